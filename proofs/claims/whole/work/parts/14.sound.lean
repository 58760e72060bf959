/-! THE SMALL MACHINE IS SOUND: what it answers, the machine answers -/
def bz_Pre (kd : Nat → Option bz_Kd) (tc : Nat → Nat → Nat) (nf : Nat → Nat) (cA : Nat → ClassId) (sM : bz_M) (sf : List (String × String × String × bz_V)) (sc : bz_Sc) (D : va_G) (cl : List vw_C) (A : Nat → Prop) (nw : List Cond) (ad : Nat → Nat) (M : bz_M) (U : State) : Prop :=
  (∀ q, U.heap.size ≤ q → A q) ∧ va_P D cl (bz_ws kd tc nf cA ad M) U.heap ∧ va_K D cl (bz_tys cA) U ∧ va_D A (bz_ws kd tc nf cA ad M) ∧ bz_St A kd tc sM sf sc ad U U.heap ∧ (∀ w ∈ nw, va_Nw w U) ∧ va_AO "BentRiver$State" U ∧ bz_Zk A U U.heap
def bz_Qc (kd : Nat → Option bz_Kd) (tc : Nat → Nat → Nat) (nf : Nat → Nat) (cA : Nat → ClassId) (wl : List (Nat × Nat × Nat)) (w : Bool) (sM : bz_M) (sf : List (String × String × String × bz_V)) (sc : bz_Sc) (D : va_G) (cl : List vw_C) (A : Nat → Prop) (nw : List Cond) (N0 : Nat) (ad0 : Nat → Nat) (r : Option bz_V) (M2 : bz_M) : Array Value → State → Outcome → State → Prop := fun _ st oc t =>
  (∃ ad2 : Nat → Nat, oc = .returned (r.map (bz_mv ad2)) ∧ (∀ q, q ≤ N0 → ad2 q = ad0 q) ∧ bz_Pre kd tc nf cA sM sf sc D cl A nw ad2 M2 t ∧ bz_wfM kd tc sM wl w M2 ∧ (∀ v, r = some v → bz_vw (bz_Nn M2) v) ∧ N0 ≤ bz_Nn M2) ∧ va_F A st t
def bz_rm (d mc ms : Nat) : Room := { frames := d + 2, cells := mc, slots := ms, locals := 40 * (d + 2) }
abbrev bz_Mt : Type := Nat → Option (MethodName × ByteArray × Nat × Option FieldType)
def bz_rtok (rt : Nat) (ret : Option FieldType) : Prop := (rt = 0 ∧ ret = none) ∨ (rt = 1 ∧ ret = some .int) ∨ (rt = 4 ∧ ret = some .boolean) ∨ (rt = 5 ∧ ret = some .char) ∨ (rt = 6 ∧ ret = some .byte) ∨ (rt = 2 ∧ ret = some .long) ∨ (rt = 3 ∧ ((∃ z, ret = some (.object z)) ∨ ∃ z, ret = some (.array z)))
def bz_okR (ins : Instr) (rt : Nat) : Prop := match ins with
  | .ireturn => rt = 1 ∨ rt = 4 ∨ rt = 5 ∨ rt = 6
  | .lreturn => rt = 2
  | .areturn => rt = 3
  | .return_ => rt = 0
  | _ => True
/-- what a call's row must say -/
def bz_okC (cl : List vw_C) (sc : bz_Sc) (Ts nw : List Cond) (mt : bz_Mt) (rtf : Nat → Nat) (y : MethodName) (ins : Instr) (i : List Nat) : Prop := i.getD 1 0 ≠ 0 ∧ (
  (∃ x, ins = .invokevirtual x ∧ ∃ y' cc' nL' ret', mt (i.getD 1 0) = some (y', cc', nL', ret') ∧ nL' = i.getD 5 0 ∧ (parseMethodDescriptor y'.desc).map (fun d => d.parameters.length) = some (i.getD 2 0) ∧ Cond.methodLink y.cls x y' ∈ Ts ∧ Cond.instanceMethod y' ∈ Ts ∧ Cond.selects y'.cls y' y' ∈ Ts ∧ ((∃ T n, cl[i.getD 4 0]? = some (y'.cls, T, n)) ∨ (12 ≤ i.getD 4 0 ∧ ∃ g n, sc (i.getD 4 0) = some (y'.cls, g, n)))) ∨
  (∃ x, ins = .invokestatic x ∧ ∃ y' cc' nL' ret', mt (i.getD 1 0) = some (y', cc', nL', ret') ∧ nL' = i.getD 5 0 ∧ (parseMethodDescriptor y'.desc).map (fun d => d.parameters.length) = some (i.getD 2 0) ∧ Cond.methodLink y.cls x y' ∈ Ts ∧ Cond.static y' ∈ Ts) ∨
  (∃ x, ins = .invokespecial x ∧ ∃ y' cc' nL', mt (i.getD 1 0) = some (y', cc', nL', none) ∧ nL' = i.getD 5 0 ∧ (parseMethodDescriptor y'.desc).map (fun d => d.parameters.length) = some (i.getD 2 0) ∧ y'.name = "<init>" ∧ Cond.instanceMethod y' ∈ Ts ∧ (Cond.methodLink y.cls x y' ∈ Ts ∨ ∃ h, Cond.methodLinkNest y.cls x y' h ∈ nw)))
/-- all that the data must be -/
def bz_Dok (P : bz_P) (tc : Nat → Nat → Nat) (nf : Nat → Nat) (wl : List (Nat × Nat × Nat)) (sf : List (String × String × String × bz_V)) (sc : bz_Sc) (cl : List vw_C) (Ts nw : List Cond) (fty : Nat → Nat → FieldType) (mt : bz_Mt) : Prop :=
  bz_Cok P.1 tc nf cl Ts fty ∧ (∀ r k, P.2.1 r k ≠ 0 → (r, k, P.2.1 r k) ∈ wl) ∧ (∀ q ∈ wl, P.2.1 q.1 q.2.1 ≠ 0) ∧ (∀ q ∈ wl, ∃ ci, P.1 q.1 = some (.inl ci)) ∧ (∀ q ∈ sf, bz_vw bz_ns q.2.2.2) ∧ bz_gd Ts ∧ bz_ckW Ts ∧
  (∀ w ∈ nw, (∃ a i b n d h, w = .fieldLinkNest a i b n d h) ∨ ∃ a i x h, w = .methodLinkNest a i x h) ∧
  (∀ m y cc nL ret, mt m = some (y, cc, nL, ret) → P.2.2.2.2.1 m = nL ∧ bz_rtok (P.2.2.2.2.2 m) ret ∧ plainFor y = true ∧ nL ≤ 21 ∧ (m ≠ 0 → Cond.code y cc nL ret ∈ Ts) ∧ (m ≠ 0 → Cond.initialized y.cls ∈ Ts) ∧ (y.cls ≠ "java/lang/invoke/MethodHandle" ∧ y.cls ≠ "java/lang/invoke/VarHandle") ∧
    ∀ pc e, P.2.2.2.1 m pc = some e → bz_okE cl sc tc Ts nw sf y pc e ∧ decode cc pc = .ok (e.1, e.2.1) ∧ bz_okR e.1 (P.2.2.2.2.2 m) ∧ (((∃ x, e.1 = .invokevirtual x) ∨ (∃ x, e.1 = .invokestatic x ∧ e.2.2.1.getD 0 0 ≠ 2 ∧ e.2.2.1.getD 0 0 ≠ 5) ∨ (∃ x, e.1 = .invokespecial x ∧ e.2.2.1.getD 0 0 ≠ 1)) → bz_okC cl sc Ts nw mt P.2.2.2.2.2 y e.1 e.2.2.1))
section SX
variable {kd : Nat → Option bz_Kd} {tc : Nat → Nat → Nat} {nf : Nat → Nat} {cA : Nat → ClassId} {wl : List (Nat × Nat × Nat)} {w : Bool} {sM : bz_M} {sf : List (String × String × String × bz_V)} {sc : bz_Sc} {D : va_G} {cl : List vw_C} {A : Nat → Prop} {nw : List Cond} {ad ad2 : Nat → Nat} {M : bz_M}
theorem bz_ent_len (a : bz_S) : (bz_entry a).length = (lg_sl (a.map (bz_mv ad))).length := by
  induction a with
  | nil => rfl
  | cons v a ih =>
    have e : lg_sl ((v :: a).map (bz_mv ad)) = (if (bz_mv ad v).category = 2 then [.val (bz_mv ad v), .second] else [.val (bz_mv ad v)]) ++ lg_sl (a.map (bz_mv ad)) := by
      unfold lg_sl
      rw [List.map_cons, List.flatMap_cons]
    rw [e, List.length_append, bz_cat_mv]
    rcases v with x | x | x
    · show (bz_entry a).length + 1 = _
      rw [ih]; simp; omega
    · show (bz_entry a).length + 1 + 1 = _
      rw [ih]; simp; omega
    · show (bz_entry a).length + 1 = _
      rw [ih]; simp; omega
theorem bz_ent_at (a : bz_S) : ∀ (b i : Nat) (v : bz_V), (bz_entry a)[i]? = some (some v) → (b + i, bz_mv ad v) ∈ lv_args b (a.map (bz_mv ad)) := by
  induction a with
  | nil => intro b i v h; simp [bz_entry] at h
  | cons u a ih =>
    intro b i v h
    rw [List.map_cons]
    unfold lv_args
    rw [bz_cat_mv]
    rcases u with x | x | x
    · cases i with
      | zero => simp [bz_entry] at h; subst h; exact List.mem_cons_self
      | succ i =>
        have h' : (bz_entry a)[i]? = some (some v) := by simpa [bz_entry] using h
        refine List.mem_cons_of_mem _ ?_
        have := ih (b + 1) i v h'
        rw [if_neg (show ¬ (1 = 2) by decide), show b + (i + 1) = b + 1 + i by omega]
        exact this
    · cases i with
      | zero => simp [bz_entry] at h; subst h; exact List.mem_cons_self
      | succ i =>
        cases i with
        | zero => simp [bz_entry] at h
        | succ i =>
          have h' : (bz_entry a)[i]? = some (some v) := by simpa [bz_entry] using h
          refine List.mem_cons_of_mem _ ?_
          have := ih (b + 2) i v h'
          rw [if_pos rfl, show b + (i + 1 + 1) = b + 2 + i by omega]
          exact this
    · cases i with
      | zero => simp [bz_entry] at h; subst h; exact List.mem_cons_self
      | succ i =>
        have h' : (bz_entry a)[i]? = some (some v) := by simpa [bz_entry] using h
        refine List.mem_cons_of_mem _ ?_
        have := ih (b + 1) i v h'
        rw [if_neg (show ¬ (1 = 2) by decide), show b + (i + 1) = b + 1 + i by omega]
        exact this
theorem bz_ent_in {a : bz_S} {nL i : Nat} {v : bz_V} (h : (bz_ent a nL)[i]? = some (some v)) : (bz_entry a)[i]? = some (some v) := by
  unfold bz_ent at h
  by_cases hi : i < (bz_entry a).length
  · rw [List.getElem?_append_left hi] at h; exact h
  · rw [List.getElem?_append_right (by omega), List.getElem?_replicate] at h
    split at h <;> cases h
theorem bz_ent_mem {a : bz_S} {i : Nat} {v : bz_V} (h : (bz_entry a)[i]? = some (some v)) : v ∈ a := by
  induction a generalizing i with
  | nil => simp [bz_entry] at h
  | cons u a ih =>
    rcases u with x | x | x
    · cases i with
      | zero => simp [bz_entry] at h; subst h; exact List.mem_cons_self
      | succ i => exact List.mem_cons_of_mem _ (ih (i := i) (by simpa [bz_entry] using h))
    · cases i with
      | zero => simp [bz_entry] at h; subst h; exact List.mem_cons_self
      | succ i =>
        cases i with
        | zero => simp [bz_entry] at h
        | succ i => exact List.mem_cons_of_mem _ (ih (i := i) (by simpa [bz_entry] using h))
    · cases i with
      | zero => simp [bz_entry] at h; subst h; exact List.mem_cons_self
      | succ i => exact List.mem_cons_of_mem _ (ih (i := i) (by simpa [bz_entry] using h))
theorem bz_mv_ag {N : Nat} {v : bz_V} (h : ∀ q, q ≤ N → ad2 q = ad q) (hv : bz_vw N v) : bz_mv ad2 v = bz_mv ad v := by
  rcases v with x | x | x
  · rfl
  · rfl
  · unfold bz_mv
    dsimp only
    split
    · rfl
    · rw [h x hv]
theorem bz_val_ag {N t : Nat} {x : Int} (h : ∀ q, q ≤ N → ad2 q = ad q) (hr : bz_rg t N x) : bz_val ad2 t x = bz_val ad t x := by
  unfold bz_val
  split
  · rfl
  · split
    · rfl
    · rw [h _ hr.2]
  · rfl
theorem bz_St_ag {N : Nat} {U : State} {Hx : Heap} (hag : ∀ q, q ≤ N → ad2 q = ad q) (hN : bz_ns ≤ N) (hs : ∀ r k, r ≠ 0 → r ≤ bz_ns → bz_rg (bz_tr kd tc r k) N (sM r k)) (hsf : ∀ q ∈ sf, bz_vw bz_ns q.2.2.2) (h : bz_St A kd tc sM sf sc ad U Hx) : bz_St A kd tc sM sf sc ad2 U Hx := by
  obtain ⟨h1, h2, h3, h4⟩ := h
  refine ⟨fun q hq => ?_, fun r t n e1 e2 e3 => ?_, fun r ci e1 e2 e3 => ?_, fun r r' e1 e2 e3 e4 e5 e6 e7 => ?_⟩
  · rw [bz_mv_ag hag ((hsf q hq).mono hN)]; exact h1 q hq
  · have g := h2 r t n e1 e2 e3
    rw [hag r (by omega)]
    have e : (fun j => bz_val ad2 (if t = 6 then 2 else 0) (sM r j)) = (fun j => bz_val ad (if t = 6 then 2 else 0) (sM r j)) := by
      funext j
      by_cases ht : t = 6
      · rw [if_pos ht]
        have g2 := hs r j e1 e2
        rw [bz_trA e3, ht] at g2
        exact bz_val_ag hag g2
      · rw [if_neg ht]; rfl
    rw [e]; exact g
  · obtain ⟨q, g1, g2, g3⟩ := h3 r ci e1 e2 e3
    rw [hag r (by omega)]
    refine ⟨q, g1, g2, fun k hk => ?_⟩
    have g4 := hs r k e1 e2
    unfold bz_tr at g4
    rw [e3] at g4
    rw [bz_val_ag hag g4]
    exact g3 k hk
  · rw [hag r (by omega), hag r' (by omega)] at e7
    exact h4 r r' e1 e2 e3 e4 e5 e6 e7
theorem bz_nw_warm {s U : State} (hnw : ∀ w ∈ nw, (∃ a i b n d h, w = .fieldLinkNest a i b n d h) ∨ ∃ a i x h, w = .methodLinkNest a i x h) (hW : s.WarmedH U.vm) (h : ∀ w ∈ nw, va_Nw w s) : ∀ w ∈ nw, va_Nw w U := by
  intro w hw
  have hs := h w hw
  rcases hnw w hw with ⟨a, i, b, n, d, h, rfl⟩ | ⟨a, i, x, h, rfl⟩
  · exact va_Nw.warmF hW hs
  · exact va_Nw.warmM hW hs
theorem bz_Pre_blind {av : List Value} (hnw : ∀ w ∈ nw, (∃ a i b n d h, w = .fieldLinkNest a i b n d h) ∨ ∃ a i x h, w = .methodLinkNest a i x h) : FrameBlind (va_Pc av (bz_Pre kd tc nf cA sM sf sc D cl A nw ad M)) := by
  intro a U g mk h
  obtain ⟨rfl, h1, h2, h3, h4, h5, h6, h7, h8⟩ := h
  refine ⟨rfl, h1, h2, va_K.moved (u := U) (U := U.calling g mk _) (Vm.Alike.refl U.vm) h3, h4, bz_St.moved (u := U) (U := U.calling g mk _) (Vm.Alike.refl U.vm) h5, fun w hw => ?_, va_AO.moved (u := U) (U := U.calling g mk _) (Vm.Alike.refl U.vm) h7, va_Zq.moved (u := U) (U := U.calling g mk _) (Vm.Alike.refl U.vm) h8⟩
  rcases hnw w hw with ⟨a, i, b, n, d, h, rfl⟩ | ⟨a, i, x, h, rfl⟩
  · exact va_Nw.same (U := U.calling g mk _) rfl rfl (h6 _ hw)
  · exact va_Nw.same (U := U.calling g mk _) rfl rfl (h6 _ hw)
end SX
section SM
variable {kd : Nat → Option bz_Kd} {wr : Nat → Nat → Nat} {w : Bool} {rt : Nat} {L : bz_Ls} {st : bz_S} {M : bz_M}
set_option maxHeartbeats 4000000 in
set_option maxRecDepth 100000 in
/-- regions never go -/
theorem bz_step_N {e0 : bz_E} {pc q1 : Nat} {q2 : bz_Ls} {q3 : bz_S} {q4 : bz_M} (h0 : kd 0 = none) (ho : bz_step kd wr w rt e0 pc L st M = some (.inr (.inl (q1, q2, q3, q4)))) : bz_Nn M ≤ bz_Nn q4 := by
  obtain ⟨ins, lnn, i, vl, fg⟩ := e0
  unfold bz_step at ho
  dsimp only at ho
  generalize bz_fg fg L = L2 at ho
  cases ins
  case putfield x =>
    dsimp only at ho
    unfold bz_put at ho
    split at ho
    · split at ho
      · rename_i h
        have hr : ∀ {r : Nat} {z : bz_Kd}, kd r = some z → r ≠ 0 := fun {r z} h1 e => by rw [e, h0] at h1; cases h1
        have hr := hr h.1
        split at ho
        · have e := (bz_Nx ho).2.2.2; rw [← e, bz_Nn_up hr]; exact Nat.le_refl _
        · split at ho
          · have e := (bz_Nx ho).2.2.2; rw [← e, bz_Nn_up hr]; exact Nat.le_refl _
          · cases ho
        · have e := (bz_Nx ho).2.2.2; rw [← e, bz_Nn_up hr]; exact Nat.le_refl _
        · have e := (bz_Nx ho).2.2.2; rw [← e, bz_Nn_up hr]; exact Nat.le_refl _
        · cases ho
      · cases ho
    · cases ho
  case new x =>
    dsimp only at ho
    unfold bz_new at ho
    split at ho
    · have e : bz_Mn M = q4 := (bz_Nx ho).2.2.2
      rw [← e, bz_Mn_N]; omega
    · cases ho
  case newarray x =>
    dsimp only at ho
    unfold bz_newa at ho
    split at ho
    · split at ho
      · have e : bz_Mn M = q4 := (bz_Nx ho).2.2.2
        rw [← e, bz_Mn_N]; omega
      · cases ho
    · cases ho
  case anewarray x =>
    dsimp only at ho
    unfold bz_newa at ho
    split at ho
    · split at ho
      · have e : bz_Mn M = q4 := (bz_Nx ho).2.2.2
        rw [← e, bz_Mn_N]; omega
      · cases ho
    · cases ho
  case tableswitch d lo hi os =>
    dsimp only at ho
    unfold bz_tsw at ho
    split at ho
    · rw [(bz_sw_at ho).2.2.1]; exact Nat.le_refl _
    · cases ho
  case lookupswitch d ps =>
    dsimp only at ho
    unfold bz_lsw at ho
    split at ho
    · rw [(bz_sw_at ho).2.2.1]; exact Nat.le_refl _
    · cases ho
  case invokestatic x =>
    dsimp only at ho
    split at ho
    · unfold bz_acpy at ho
      split at ho
      · split at ho
        · split at ho
          · rename_i h
            have e := (bz_Nx ho).2.2.2
            rw [← e]
            unfold bz_Nn
            rw [bz_cpy_r M (by omega)]
            exact Nat.le_refl _
          · cases ho
        · cases ho
      · cases ho
    · split at ho
      · rw [← bz_chk_M ho]; exact Nat.le_refl _
      · unfold bz_invS bz_call at ho
        split at ho
        · split at ho <;> cases ho
        · cases ho
  case aastore =>
    dsimp only at ho
    unfold bz_astA at ho
    split at ho
    · split at ho
      · split at ho
        · rename_i h
          split at ho
          · have e := (bz_Nx ho).2.2.2; rw [← e, bz_Nn_up (by omega)]; exact Nat.le_refl _
          · cases ho
        · cases ho
      · cases ho
    · cases ho
  case bastore =>
    dsimp only at ho
    split at ho
    all_goals
      unfold bz_ast at ho
      split at ho
      · split at ho
        · split at ho
          · rename_i h
            split at ho
            · have e := (bz_Nx ho).2.2.2; rw [← e, bz_Nn_up (by omega)]; exact Nat.le_refl _
            · cases ho
          · cases ho
        · cases ho
      · cases ho
  case' iastore => skip
  case' castore => skip
  case' lastore => skip
  all_goals dsimp only at ho
  all_goals first
    | (cases ho; done)
    | (unfold bz_ast at ho
       split at ho
       · split at ho
         · split at ho
           · rename_i h
             split at ho
             · have e := (bz_Nx ho).2.2.2; rw [← e, bz_Nn_up (by omega)]; exact Nat.le_refl _
             · cases ho
           · cases ho
         · cases ho
       · cases ho)
    | (simp only [bz_ldA, bz_ldI, bz_ldL, bz_stA, bz_stI, bz_stL, bz_inc, bz_get, bz_ald, bz_len, bz_i1, bz_i2, bz_i2d, bz_l1, bz_l2, bz_l2d, bz_dup, bz_dup2, bz_pop, bz_popr, bz_if, bz_icmp, bz_br, bz_acmp, bz_ifn, bz_ret, bz_invV, bz_call, bz_nx] at ho
       repeat' split at ho
       all_goals first
         | (cases ho; exact Nat.le_refl _)
         | (cases ho; done))
    | (cases ho; exact Nat.le_refl _)
theorem bz_sw_nx (ps : List (Int × Nat)) (dflt : Nat) (x : Int) : ∃ q, bz_sw ps dflt x L st M = some (.inr (.inl q)) := by
  induction ps with
  | nil => exact ⟨_, rfl⟩
  | cons a ps ih =>
    obtain ⟨v, t⟩ := a
    unfold bz_sw
    split
    · exact ⟨_, rfl⟩
    · exact ih
set_option maxHeartbeats 4000000 in
set_option maxRecDepth 100000 in
theorem bz_step_R {e0 : bz_E} {pc : Nat} {r : Option bz_V × bz_M} (ho : bz_step kd wr w rt e0 pc L st M = some (.inl r)) : (e0.1 = .ireturn ∨ e0.1 = .lreturn ∨ e0.1 = .areturn ∨ e0.1 = .return_) ∧ bz_ret rt st M = some (.inl r) := by
  obtain ⟨ins, lnn, i, vl, fg⟩ := e0
  unfold bz_step at ho
  dsimp only at ho ⊢
  generalize bz_fg fg L = L2 at ho
  cases ins
  case ireturn => exact ⟨Or.inl rfl, ho⟩
  case lreturn => exact ⟨Or.inr (Or.inl rfl), ho⟩
  case areturn => exact ⟨Or.inr (Or.inr (Or.inl rfl)), ho⟩
  case return_ => exact ⟨Or.inr (Or.inr (Or.inr rfl)), ho⟩
  case tableswitch d lo hi os =>
    dsimp only at ho
    unfold bz_tsw at ho
    split at ho
    · rename_i x st'
      obtain ⟨q, hq⟩ := bz_sw_nx (L := L2) (st := st') (M := M) ((List.range os.size).map (fun (i : Nat) => (lo + (i : Int), bz_tg pc (os.getD i 0)))) (bz_tg pc d) x
      rw [hq] at ho
      cases ho
    · cases ho
  case lookupswitch d ps =>
    dsimp only at ho
    unfold bz_lsw at ho
    split at ho
    · rename_i x st'
      obtain ⟨q, hq⟩ := bz_sw_nx (L := L2) (st := st') (M := M) (ps.toList.map (fun q => (q.1, bz_tg pc q.2))) (bz_tg pc d) x
      rw [hq] at ho
      cases ho
    · cases ho
  all_goals dsimp only at ho
  all_goals first
    | (cases ho; done)
    | (simp only [bz_ldA, bz_ldI, bz_ldL, bz_stA, bz_stI, bz_stL, bz_inc, bz_get, bz_put, bz_ald, bz_ast, bz_astA, bz_len, bz_i1, bz_i2, bz_i2d, bz_l1, bz_l2, bz_l2d, bz_dup, bz_dup2, bz_pop, bz_popr, bz_if, bz_icmp, bz_br, bz_acmp, bz_ifn, bz_ret, bz_invV, bz_invS, bz_call, bz_acpy, bz_chk, bz_new, bz_newa, bz_nx] at ho
       repeat' split at ho
       all_goals (cases ho; done))
set_option maxHeartbeats 4000000 in
set_option maxRecDepth 100000 in
theorem bz_step_C {e0 : bz_E} {pc : Nat} {g : bz_C} (ho : bz_step kd wr w rt e0 pc L st M = some (.inr (.inr g))) : (((∃ x, e0.1 = .invokevirtual x) ∨ ∃ x, e0.1 = .invokespecial x ∧ e0.2.2.1.getD 0 0 ≠ 1) ∧ bz_invV kd e0.2.2.1 (pc + e0.2.1) (bz_fg e0.2.2.2.2 L) st M = some (.inr (.inr g))) ∨ ((∃ x, e0.1 = .invokestatic x ∧ e0.2.2.1.getD 0 0 ≠ 2 ∧ e0.2.2.1.getD 0 0 ≠ 5) ∧ bz_invS e0.2.2.1 (pc + e0.2.1) (bz_fg e0.2.2.2.2 L) st = some (.inr (.inr g))) := by
  obtain ⟨ins, lnn, i, vl, fg⟩ := e0
  unfold bz_step at ho
  dsimp only at ho ⊢
  generalize bz_fg fg L = L2 at ho ⊢
  cases ins
  case invokevirtual x => exact Or.inl ⟨Or.inl ⟨x, rfl⟩, ho⟩
  case invokespecial x =>
    dsimp only at ho
    split at ho
    · simp only [bz_popr, bz_nx] at ho
      repeat' split at ho
      all_goals (cases ho; done)
    · rename_i h
      exact Or.inl ⟨Or.inr ⟨x, rfl, h⟩, ho⟩
  case invokestatic x =>
    dsimp only at ho
    split at ho
    · simp only [bz_acpy, bz_nx] at ho
      repeat' split at ho
      all_goals (cases ho; done)
    · rename_i h1
      split at ho
      · simp only [bz_chk, bz_nx] at ho
        repeat' split at ho
        all_goals (cases ho; done)
      · rename_i h2
        exact Or.inr ⟨⟨x, rfl, h1, h2⟩, ho⟩
  case tableswitch d lo hi os =>
    dsimp only at ho
    unfold bz_tsw at ho
    split at ho
    · rename_i x st'
      obtain ⟨q, hq⟩ := bz_sw_nx (L := L2) (st := st') (M := M) ((List.range os.size).map (fun (i : Nat) => (lo + (i : Int), bz_tg pc (os.getD i 0)))) (bz_tg pc d) x
      rw [hq] at ho
      cases ho
    · cases ho
  case lookupswitch d ps =>
    dsimp only at ho
    unfold bz_lsw at ho
    split at ho
    · rename_i x st'
      obtain ⟨q, hq⟩ := bz_sw_nx (L := L2) (st := st') (M := M) (ps.toList.map (fun q => (q.1, bz_tg pc q.2))) (bz_tg pc d) x
      rw [hq] at ho
      cases ho
    · cases ho
  all_goals dsimp only at ho
  all_goals first
    | (cases ho; done)
    | (simp only [bz_ldA, bz_ldI, bz_ldL, bz_stA, bz_stI, bz_stL, bz_inc, bz_get, bz_put, bz_ald, bz_ast, bz_astA, bz_len, bz_i1, bz_i2, bz_i2d, bz_l1, bz_l2, bz_l2d, bz_dup, bz_dup2, bz_pop, bz_popr, bz_if, bz_icmp, bz_br, bz_acmp, bz_ifn, bz_ret, bz_invV, bz_invS, bz_call, bz_acpy, bz_chk, bz_new, bz_newa, bz_nx] at ho
       repeat' split at ho
       all_goals (cases ho; done))
end SM

/-! SOUND: calls, returns, and the induction -/
section SY
variable {p : Program} {l : Launch} {e : Env} {R : Room} {s : State} {m : MethodId} {args : Array Value} {below : List Frame} {meth : Method} {c : Code} {H : Heap} {locs : List Loc} {cells slots : Nat} {Q : State → Prop}
variable {kd : Nat → Option bz_Kd} {tc : Nat → Nat → Nat} {nf : Nat → Nat} {cA : Nat → ClassId} {wl : List (Nat × Nat × Nat)} {w : Bool} {sM : bz_M} {sf : List (String × String × String × bz_V)} {sc : bz_Sc} {D : va_G} {cl : List vw_C} {A : Nat → Prop} {nw : List Cond} {ad ad0 : Nat → Nat} {M : bz_M}
theorem bz_callx {pc mc ms N1 : Nat} {ls : Array Slot} {st0 rest : List Value} {a' : Array Value} {r : Option bz_V} {M2 : bz_M} (hr : va_Run p l e R s m args below meth c H locs cells slots mc ms (F0 m pc ls st0) rest (bz_Qc kd tc nf cA wl w sM sf sc D cl A nw N1 ad r M2 a') A) (hS : va_S A s.heap H locs)
    (kk : ∀ (ad2 : Nat → Nat) (H1 : Heap) (locs1 : List Loc), (∀ q, q ≤ N1 → ad2 q = ad q) → va_P D cl (bz_ws kd tc nf cA ad2 M2) H1 → va_D A (bz_ws kd tc nf cA ad2 M2) → bz_wfM kd tc sM wl w M2 → (∀ v, r = some v → bz_vw (bz_Nn M2) v) → N1 ≤ bz_Nn M2 → va_S A s.heap H1 locs1 → W p l e R s m args below meth c H1 locs1 (cells + mc) (slots + ms) Q (F0 m (pc + 3) ls ((r.map (bz_mv ad2)).toList ++ rest))) : W p l e R s m args below meth c H locs cells slots Q (F0 m pc ls st0) := by
  intro T hT X
  obtain ⟨v, st₀, t, T', L, h0, X', hL, e1, e2, ⟨⟨ad2, hv, hag, hpre, hwf, hvw, hN⟩, hz, hk⟩, st⟩ := hr T hT X
  cases hv
  rw [h0] at hz hk
  obtain ⟨t2, a1, b1⟩ := kk ad2 T'.heap (locs ++ L) hag (by rw [e1]; exact hpre.2.1) hpre.2.2.2.1 hwf hvw hN
    ⟨Nat.le_trans hS.1 (by rw [e1]; exact hz), fun q h1 h2 => by rw [e1, hk q (Nat.lt_of_lt_of_le h1 hS.1) h2]; exact hS.2.1 q h1 h2, fun q hq => by
      rcases List.mem_append.mp hq with h | h
      · exact hS.2.2 q h
      · exact hL q h⟩ T' rfl X'
  exact ⟨t2, st t2 a1, b1⟩
/-- a state that a call begins in -/
theorem bz_preU {U : State} (hnw : ∀ w ∈ nw, (∃ a i b n d h, w = .fieldLinkNest a i b n d h) ∨ ∃ a i x h, w = .methodLinkNest a i x h) (hA : ∀ q, s.heap.size ≤ q → A q) (hP : va_P D cl (bz_ws kd tc nf cA ad M) H) (hK : va_K D cl (bz_tys cA) s) (hD : va_D A (bz_ws kd tc nf cA ad M)) (hS : va_S A s.heap H locs) (hSt : bz_St A kd tc sM sf sc ad s s.heap) (hw : ∀ w ∈ nw, va_Nw w s) (hao : va_AO "BentRiver$State" s) (hZ : bz_Zk A s s.heap) (hU : U.heap = H) (hW : s.WarmedH U.vm) : bz_Pre kd tc nf cA sM sf sc D cl A nw ad M U := by
  have hq : ∀ a : Nat, a < s.heap.size → ¬ A a → U.heap[a]? = s.heap[a]? := fun a h1 h2 => by rw [hU]; exact hS.2.1 a h1 h2
  refine ⟨fun q h => hA q (Nat.le_trans hS.1 (by rw [hU] at h; exact h)), by rw [hU]; exact hP, va_K.moved hW.alike hK, hD, (hSt.moved hW.alike).kept hq, bz_nw_warm hnw hW hw, va_AO.moved hW.alike hao, ?_⟩
  exact va_Zq.kept (va_Zq.moved hW.alike hZ) hq
end SY
def bz_Snd (l : Launch) (P : bz_P) (tc : Nat → Nat → Nat) (nf : Nat → Nat) (cA : Nat → ClassId) (wl : List (Nat × Nat × Nat)) (sM : bz_M) (sf : List (String × String × String × bz_V)) (sc : bz_Sc) (D : va_G) (cl : List vw_C) (A : Nat → Prop) (Ts nw : List Cond) (mt : bz_Mt) (f : Nat) : Prop :=
  ∀ (d mi : Nat) (y : MethodName) (cc : ByteArray) (nL : Nat) (ret : Option FieldType) (pc : Nat) (L : bz_Ls) (st : bz_S) (M : bz_M) (r : Option bz_V) (M2 : bz_M), mt mi = some (y, cc, nL, ret) → bz_run P f d mi pc L st M = some (r, M2) →
  ∀ (p : Program) (e : Env) (R : Room) (s : State) (m : MethodId) (args : Array Value) (below : List Frame) (meth : Method) (c : Code) (N0 : Nat) (ad0 ad : Nat → Nat) (H : Heap) (locs : List Loc) (ls : Array Slot), bz_Fx Ts nw y cc nL ret D cl cA p m c s args meth → bz_Zk A s s.heap → (∀ q, s.heap.size ≤ q → A q) → (d + 2 ≤ R.frames ∧ 40 * (d + 2) ≤ R.locals ∧ bz_Nn M2 - N0 ≤ R.cells ∧ bz_sl P.1 nf (bz_Nn M2) - bz_sl P.1 nf N0 ≤ R.slots) →
  bz_Inv P.1 tc nf cA wl P.2.2.1 sM sf sc D cl A s nL N0 ad0 L st M ad H locs ls →
  W p l e R s m args below meth c H locs (bz_Nn M - N0) (bz_sl P.1 nf (bz_Nn M) - bz_sl P.1 nf N0) (MQ below (bz_Qc P.1 tc nf cA wl P.2.2.1 sM sf sc D cl A nw N0 ad0 r M2) args s (bz_Nn M2 - N0) (bz_sl P.1 nf (bz_Nn M2) - bz_sl P.1 nf N0) A) (F0 m pc ls (st.map (bz_mv ad)))
section SZ
variable {l : Launch} {P : bz_P} {tc : Nat → Nat → Nat} {nf : Nat → Nat} {cA : Nat → ClassId} {wl : List (Nat × Nat × Nat)} {sM : bz_M} {sf : List (String × String × String × bz_V)} {sc : bz_Sc} {D : va_G} {cl : List vw_C} {A : Nat → Prop} {Ts nw : List Cond} {fty : Nat → Nat → FieldType} {mt : bz_Mt}
theorem bz_run_N (h0 : P.1 0 = none) : ∀ (f d mi pc : Nat) (L : bz_Ls) (st : bz_S) (M : bz_M) (x : bz_Rs), bz_run P f d mi pc L st M = some x → bz_Nn M ≤ bz_Nn x.2
  | 0, _, _, _, _, _, _, _, h => by cases h
  | f + 1, d, mi, pc, L, st, M, x, h => by
    rw [bz_run_F] at h
    unfold bz_F at h
    cases ht : P.2.2.2.1 mi pc with
    | none => rw [ht] at h; cases h
    | some e =>
      rw [ht] at h
      dsimp only at h
      cases hs : bz_step P.1 P.2.1 P.2.2.1 (P.2.2.2.2.2 mi) e pc L st M with
      | none => rw [hs] at h; cases h
      | some o =>
        rw [hs] at h
        rcases o with r | n | g
        · have h := Option.some.inj h
          subst h
          have h2 := (bz_step_R hs).2
          unfold bz_ret at h2
          split at h2 <;> first | (cases h2; exact Nat.le_refl _) | (split at h2 <;> first | (cases h2; exact Nat.le_refl _) | cases h2) | cases h2
        · obtain ⟨pc', L', st', M'⟩ := n
          exact Nat.le_trans (bz_step_N h0 hs) (bz_run_N h0 f d mi pc' L' st' M' x h)
        · obtain ⟨m', a, pc', L', st', rk⟩ := g
          cases d with
          | zero => cases h
          | succ d' =>
            dsimp only at h
            cases h1 : bz_run P f d' m' 0 (bz_ent a (P.2.2.2.2.1 m')) [] M with
            | none => rw [h1] at h; cases h
            | some y =>
              rw [h1] at h
              obtain ⟨v, M'⟩ := y
              dsimp only at h
              cases h2 : bz_back rk v st' with
              | none => rw [h2] at h; cases h
              | some st'' =>
                rw [h2] at h
                exact Nat.le_trans (bz_run_N h0 f d' m' 0 _ [] M _ h1) (bz_run_N h0 f (d' + 1) mi pc' L' st'' M' x h)
set_option maxHeartbeats 4000000 in
/-- a method's contract, out of the walk of its body -/
theorem bz_met {f d mi : Nat} {y : MethodName} {cc : ByteArray} {nL : Nat} {ret : Option FieldType} {a : bz_S} {M : bz_M} {r : Option bz_V} {M2 : bz_M} (hS : bz_Snd l P tc nf cA wl sM sf sc D cl A Ts nw mt f) (hD : bz_Dok P tc nf wl sf sc cl Ts nw fty mt) (hm : mt mi = some (y, cc, nL, ret)) (hrun : bz_run P f d mi 0 (bz_ent a nL) [] M = some (r, M2)) (hwf : bz_wfM P.1 tc sM wl P.2.2.1 M) (ha : bz_Sw (bz_Nn M) a) (hl : (bz_entry a).length ≤ nL) (ad : Nat → Nat) :
    Met l y (Cond.code y cc nL ret :: Ts) (bz_rm d (bz_Nn M2 - bz_Nn M) (bz_sl P.1 nf (bz_Nn M2) - bz_sl P.1 nf (bz_Nn M))) (va_Pc (a.map (bz_mv ad)) (bz_Pre P.1 tc nf cA sM sf sc D cl A nw ad M)) (bz_Qc P.1 tc nf cA wl P.2.2.1 sM sf sc D cl A nw (bz_Nn M) ad r M2) (bz_Nn M2 - bz_Nn M) (bz_sl P.1 nf (bz_Nn M2) - bz_sl P.1 nf (bz_Nn M)) A := by
  obtain ⟨g1, g2, g3, g4, g5, g6, g7, g8⟩ := hD.2.2.2.2.2.2.2.2 mi y cc nL ret hm
  refine va_MetF (cc := cc) (maxL := nL) (ret := ret) g3 rfl ?_
  intro p e s m args below meth c s₁ B hml hv
  obtain ⟨rfl, hA, hP, hK, hDD, hSt, hnw, hao, hZ⟩ := hv
  have hts0 := atoms_spec (ws := Cond.code y cc nL ret :: Ts) B.pre
  have hts : ∀ w ∈ Ts, w.before (a.map (bz_mv ad)).toArray s = true := fun w hw => hts0 w (List.mem_cons_of_mem _ hw)
  have hown : s.vm.findClass y.cls = some m.cls := findClass_of_methodNamed B.named
  have hin : y.name = "<init>" → meth.name = "<init>" := fun h => by
    have := (name_of_methodNamed B.named B.method).1
    rw [this]; exact h
  have hF : bz_Fx Ts nw y cc nL ret D cl cA p m c s (a.map (bz_mv ad)).toArray meth := ⟨B.exec, B.bytes, hml, hown, hts, B.returns, B.notSynchronized, hin, hK, hnw, hao⟩
  have hl2 : (lg_sl (a.map (bz_mv ad))).length ≤ nL := by rw [← bz_ent_len]; exact hl
  have hle := lv_entry (a.map (bz_mv ad)) (n := nL) hl2
  rw [lg_entry_eq]
  generalize (lg_sl (a.map (bz_mv ad)) ++ List.replicate (nL - (lg_sl (a.map (bz_mv ad))).length) Slot.unset).toArray = ls at hle ⊢
  have hlr : bz_lr ad (bz_ent a nL) ls nL := by
    refine ⟨hle.1, hle.2.1, ?_, fun i v hv => ?_⟩
    · unfold bz_ent
      rw [List.length_append, List.length_replicate]
      omega
    · have h1 := bz_ent_at (ad := ad) a 0 i v (bz_ent_in hv)
      rw [Nat.zero_add] at h1
      exact hle.2.2 _ h1
  have hI : bz_Inv P.1 tc nf cA wl P.2.2.1 sM sf sc D cl A s nL (bz_Nn M) ad (bz_ent a nL) [] M ad s.heap [] ls := ⟨hP, hDD, va_S.rf, hwf, hlr, fun i v hv => ha v (bz_ent_mem (bz_ent_in hv)), fun v hv => absurd hv List.not_mem_nil, hSt, fun _ _ => rfl, Nat.le_refl _⟩
  have hW := hS d mi y cc nL ret 0 (bz_ent a nL) [] M r M2 hm hrun p e (bz_rm d (bz_Nn M2 - bz_Nn M) (bz_sl P.1 nf (bz_Nn M2) - bz_sl P.1 nf (bz_Nn M))) s m _ below meth c (bz_Nn M) ad ad s.heap [] ls hF hZ hA ⟨Nat.le_refl _, Nat.le_refl _, Nat.le_refl _, Nat.le_refl _⟩ hI
  rw [Nat.sub_self, Nat.sub_self] at hW
  exact hW
end SZ

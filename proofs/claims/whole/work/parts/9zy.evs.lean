/-! THE WALK IS ONE OF THE SMALL MACHINE -/
section ZG
variable {Lg rt : Nat} {B : bz_M} {e : bz_E} {p N : Nat} {L : bz_Ls} {st : bz_S} {W : zW}
theorem zq_put {r k : Nat} {v : Int} {pc : Nat} {n : zNx} (h : zput r k v pc L st N W = some n) (ho : zok N W) : bz_nx pc L st (bz_up (mm B N W) r k v) = some (.inr (.inl (n.1, n.2.1, n.2.2.1, mm B n.2.2.2.1 n.2.2.2.2))) ∧ zok n.2.2.2.1 n.2.2.2.2 := by
  obtain ⟨h1, rfl, h2⟩ := zput_at h ho
  exact ⟨by rw [mm_up (by omega)]; rfl, h2⟩
theorem zq_new {z : bz_Kd} {pc : Nat} {n : zNx} (hB : ∀ r k, bz_ns < r → B r k = 0) (h : znew z pc L st N W = some n) (ho : zok N W) : bz_kd Lg (N + 1) = some z ∧ bz_nx pc L (.inr (.inr (N + 1)) :: st) (bz_up (bz_zero (mm B N W) (N + 1)) 0 0 ((N + 1 : Nat) : Int)) = some (.inr (.inl (n.1, n.2.1, n.2.2.1, mm B n.2.2.2.1 n.2.2.2.2))) ∧ zok n.2.2.2.1 n.2.2.2.2 := by
  obtain ⟨h1, rfl, h2⟩ := znew_at (Lg := Lg) h ho
  exact ⟨h1, by rw [mm_new ho hB]; rfl, h2⟩
theorem put_0 {i : List Nat} {pc r : Nat} {x : Int} {M : bz_M} {kd : Nat → Option bz_Kd} {wr : Nat → Nat → Nat} (h : i.getD 2 9 = 0) (hk : kd r = some (.inl (i.getD 0 0))) : bz_put kd wr false i pc L (.inl x :: .inr (.inr r) :: st) M = bz_nx pc L st (bz_up M r (i.getD 1 0) x) := by
  unfold bz_put
  dsimp only
  rw [if_pos ⟨hk, fun q => by cases q⟩, h]
  rfl
theorem put_4 {i : List Nat} {pc r : Nat} {x : Int} {M : bz_M} {kd : Nat → Option bz_Kd} {wr : Nat → Nat → Nat} (h : i.getD 2 9 = 4) (hk : kd r = some (.inl (i.getD 0 0))) (hx : x = 0 ∨ x = 1) : bz_put kd wr false i pc L (.inl x :: .inr (.inr r) :: st) M = bz_nx pc L st (bz_up M r (i.getD 1 0) x) := by
  unfold bz_put
  dsimp only
  rw [if_pos ⟨hk, fun q => by cases q⟩, h]
  exact if_pos hx
theorem put_1 {i : List Nat} {pc r : Nat} {x : Int} {M : bz_M} {kd : Nat → Option bz_Kd} {wr : Nat → Nat → Nat} (h : i.getD 2 9 = 1) (hk : kd r = some (.inl (i.getD 0 0))) : bz_put kd wr false i pc L (.inr (.inl x) :: .inr (.inr r) :: st) M = bz_nx pc L st (bz_up M r (i.getD 1 0) x) := by
  unfold bz_put
  dsimp only
  rw [if_pos ⟨hk, fun q => by cases q⟩, h]
  rfl
theorem put_2 {i : List Nat} {pc r : Nat} {x : Nat} {M : bz_M} {kd : Nat → Option bz_Kd} {wr : Nat → Nat → Nat} (h : i.getD 2 9 = 2) (hk : kd r = some (.inl (i.getD 0 0))) : bz_put kd wr false i pc L (.inr (.inr x) :: .inr (.inr r) :: st) M = bz_nx pc L st (bz_up M r (i.getD 1 0) (x : Int)) := by
  unfold bz_put
  dsimp only
  rw [if_pos ⟨hk, fun q => by cases q⟩, h]
  rfl
set_option maxHeartbeats 4000000 in
set_option maxRecDepth 100000 in
theorem es_ok (hB : ∀ r k, bz_ns < r → B r k = 0) (hf : e.2.2.2.2 = []) (ho : zok N W) {n : zNx} (h : es e p L st N W = some n) : bz_step (bz_kd Lg) bz_wr false rt e p L st (mm B N W) = some (.inr (.inl (n.1, n.2.1, n.2.2.1, mm B n.2.2.2.1 n.2.2.2.2))) ∧ zok n.2.2.2.1 n.2.2.2.2 := by
  obtain ⟨ins, ln, i, vl, fg⟩ := e
  dsimp only at hf
  subst hf
  unfold es at h
  unfold bz_step
  dsimp only at h ⊢
  rw [show bz_fg [] L = L from rfl]
  cases ins
  case aload_n k =>
    dsimp only at h ⊢
    unfold bz_ldA
    split at h
    · rename_i x hx
      cases h
      rw [hx]
      exact ⟨rfl, ho⟩
    · cases h
  case iload_n k =>
    dsimp only at h ⊢
    unfold bz_ldI
    split at h
    · rename_i x hx
      cases h
      rw [hx]
      exact ⟨rfl, ho⟩
    · cases h
  case istore_n k =>
    dsimp only at h ⊢
    split at h
    · split at h
      · rename_i hx
        cases h
        exact ⟨if_pos hx, ho⟩
      · cases h
    · cases h
  case iinc k z =>
    dsimp only at h ⊢
    unfold bz_inc
    split at h
    · rename_i x hx
      cases h
      rw [hx]
      exact ⟨rfl, ho⟩
    · cases h
  case iconst z => cases h; exact ⟨rfl, ho⟩
  case bipush z => cases h; exact ⟨rfl, ho⟩
  case sipush z => cases h; exact ⟨rfl, ho⟩
  case lconst z => cases h; exact ⟨rfl, ho⟩
  case aconst_null => cases h; exact ⟨rfl, ho⟩
  case dup =>
    dsimp only at h ⊢
    split at h
    · cases h; exact ⟨rfl, ho⟩
    · cases h
  case getfield x =>
    dsimp only at h ⊢
    split at h
    · rename_i r st'
      split at h
      · rename_i hc
        split at h
        · rename_i v hv
          cases h
          refine ⟨?_, ho⟩
          unfold bz_get
          dsimp only
          rw [if_pos (kd_h hc.2.1 hc.1), hc.2.2]
          show bz_nx _ _ (.inr (.inr (mm B N W r (i.getD 1 0)).toNat) :: st') _ = _
          rw [mm_r (by omega), hv]
          rfl
        · cases h
      · cases h
    · cases h
  case putfield x =>
    dsimp only at h ⊢
    split at h
    · rename_i v r st'
      split at h
      · rename_i hc
        split at h
        · rw [put_0 (by assumption) (kd_h hc (zput_at h ho).1)]
          exact zq_put h ho
        · split at h
          · rename_i hx
            rw [put_4 (by assumption) (kd_h hc (zput_at h ho).1) hx]
            exact zq_put h ho
          · cases h
        · rw [put_1 (by assumption) (kd_h hc (zput_at h ho).1)]
          exact zq_put h ho
        · rw [put_2 (by assumption) (kd_h hc (zput_at h ho).1)]
          exact zq_put h ho
        · cases h
      · cases h
    · cases h
  case new x =>
    dsimp only at h ⊢
    obtain ⟨h1, h2, h3⟩ := zq_new (Lg := Lg) hB h ho
    refine ⟨?_, h3⟩
    unfold bz_new
    rw [mm_N, if_pos ⟨rfl, h1⟩]
    exact h2
  case newarray x =>
    dsimp only at h ⊢
    split at h
    · split at h
      · rename_i h0
        obtain ⟨h1, h2, h3⟩ := zq_new (Lg := Lg) hB h ho
        refine ⟨?_, h3⟩
        unfold bz_newa
        dsimp only
        rw [mm_N, if_pos ⟨rfl, h0, h1⟩]
        exact h2
      · cases h
    · cases h
  case anewarray x =>
    dsimp only at h ⊢
    split at h
    · split at h
      · rename_i h0
        obtain ⟨h1, h2, h3⟩ := zq_new (Lg := Lg) hB h ho
        refine ⟨?_, h3⟩
        unfold bz_newa
        dsimp only
        rw [mm_N, if_pos ⟨rfl, h0, h1⟩]
        exact h2
      · cases h
    · cases h
  case iastore =>
    dsimp only at h ⊢
    split at h
    · split at h
      · rename_i t n hk
        split at h
        · rename_i hc
          have h1 := (zput_at h ho).1
          unfold bz_ast
          dsimp only
          rw [kd_h hk h1]
          dsimp only [bz_asI]
          rw [if_pos ⟨hc.1, h1⟩, if_pos hc.2]
          exact zq_put h ho
        · cases h
      · cases h
    · cases h
  case castore =>
    dsimp only at h ⊢
    split at h
    · split at h
      · rename_i t n hk
        split at h
        · rename_i hc
          have h1 := (zput_at h ho).1
          unfold bz_ast
          dsimp only
          rw [kd_h hk h1]
          dsimp only [bz_asC]
          rw [if_pos hc.2.1]
          dsimp only
          rw [if_pos ⟨hc.1, h1⟩, if_pos hc.2.2]
          exact zq_put h ho
        · cases h
      · cases h
    · cases h
  case aastore =>
    dsimp only at h ⊢
    split at h
    · split at h
      · rename_i t n hk
        split at h
        · rename_i hc
          have h1 := (zput_at h ho).1
          obtain ⟨rfl, hc1, hc2⟩ := hc
          unfold bz_astA
          dsimp only
          rw [kd_h hk h1]
          show (if _ then _ else none) = _ ∧ _
          rw [if_pos ⟨h1, hc1.1, kd_h hc1.2 hc1.1⟩, if_pos hc2]
          exact zq_put h ho
        · cases h
      · cases h
    · cases h
  case if_icmp c o =>
    dsimp only at h ⊢
    split at h
    · split at h
      · rename_i hc
        cases h
        exact ⟨if_pos hc, ho⟩
      · rename_i hc
        cases h
        exact ⟨if_neg hc, ho⟩
    · cases h
  case goto o => cases h; exact ⟨rfl, ho⟩
  case invokespecial x =>
    dsimp only at h ⊢
    split at h
    · split at h
      · rename_i hc
        cases h
        rw [if_pos hc.1]
        exact ⟨if_pos hc.2, ho⟩
      · cases h
    · cases h
  all_goals cases h
end ZG
noncomputable def zev : Nat → Nat → Nat → List (Nat × bz_E) → Nat → bz_Ls → bz_S → Nat → zW → Option (Nat × zW)
  | 0, _, _, _, _, _, _, _, _ => none
  | f + 1, d, m, rs, pc, L, st, N, W => match rs with
    | [] => none
    | q :: rs' => match Nat.beq q.1 pc && q.2.2.2.2.2.isEmpty with
      | false => zev f d m ((bz_tbl.getD m []).dropWhile (fun z => !(Nat.beq z.1 pc))) pc L st N W
      | true => match es q.2 pc L st N W with
        | some n => zev f d m rs' n.1 n.2.1 n.2.2.1 n.2.2.2.1 n.2.2.2.2
        | none => match q.2.1, st with
          | .return_, [] => if bz_rt m = 0 then some (N, W) else none
          | .invokespecial _, st => if q.2.2.2.1.getD 0 0 = 1 then none else (match bz_args (q.2.2.2.1.getD 2 0) [] st with
            | some (a, .inr (.inr r) :: st') => if 121 < r ∧ bz_kd 0 r = some (.inl (q.2.2.2.1.getD 4 0)) ∧ (bz_cat st' ≤ 8 ∧ (bz_entry (.inr (.inr r) :: a)).length ≤ q.2.2.2.1.getD 5 0) ∧ q.2.2.2.1.getD 3 0 = 0 ∧ q.2.2.2.1.getD 1 0 < 316 then (match d with
              | 0 => none
              | d' + 1 => match zev f d' (q.2.2.2.1.getD 1 0) (bz_tbl.getD (q.2.2.2.1.getD 1 0) []) 0 (bz_ent (.inr (.inr r) :: a) (bz_nL (q.2.2.2.1.getD 1 0))) [] N W with
                | none => none
                | some x => zev f (d' + 1) m rs' (pc + q.2.2.1) L st' x.1 x.2) else none
            | _ => none)
          | _, _ => none
theorem zdrop : ∀ (l : List (Nat × bz_E)) (p : Nat × bz_E → Bool) {q : Nat × bz_E}, q ∈ l.dropWhile p → q ∈ l
  | [], _, _, h => h
  | a :: l, p, q, h => by
    unfold List.dropWhile at h
    split at h
    · exact List.mem_cons_of_mem _ (zdrop l p h)
    · exact h
section ZH
variable {Lg : Nat} {B : bz_M}
set_option maxHeartbeats 4000000 in
set_option maxRecDepth 100000 in
theorem zev_ok (hB : ∀ r k, bz_ns < r → B r k = 0) : ∀ (f d m : Nat) (rs : List (Nat × bz_E)) (pc : Nat) (L : bz_Ls) (st : bz_S) (N : Nat) (W : zW) (x : Nat × zW), m < 316 → (∀ q ∈ rs, q ∈ bz_tbl.getD m []) → zok N W → zev f d m rs pc L st N W = some x → bz_run (bz_Pg Lg false) f d m pc L st (mm B N W) = some (none, mm B x.1 x.2) ∧ zok x.1 x.2
  | 0, _, _, _, _, _, _, _, _, _, _, _, _, h => by cases h
  | f + 1, d, m, rs, pc, L, st, N, W, x, hm, hrs, ho, h => by
    unfold zev at h
    split at h
    · cases h
    · rename_i q rs'
      split at h
      · have := zev_ok hB f d m _ pc L st N W x hm (fun q hq => zdrop _ _ hq) ho h
        exact ⟨bz_run_succ _ _ _ _ _ _ _ _ this.1, this.2⟩
      · rename_i hb
        rw [Bool.and_eq_true] at hb
        have hpc := Nat.eq_of_beq_eq_true hb.1
        have hfg : q.2.2.2.2.2 = [] := List.isEmpty_iff.mp hb.2
        have hq : bz_tab m pc = some q.2 := by rw [← hpc]; exact bz_tab_at hm (hrs q List.mem_cons_self)
        have hrs' : ∀ z ∈ rs', z ∈ bz_tbl.getD m [] := fun z hz => hrs z (List.mem_cons_of_mem _ hz)
        rw [bz_run_F]
        unfold bz_F
        rw [show (bz_Pg Lg false).2.2.2.1 m pc = some q.2 from hq]
        dsimp only
        split at h
        · rename_i n hn
          obtain ⟨h1, h2⟩ := es_ok (Lg := Lg) (rt := bz_rt m) hB hfg ho hn
          rw [show bz_step (bz_Pg Lg false).1 (bz_Pg Lg false).2.1 (bz_Pg Lg false).2.2.1 ((bz_Pg Lg false).2.2.2.2.2 m) q.2 pc L st (mm B N W) = _ from h1]
          exact zev_ok hB f d m rs' _ _ _ _ _ x hm hrs' h2 h
        · split at h
          · have hi : q.2.1 = .return_ := by assumption
            split at h
            · rename_i hr
              cases h
              have hs : bz_step (bz_Pg Lg false).1 (bz_Pg Lg false).2.1 (bz_Pg Lg false).2.2.1 ((bz_Pg Lg false).2.2.2.2.2 m) q.2 pc L [] (mm B N W) = some (.inl (none, mm B N W)) := by
                show bz_step _ _ _ (bz_rt m) _ _ _ _ _ = _
                unfold bz_step
                dsimp only
                rw [hi, hr]
                rfl
              rw [hs]
              exact ⟨rfl, ho⟩
            · cases h
          · rename_i st _ _ ix hi _
            split at h
            · cases h
            · rename_i h01
              split at h
              · rename_i a r st' ha
                split at h
                · rename_i hc
                  obtain ⟨c1, c2, c3, c4, c5⟩ := hc
                  cases d with
                  | zero => cases h
                  | succ d' =>
                    dsimp only at h
                    have hs : bz_step (bz_Pg Lg false).1 (bz_Pg Lg false).2.1 (bz_Pg Lg false).2.2.1 ((bz_Pg Lg false).2.2.2.2.2 m) q.2 pc L st (mm B N W) = some (.inr (.inr (q.2.2.2.1.getD 1 0, .inr (.inr r) :: a, pc + q.2.2.1, L, st', q.2.2.2.1.getD 3 0))) := by
                      show bz_step (bz_kd Lg) _ _ _ _ _ _ _ _ = _
                      unfold bz_step
                      dsimp only
                      rw [hi, hfg]
                      dsimp only
                      rw [if_neg h01]
                      unfold bz_invV
                      rw [ha]
                      dsimp only
                      rw [if_pos (kd_h c2 c1)]
                      unfold bz_call
                      rw [if_pos c3]
                      rfl
                    rw [hs]
                    dsimp only
                    split at h
                    · cases h
                    · rename_i y hy
                      obtain ⟨h1, h2⟩ := zev_ok hB f d' _ _ _ _ _ _ _ _ c5 (fun z hz => hz) ho hy
                      rw [show (bz_Pg Lg false).2.2.2.2.1 (q.2.2.2.1.getD 1 0) = bz_nL (q.2.2.2.1.getD 1 0) from rfl, h1]
                      dsimp only
                      rw [c4]
                      exact zev_ok hB f (d' + 1) m rs' _ _ _ _ _ x hm hrs' h2 h
                · cases h
              · cases h
          · cases h
end ZH

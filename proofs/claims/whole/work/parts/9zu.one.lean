/-! THE SCRIPT IS NEVER WRITTEN -/
section ZB
variable {kd : Nat → Option bz_Kd} {wr : Nat → Nat → Nat} {rt : Nat} {L : bz_Ls} {st : bz_S} {M : bz_M}
set_option maxHeartbeats 4000000 in
set_option maxRecDepth 100000 in
theorem bz_step_1 {e0 : bz_E} {pc q1 : Nat} {q2 : bz_Ls} {q3 : bz_S} {q4 : bz_M} {z1 : Nat × Nat} (h0 : kd 1 = some (.inr z1)) (ho : bz_step kd wr true rt e0 pc L st M = some (.inr (.inl (q1, q2, q3, q4)))) : q4 1 = M 1 := by
  obtain ⟨ins, lnn, i, vl, fg⟩ := e0
  unfold bz_step at ho
  dsimp only at ho
  generalize bz_fg fg L = L2 at ho
  cases ins
  case putfield x =>
    dsimp only at ho
    unfold bz_put at ho
    split at ho
    · split at ho
      · rename_i h
        have hr : ∀ {r z : Nat}, kd r = some (.inl z) → 1 ≠ r := fun {r z} h1 e => by rw [← e, h0] at h1; cases h1
        have hr := hr h.1
        split at ho
        · have e := (bz_Nx ho).2.2.2; rw [← e, bz_up_r _ _ _ hr]
        · split at ho
          · have e := (bz_Nx ho).2.2.2; rw [← e, bz_up_r _ _ _ hr]
          · cases ho
        · have e := (bz_Nx ho).2.2.2; rw [← e, bz_up_r _ _ _ hr]
        · have e := (bz_Nx ho).2.2.2; rw [← e, bz_up_r _ _ _ hr]
        · cases ho
      · cases ho
    · cases ho
  case new x =>
    dsimp only at ho
    unfold bz_new at ho
    split at ho
    · rename_i h
      cases h.1
    · cases ho
  case newarray x =>
    dsimp only at ho
    unfold bz_newa at ho
    split at ho
    · split at ho
      · rename_i h
        cases h.1
      · cases ho
    · cases ho
  case anewarray x =>
    dsimp only at ho
    unfold bz_newa at ho
    split at ho
    · split at ho
      · rename_i h
        cases h.1
      · cases ho
    · cases ho
  case tableswitch d lo hi os =>
    dsimp only at ho
    unfold bz_tsw at ho
    split at ho
    · rw [(bz_sw_at ho).2.2.1]
    · cases ho
  case lookupswitch d ps =>
    dsimp only at ho
    unfold bz_lsw at ho
    split at ho
    · rw [(bz_sw_at ho).2.2.1]
    · cases ho
  case invokestatic x =>
    dsimp only at ho
    split at ho
    · unfold bz_acpy at ho
      split at ho
      · split at ho
        · split at ho
          · rename_i h
            have e := (bz_Nx ho).2.2.2
            rw [← e, bz_cpy_r M (by have : bz_ns = 121 := rfl; omega)]
          · cases ho
        · cases ho
      · cases ho
    · split at ho
      · rw [← bz_chk_M ho]
      · unfold bz_invS bz_call at ho
        split at ho
        · split at ho <;> cases ho
        · cases ho
  case aastore =>
    dsimp only at ho
    unfold bz_astA at ho
    split at ho
    · split at ho
      · split at ho
        · rename_i h
          split at ho
          · have e := (bz_Nx ho).2.2.2; rw [← e, bz_up_r _ _ _ (by have : bz_ns = 121 := rfl; omega)]
          · cases ho
        · cases ho
      · cases ho
    · cases ho
  case bastore =>
    dsimp only at ho
    split at ho
    all_goals
      unfold bz_ast at ho
      split at ho
      · split at ho
        · split at ho
          · rename_i h
            split at ho
            · have e := (bz_Nx ho).2.2.2; rw [← e, bz_up_r _ _ _ (by have : bz_ns = 121 := rfl; omega)]
            · cases ho
          · cases ho
        · cases ho
      · cases ho
  case' iastore => skip
  case' castore => skip
  case' lastore => skip
  all_goals dsimp only at ho
  all_goals first
    | (cases ho; done)
    | (unfold bz_ast at ho
       split at ho
       · split at ho
         · split at ho
           · rename_i h
             split at ho
             · have e := (bz_Nx ho).2.2.2; rw [← e, bz_up_r _ _ _ (by have : bz_ns = 121 := rfl; omega)]
             · cases ho
           · cases ho
         · cases ho
       · cases ho)
    | (simp only [bz_ldA, bz_ldI, bz_ldL, bz_stA, bz_stI, bz_stL, bz_inc, bz_get, bz_ald, bz_len, bz_i1, bz_i2, bz_i2d, bz_l1, bz_l2, bz_l2d, bz_dup, bz_dup2, bz_pop, bz_popr, bz_if, bz_icmp, bz_br, bz_acmp, bz_ifn, bz_ret, bz_invV, bz_call, bz_nx] at ho
       repeat' split at ho
       all_goals first
         | (cases ho; rfl)
         | (cases ho; done))
    | (cases ho; rfl)
end ZB
section ZC
variable {P : bz_P}
theorem bz_run_1 {z1 : Nat × Nat} (h0 : P.1 1 = some (.inr z1)) (hw : P.2.2.1 = true) : ∀ (f d mi pc : Nat) (L : bz_Ls) (st : bz_S) (M : bz_M) (x : bz_Rs), bz_run P f d mi pc L st M = some x → x.2 1 = M 1
  | 0, _, _, _, _, _, _, _, h => by cases h
  | f + 1, d, mi, pc, L, st, M, x, h => by
    rw [bz_run_F] at h
    unfold bz_F at h
    cases ht : P.2.2.2.1 mi pc with
    | none => rw [ht] at h; cases h
    | some e =>
      rw [ht] at h
      dsimp only at h
      cases hs : bz_step P.1 P.2.1 P.2.2.1 (P.2.2.2.2.2 mi) e pc L st M with
      | none => rw [hs] at h; cases h
      | some o =>
        rw [hs] at h
        rcases o with r | n | g
        · have h := Option.some.inj h
          subst h
          have h2 := (bz_step_R hs).2
          unfold bz_ret at h2
          split at h2 <;> first | (cases h2; rfl) | (split at h2 <;> first | (cases h2; rfl) | cases h2) | cases h2
        · obtain ⟨pc', L', st', M'⟩ := n
          rw [hw] at hs
          exact Eq.trans (bz_run_1 h0 hw f d mi pc' L' st' M' x h) (bz_step_1 h0 hs)
        · obtain ⟨m', a, pc', L', st', rk⟩ := g
          cases d with
          | zero => cases h
          | succ d' =>
            dsimp only at h
            cases h1 : bz_run P f d' m' 0 (bz_ent a (P.2.2.2.2.1 m')) [] M with
            | none => rw [h1] at h; cases h
            | some y =>
              rw [h1] at h
              obtain ⟨v, M'⟩ := y
              dsimp only at h
              cases h2 : bz_back rk v st' with
              | none => rw [h2] at h; cases h
              | some st'' =>
                rw [h2] at h
                exact Eq.trans (bz_run_1 h0 hw f (d' + 1) mi pc' L' st'' M' x h) (bz_run_1 h0 hw f d' m' 0 _ [] M _ h1)
end ZC
theorem cI_1 {Lg d m : Nat} {a : bz_S} {M : bz_M} {p : Int × bz_M} (h : bz_cI (bz_Pg Lg true) d m a M = some p) : p.2 1 = M 1 := by
  unfold bz_cI bz_X at h
  cases he : bz_ev (bz_Pg Lg true) d m 0 (bz_ent a ((bz_Pg Lg true).2.2.2.2.1 m)) [] M with
  | none => rw [he] at h; cases h
  | some x =>
    rw [he] at h
    obtain ⟨f, hf⟩ := bz_ev_iff.mp he
    have h1 := bz_run_1 (P := bz_Pg Lg true) (z1 := (0, Lg)) rfl rfl f _ _ _ _ _ _ _ hf
    obtain ⟨v, M'⟩ := x
    rcases v with _ | v | v | v
    · cases h
    · cases h; exact h1
    · cases h
    · cases h
theorem cL_1 {Lg d m : Nat} {a : bz_S} {M : bz_M} {p : Int × bz_M} (h : bz_cL (bz_Pg Lg true) d m a M = some p) : p.2 1 = M 1 := by
  unfold bz_cL bz_X at h
  cases he : bz_ev (bz_Pg Lg true) d m 0 (bz_ent a ((bz_Pg Lg true).2.2.2.2.1 m)) [] M with
  | none => rw [he] at h; cases h
  | some x =>
    rw [he] at h
    obtain ⟨f, hf⟩ := bz_ev_iff.mp he
    have h1 := bz_run_1 (P := bz_Pg Lg true) (z1 := (0, Lg)) rfl rfl f _ _ _ _ _ _ _ hf
    obtain ⟨v, M'⟩ := x
    rcases v with _ | v | v | v
    · cases h
    · cases h
    · cases h; exact h1
    · cases h

/-! THE TOLD VALLEY STANDS: the reference -/
def cpR (M : bz_M) (r a r' n : Nat) : bz_M := fun q k => if q = r ∧ a ≤ k ∧ k < a + n then M r' (k - a) else M q k
def zrR (M : bz_M) (r n : Nat) : bz_M := fun q k => if q = r ∧ k < n then 0 else M q k
def ldR (M : bz_M) (n : Nat) : bz_M := fun q k => if q = 364 ∧ 172 ≤ k ∧ k < 172 + 2 * n then (if (k - 172) % 2 = 0 then 1 else M 357 (5 * ((k - 172) / 2) + 4)) else M q k
section YU
variable {Lg d : Nat} {M : bz_M} {r a r' n : Nat}
theorem cpR_0 : cpR M r a r' 0 = M := by
  funext q k
  unfold cpR
  rw [if_neg (by omega)]
theorem zrR_0 : zrR M r 0 = M := by
  funext q k
  unfold zrR
  rw [if_neg (by omega)]
theorem ldR_0 : ldR M 0 = M := by
  funext q k
  unfold ldR
  rw [if_neg (by omega)]
theorem cpR_r (h : r' ≠ r ∨ n < a) : cpR M r a r' n r' n = M r' n := by
  unfold cpR
  rw [if_neg (by omega)]
theorem cpR_f {q : Nat} (h : q ≠ r) : cpR M r a r' n q = M q := by
  funext k
  unfold cpR
  rw [if_neg (fun e => h e.1)]
theorem cpR_lo {q k : Nat} (h : k < a) : cpR M r a r' n q k = M q k := by
  unfold cpR
  rw [if_neg (by omega)]
theorem cpR_in {k : Nat} (h : k < n) : cpR M r a r' n r (a + k) = M r' k := by
  unfold cpR
  rw [if_pos (by omega), Nat.add_sub_cancel_left]
theorem cpR_hi {q k : Nat} (h : a + n ≤ k) : cpR M r a r' n q k = M q k := by
  unfold cpR
  rw [if_neg (by omega)]
theorem cpR_s (h : r' ≠ r ∨ n < a) : bz_up (cpR M r a r' n) r (a + n) (cpR M r a r' n r' n) = cpR M r a r' (n + 1) := by
  rw [cpR_r h]
  funext q k
  rw [bz_up_rk]
  unfold cpR
  by_cases e : q = r ∧ k = a + n
  · rw [if_pos e, if_pos (by omega), e.2, Nat.add_sub_cancel_left]
  · rw [if_neg e]
    by_cases e2 : q = r ∧ a ≤ k ∧ k < a + n
    · rw [if_pos e2, if_pos (by omega)]
    · rw [if_neg e2, if_neg (by omega)]
/-- two rows at once -/
theorem up_cpR {q k : Nat} {x : Int} (h : q ≠ r) (h' : q ≠ r') : bz_up (cpR M r a r' n) q k x = cpR (bz_up M q k x) r a r' n := by
  funext q2 k2
  rw [bz_up_rk]
  unfold cpR
  by_cases e : q2 = r ∧ a ≤ k2 ∧ k2 < a + n
  · rw [if_pos e, if_neg (by omega), bz_up_nr (Ne.symm h'), if_pos e]
  · rw [if_neg e, if_neg e, bz_up_rk]
theorem zrR_s : bz_up (zrR M r n) r n 0 = zrR M r (n + 1) := by
  funext q k
  rw [bz_up_rk]
  unfold zrR
  by_cases e : q = r ∧ k = n
  · rw [if_pos e, if_pos (by omega)]
  · rw [if_neg e]
    by_cases e2 : q = r ∧ k < n
    · rw [if_pos e2, if_pos (by omega)]
    · rw [if_neg e2, if_neg (by omega)]
theorem ldR_s : bz_up (bz_up (ldR M n) 364 (172 + 2 * n) 1) 364 (173 + 2 * n) (M 357 (5 * n + 4)) = ldR M (n + 1) := by
  funext q k
  rw [bz_up_rk, bz_up_rk]
  unfold ldR
  by_cases e1 : q = 364 ∧ k = 173 + 2 * n
  · rw [if_pos e1, if_pos (by omega), if_neg (by omega), show (k - 172) / 2 = n by omega]
  · rw [if_neg e1]
    by_cases e : q = 364 ∧ k = 172 + 2 * n
    · rw [if_pos e, if_pos (by omega), if_pos (by omega)]
    · rw [if_neg e]
      by_cases e2 : q = 364 ∧ 172 ≤ k ∧ k < 172 + 2 * n
      · have e3 : q = 364 ∧ 172 ≤ k ∧ k < 172 + 2 * (n + 1) := by omega
        rw [if_pos e2, if_pos e3]
      · rw [if_neg e2, if_neg (by omega)]
end YU
section YV
variable {Lg d : Nat} {M : bz_M} {Q : bz_M → Prop}
theorem sd_273 {L : Nat} (hL : L ≤ 5) (h47 : M 319 47 = (L : Int)) (h : Q (bz_up (bz_up (ldR M L) 319 85 0) 319 79 0)) : w_T (eMo_stands_273 Lg d 0 M) Q := by
  have key : ∀ (f i : Nat), i + f = L → w_T (eMo_stands_273 Lg d (i : Int) (ldR M i)) Q := by
    intro f
    induction f with
    | zero =>
      intro i hi
      refine T_le eMo_stands_273_E ?_
      have e47 : ldR M i 319 47 = (L : Int) := by unfold ldR; rw [if_neg (by omega)]; exact h47
      rw [if_neg (by rw [e47]; omega)]
      rw [show i = L by omega]
      exact T_some h
    | succ f ih =>
      intro i hi
      refine T_le eMo_stands_273_E ?_
      have e47 : ldR M i 319 47 = (L : Int) := by unfold ldR; rw [if_neg (by omega)]; exact h47
      have e57 : ldR M i 357 = M 357 := by funext k; unfold ldR; rw [if_neg (by omega)]
      rw [if_pos (by rw [e47]; omega), w32_id (z := 2 * (i : Int)) (by omega) (by omega), w32_id (z := 172 + 2 * (i : Int)) (by omega) (by omega), w32_id (z := 5 * (i : Int)) (by omega) (by omega), w32_id (z := 5 * (i : Int) + 4) (by omega) (by omega), w32_id (z := 172 + 2 * (i : Int) + 1) (by omega) (by omega), w32_id (z := (i : Int) + 1) (by omega) (by omega), if_pos (by omega), if_pos (by omega), if_pos (by omega), show (172 + 2 * (i : Int)).toNat = 172 + 2 * i by omega, show (172 + 2 * (i : Int) + 1).toNat = 173 + 2 * i by omega, show (5 * (i : Int) + 4).toNat = 5 * i + 4 by omega, e57, ldR_s]
      exact ih (i + 1) (by omega)
  have := key L 0 (by omega)
  rw [ldR_0] at this
  exact this
theorem sd_229 (h : w_T (eMo_stands_273 Lg d 0 (cpR (cpR M 358 80 358 80) 364 12 360 80)) Q) : w_T (eMo_stands_229 Lg d 0 M) Q := by
  have key : ∀ (f i : Nat), i + f = 80 → w_T (eMo_stands_229 Lg d (i : Int) (cpR (cpR M 358 80 358 i) 364 12 360 i)) Q := by
    intro f
    induction f with
    | zero =>
      intro i hi
      refine T_le eMo_stands_229_E ?_
      rw [if_neg (by omega), show i = 80 by omega]
      exact h
    | succ f ih =>
      intro i hi
      refine T_le eMo_stands_229_E ?_
      rw [if_pos (by omega), if_pos (by omega), w32_id (z := 80 + (i : Int)) (by omega) (by omega), w32_id (z := 12 + (i : Int)) (by omega) (by omega), w32_id (z := (i : Int) + 1) (by omega) (by omega), if_pos (by omega), if_pos (by omega), if_pos (by omega), show (80 + (i : Int)).toNat = 80 + i by omega, show (12 + (i : Int)).toNat = 12 + i by omega, Int.toNat_natCast]
      have e1 : cpR (cpR M 358 80 358 i) 364 12 360 i 358 i = cpR M 358 80 358 i 358 i := by rw [cpR_f (by decide)]
      have e2 : cpR (cpR M 358 80 358 i) 364 12 360 i 360 i = cpR (cpR M 358 80 358 (i + 1)) 364 12 360 i 360 i := by rw [cpR_f (by decide), cpR_f (by decide), cpR_f (by decide), cpR_f (by decide)]
      rw [e2, e1, up_cpR (by decide) (by decide), cpR_s (by omega), cpR_s (by omega)]
      exact ih (i + 1) (by omega)
  have := key 80 0 (by omega)
  rw [cpR_0, cpR_0] at this
  exact this
theorem sd_201 (h : w_T (eMo_stands_229 Lg d 0 (cpR M 364 2 359 10)) Q) : w_T (eMo_stands_201 Lg d 0 M) Q := by
  have key : ∀ (f i : Nat), i + f = 10 → w_T (eMo_stands_201 Lg d (i : Int) (cpR M 364 2 359 i)) Q := by
    intro f
    induction f with
    | zero =>
      intro i hi
      refine T_le eMo_stands_201_E ?_
      rw [if_neg (by omega), show i = 10 by omega]
      exact h
    | succ f ih =>
      intro i hi
      refine T_le eMo_stands_201_E ?_
      rw [if_pos (by omega), if_pos (by omega), w32_id (z := 2 + (i : Int)) (by omega) (by omega), w32_id (z := (i : Int) + 1) (by omega) (by omega), if_pos (by omega), show (2 + (i : Int)).toNat = 2 + i by omega, Int.toNat_natCast, cpR_s (by omega)]
      exact ih (i + 1) (by omega)
  have := key 10 0 (by omega)
  rw [cpR_0] at this
  exact this
theorem sd_179 (h : w_T (eMo_stands_201 Lg d 0 (zrR M 364 303)) Q) : w_T (eMo_stands_179 Lg d 0 M) Q := by
  have key : ∀ (f i : Nat), i + f = 303 → w_T (eMo_stands_179 Lg d (i : Int) (zrR M 364 i)) Q := by
    intro f
    induction f with
    | zero =>
      intro i hi
      refine T_le eMo_stands_179_E ?_
      rw [if_neg (by omega), show i = 303 by omega]
      exact h
    | succ f ih =>
      intro i hi
      refine T_le eMo_stands_179_E ?_
      rw [if_pos (by omega), if_pos (by omega), w32_id (z := (i : Int) + 1) (by omega) (by omega), Int.toNat_natCast, zrR_s]
      exact ih (i + 1) (by omega)
  have := key 303 0 (by omega)
  rw [zrR_0] at this
  exact this
theorem sd_147 {N : Nat} (hN : N ≤ 1600) (h58 : M 319 58 = (N : Int)) (h : w_T (eMo_stands_179 Lg d 0 (cpR M 363 1600 363 N)) Q) : w_T (eMo_stands_147 Lg d 0 M) Q := by
  have key : ∀ (f i : Nat), i + f = N → w_T (eMo_stands_147 Lg d (i : Int) (cpR M 363 1600 363 i)) Q := by
    intro f
    induction f with
    | zero =>
      intro i hi
      refine T_le eMo_stands_147_E ?_
      have e : cpR M 363 1600 363 i 319 = M 319 := cpR_f (by decide)
      rw [if_neg (by rw [e, h58]; omega), show i = N by omega]
      exact h
    | succ f ih =>
      intro i hi
      refine T_le eMo_stands_147_E ?_
      have e : cpR M 363 1600 363 i 319 = M 319 := cpR_f (by decide)
      rw [if_pos (by rw [e, h58]; omega), if_pos (by omega), w32_id (z := 1600 + (i : Int)) (by omega) (by omega), w32_id (z := (i : Int) + 1) (by omega) (by omega), if_pos (by omega), show (1600 + (i : Int)).toNat = 1600 + i by omega, Int.toNat_natCast, cpR_s (by omega)]
      exact ih (i + 1) (by omega)
  have := key N 0 (by omega)
  rw [cpR_0] at this
  exact this
theorem sd_118 (h : w_T (eMo_stands_147 Lg d 0 (cpR M 357 25 357 25)) Q) : w_T (eMo_stands_118 Lg d 0 M) Q := by
  have key : ∀ (f i : Nat), i + f = 25 → w_T (eMo_stands_118 Lg d (i : Int) (cpR M 357 25 357 i)) Q := by
    intro f
    induction f with
    | zero =>
      intro i hi
      refine T_le eMo_stands_118_E ?_
      rw [if_neg (by omega), show i = 25 by omega]
      exact h
    | succ f ih =>
      intro i hi
      refine T_le eMo_stands_118_E ?_
      rw [if_pos (by omega), if_pos (by omega), w32_id (z := 25 + (i : Int)) (by omega) (by omega), w32_id (z := (i : Int) + 1) (by omega) (by omega), if_pos (by omega), show (25 + (i : Int)).toNat = 25 + i by omega, Int.toNat_natCast, cpR_s (by omega)]
      exact ih (i + 1) (by omega)
  have := key 25 0 (by omega)
  rw [cpR_0] at this
  exact this
theorem sd_91 (h : w_T (eMo_stands_118 Lg d 0 (cpR M 356 5 356 5)) Q) : w_T (eMo_stands_91 Lg d 0 M) Q := by
  have key : ∀ (f i : Nat), i + f = 5 → w_T (eMo_stands_91 Lg d (i : Int) (cpR M 356 5 356 i)) Q := by
    intro f
    induction f with
    | zero =>
      intro i hi
      refine T_le eMo_stands_91_E ?_
      rw [if_neg (by omega), show i = 5 by omega]
      exact h
    | succ f ih =>
      intro i hi
      refine T_le eMo_stands_91_E ?_
      rw [if_pos (by omega), if_pos (by omega), w32_id (z := 5 + (i : Int)) (by omega) (by omega), w32_id (z := (i : Int) + 1) (by omega) (by omega), if_pos (by omega), show (5 + (i : Int)).toNat = 5 + i by omega, Int.toNat_natCast, cpR_s (by omega)]
      exact ih (i + 1) (by omega)
  have := key 5 0 (by omega)
  rw [cpR_0] at this
  exact this
theorem sd_50 (h : w_T (eMo_stands_91 Lg d 0 (cpR (cpR M 361 2 361 2) 362 2 362 2)) Q) : w_T (eMo_stands_50 Lg d 0 M) Q := by
  have key : ∀ (f i : Nat), i + f = 2 → w_T (eMo_stands_50 Lg d (i : Int) (cpR (cpR M 361 2 361 i) 362 2 362 i)) Q := by
    intro f
    induction f with
    | zero =>
      intro i hi
      refine T_le eMo_stands_50_E ?_
      rw [if_neg (by omega), show i = 2 by omega]
      exact h
    | succ f ih =>
      intro i hi
      refine T_le eMo_stands_50_E ?_
      rw [if_pos (by omega), if_pos (by omega), w32_id (z := 2 + (i : Int)) (by omega) (by omega), w32_id (z := (i : Int) + 1) (by omega) (by omega), if_pos (by omega), show (2 + (i : Int)).toNat = 2 + i by omega, Int.toNat_natCast]
      have e1 : cpR (cpR M 361 2 361 i) 362 2 362 i 361 i = cpR M 361 2 361 i 361 i := by rw [cpR_f (by decide)]
      have e2 : cpR (cpR M 361 2 361 i) 362 2 362 i 362 i = cpR (cpR M 361 2 361 (i + 1)) 362 2 362 i 362 i := by rw [cpR_lo (by omega), cpR_f (by decide), cpR_lo (by omega), cpR_f (by decide)]
      rw [e2, e1, up_cpR (by decide) (by decide), cpR_s (by omega), cpR_s (by omega)]
      exact ih (i + 1) (by omega)
  have := key 2 0 (by omega)
  rw [cpR_0, cpR_0] at this
  exact this
theorem sd_23 (h : w_T (eMo_stands_50 Lg d 0 (cpR M 355 3 355 3)) Q) : w_T (eMo_stands_23 Lg d 0 M) Q := by
  have key : ∀ (f i : Nat), i + f = 3 → w_T (eMo_stands_23 Lg d (i : Int) (cpR M 355 3 355 i)) Q := by
    intro f
    induction f with
    | zero =>
      intro i hi
      refine T_le eMo_stands_23_E ?_
      rw [if_neg (by omega), show i = 3 by omega]
      exact h
    | succ f ih =>
      intro i hi
      refine T_le eMo_stands_23_E ?_
      rw [if_pos (by omega), if_pos (by omega), w32_id (z := 3 + (i : Int)) (by omega) (by omega), w32_id (z := (i : Int) + 1) (by omega) (by omega), if_pos (by omega), show (3 + (i : Int)).toNat = 3 + i by omega, Int.toNat_natCast, cpR_s (by omega)]
      exact ih (i + 1) (by omega)
  have := key 3 0 (by omega)
  rw [cpR_0] at this
  exact this
end YV

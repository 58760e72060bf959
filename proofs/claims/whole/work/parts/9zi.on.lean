/-! SIM: on: a state begins ahead -/
def cBh (u i j l : Nat) (M M' : bz_M) : Prop := (M' 131 0 = M 131 0 ∧ ∀ k, k ≠ 0 → M' 131 k = M 131 k) ∧ (∀ r, r ≠ 131 → ¬ (286 ≤ r ∧ r ≤ 291) → M' r = M r) ∧ (M' 286 0 = 0 ∧ M' 286 1 = 0 ∧ M' 286 2 = 0) ∧ (∀ k, k < i → M' 287 k = M (u + 1) k) ∧ (∀ k, k < j → M' 288 k = M (u + 3) k ∧ M' 289 k = 0) ∧ (∀ k : Nat, k < l → M' 290 k = (if (k : Int) < M u 3 then 1 else 0) ∧ M' 291 k = M (u + 9) k)
section TB
variable {Lg d u : Nat} {M : bz_M}
theorem c_begin6 (hu : bz_oV u) : w_T (eSt_begin Lg d 286 u M) (cBh u 10 80 5 M) := by
  have huu := oV_c hu
  have hs6 : bz_oS 286 := by decide
  have l3 : ∀ (f i : Nat) (M1 : bz_M), i + f = 5 → cBh u 10 80 i M M1 → w_T (eSt_begin_76 Lg d 286 u (i : Int) M1) (cBh u 10 80 5 M) := by
    intro f
    induction f with
    | zero =>
      intro i M1 hi h
      refine T_le (eSt_begin_76_E hs6 hu) ?_
      rw [if_neg (by omega)]
      rw [show i = 5 by omega] at h
      exact T_some h
    | succ f ih =>
      intro i M1 hi h
      obtain ⟨a1, a2, a3, a4, a5, a6⟩ := h
      have go : ∀ x : Int, x = (if (i : Int) < M u 3 then 1 else 0) → cBh u 10 80 (i + 1) M (bz_up (bz_up M1 (286 + 4) i x) (286 + 5) i (bz_up M1 (286 + 4) i x (u + 9) i)) := by
        intro x hx
        refine ⟨⟨?_, fun k hk => ?_⟩, fun r x1 x2 => ?_, ⟨?_, ?_, ?_⟩, fun k hk => ?_, fun k hk => ?_, fun k hk => ?_⟩
        · rw [bz_up_nr (by decide), bz_up_nr (by decide)]; exact a1.1
        · rw [bz_up_nr (by decide), bz_up_nr (by decide)]; exact a1.2 k hk
        · rw [bz_up_fn (by omega), bz_up_fn (by omega)]; exact a2 r x1 x2
        · rw [bz_up_nr (by decide), bz_up_nr (by decide)]; exact a3.1
        · rw [bz_up_nr (by decide), bz_up_nr (by decide)]; exact a3.2.1
        · rw [bz_up_nr (by decide), bz_up_nr (by decide)]; exact a3.2.2
        · rw [bz_up_nr (by decide), bz_up_nr (by decide)]; exact a4 k hk
        · rw [bz_up_nr (by decide), bz_up_nr (by decide), bz_up_nr (by decide), bz_up_nr (by decide)]; exact a5 k hk
        · by_cases e : k = i
          · subst e
            refine ⟨?_, ?_⟩
            · rw [bz_up_nr (by decide), bz_up_eq]; exact hx
            · rw [bz_up_eq, bz_up_nr (by omega), a2 (u + 9) (by omega) (by omega)]
          · have := a6 k (by omega)
            refine ⟨?_, ?_⟩
            · rw [bz_up_nr (by decide), bz_up_nk e]; exact this.1
            · rw [bz_up_nk e, bz_up_nr (by decide)]; exact this.2
      refine T_le (eSt_begin_76_E hs6 hu) ?_
      rw [if_pos (by omega), w32_id (by omega) (by omega), Int.toNat_natCast, a2 u (by omega) (by omega)]
      by_cases c : (i : Int) < M u 3
      · rw [if_pos c, if_pos (by omega)]
        exact ih (i + 1) _ (by omega) (go 1 (by rw [if_pos c]))
      · rw [if_neg c, if_pos (by omega)]
        exact ih (i + 1) _ (by omega) (go 0 (by rw [if_neg c]))
  have l2 : ∀ (f i : Nat) (M1 : bz_M), i + f = 80 → cBh u 10 i 0 M M1 → w_T (eSt_begin_43 Lg d 286 u (i : Int) M1) (cBh u 10 80 5 M) := by
    intro f
    induction f with
    | zero =>
      intro i M1 hi h
      refine T_le (eSt_begin_43_E hs6 hu) ?_
      rw [if_neg (by omega)]
      rw [show i = 80 by omega] at h
      exact l3 5 0 M1 (by omega) h
    | succ f ih =>
      intro i M1 hi h
      obtain ⟨a1, a2, a3, a4, a5, a6⟩ := h
      refine T_le (eSt_begin_43_E hs6 hu) ?_
      rw [if_pos (by omega), if_pos (by omega), w32_id (by omega) (by omega), Int.toNat_natCast]
      refine ih (i + 1) _ (by omega) ⟨⟨?_, fun k hk => ?_⟩, fun r x1 x2 => ?_, ⟨?_, ?_, ?_⟩, fun k hk => ?_, fun k hk => ?_, fun k hk => by omega⟩
      · rw [bz_up_nr (by decide), bz_up_nr (by decide)]; exact a1.1
      · rw [bz_up_nr (by decide), bz_up_nr (by decide)]; exact a1.2 k hk
      · rw [bz_up_fn (by omega), bz_up_fn (by omega)]; exact a2 r x1 x2
      · rw [bz_up_nr (by decide), bz_up_nr (by decide)]; exact a3.1
      · rw [bz_up_nr (by decide), bz_up_nr (by decide)]; exact a3.2.1
      · rw [bz_up_nr (by decide), bz_up_nr (by decide)]; exact a3.2.2
      · rw [bz_up_nr (by decide), bz_up_nr (by decide)]; exact a4 k hk
      · by_cases e : k = i
        · subst e
          refine ⟨?_, bz_up_eq _ _ _ _⟩
          rw [bz_up_nr (by decide), bz_up_eq, a2 (u + 3) (by omega) (by omega)]
        · have := a5 k (by omega)
          refine ⟨?_, ?_⟩
          · rw [bz_up_nr (by decide), bz_up_nk e]; exact this.1
          · rw [bz_up_nk e, bz_up_nr (by decide)]; exact this.2
  have l1 : ∀ (f i : Nat) (M1 : bz_M), i + f = 10 → cBh u i 0 0 M M1 → w_T (eSt_begin_17 Lg d 286 u (i : Int) M1) (cBh u 10 80 5 M) := by
    intro f
    induction f with
    | zero =>
      intro i M1 hi h
      refine T_le (eSt_begin_17_E hs6 hu) ?_
      rw [if_neg (by omega)]
      rw [show i = 10 by omega] at h
      exact l2 80 0 M1 (by omega) h
    | succ f ih =>
      intro i M1 hi h
      obtain ⟨a1, a2, a3, a4, a5, a6⟩ := h
      refine T_le (eSt_begin_17_E hs6 hu) ?_
      rw [if_pos (by omega), if_pos (by omega), w32_id (by omega) (by omega), Int.toNat_natCast]
      refine ih (i + 1) _ (by omega) ⟨⟨?_, fun k hk => ?_⟩, fun r x1 x2 => ?_, ⟨?_, ?_, ?_⟩, fun k hk => ?_, fun k hk => by omega, fun k hk => by omega⟩
      · rw [bz_up_nr (by decide)]; exact a1.1
      · rw [bz_up_nr (by decide)]; exact a1.2 k hk
      · rw [bz_up_fn (by omega)]; exact a2 r x1 x2
      · rw [bz_up_nr (by decide)]; exact a3.1
      · rw [bz_up_nr (by decide)]; exact a3.2.1
      · rw [bz_up_nr (by decide)]; exact a3.2.2
      · by_cases e : k = i
        · subst e
          rw [bz_up_eq, a2 (u + 1) (by omega) (by omega)]
        · rw [bz_up_nk e]; exact a4 k (by omega)
  refine T_le (eSt_begin_E hs6) ?_
  refine l1 10 0 _ (by omega) ⟨⟨?_, fun k hk => ?_⟩, fun r x1 x2 => ?_, ⟨?_, ?_, ?_⟩, fun k hk => by omega, fun k hk => by omega, fun k hk => by omega⟩
  · rw [bz_up_nr (by decide), bz_up_nr (by decide), bz_up_nr (by decide)]
  · rw [bz_up_nr (by decide), bz_up_nr (by decide), bz_up_nr (by decide)]
  · rw [bz_up_fn (by omega), bz_up_fn (by omega), bz_up_fn (by omega)]
  · rw [bz_up_nk (by decide), bz_up_nk (by decide), bz_up_eq]
  · rw [bz_up_nk (by decide), bz_up_eq]
  · rw [bz_up_eq]
end TB
/-! what an image tells -/
def oF (C : Nat) : Nat := 5 + C
def oG (C R : Nat) : Nat := 5 + C + 2 * (C * R)
def gRow (T : Nat → Int) (C R : Nat) : Prop := ∀ c, c < C → T (5 + c) < (R : Int)
def gC1 (T : Nat → Int) (C : Nat) (i : Nat) : Prop := T (oF C + 2 * i) ≤ 9 ∧ T (oF C + 2 * i + 1) ≤ 99
def gL1 (T : Nat → Int) (C R l : Nat) : Prop := T (oG C R + 3 * l) ≤ 1 ∧ 256 * T (oG C R + 3 * l + 1) + T (oG C R + 3 * l + 2) ≤ 999
def tpL (T : Nat → Int) (n : Nat) : List Int := (List.range n).map T
def gOn (T : Nat → Int) (n C R L : Nat) : Prop := n = oG C R + 3 * L + 1 ∧ T (n - 1) = ckL (tpL T (n - 1)) ∧ 256 * T 0 + T 1 ≤ 999 ∧ 65536 * T 2 + (256 * T 3 + T 4) ≤ 999999 ∧ gRow T C R ∧ (∀ i, i < C * R → gC1 T C i) ∧ ∀ l, l < L → gL1 T C R l
section TC
variable {Lg d : Nat} {V M M' M1 M2 N1 N2 : bz_M} {S S' B P T : Nat → Int} {v u s j n C R L : Nat} {l : List Int}
theorem tpL_l : (tpL T n).length = n := by unfold tpL; rw [List.length_map, List.length_range]
theorem tpL_g {i : Nat} (h : i < n) : (tpL T n).getD i 0 = T i := by
  unfold tpL
  simp [List.getD_eq_getElem?_getD, h]
theorem tpL_o (h : ∀ k, k < n → 0 ≤ T k ∧ T k < 256) : oO (tpL T n) := fun x hx => by
  unfold tpL at hx
  obtain ⟨i, hi, rfl⟩ := List.mem_map.mp hx
  exact h i (List.mem_range.mp hi)
/-- a number of the tape, class -/
theorem c_rn1 (hT : bz_and (M 124 n) 255 = T n ∧ 0 ≤ T n ∧ T n < 256) (hn : n < 1600) : eSt_readNumber Lg d 124 (n : Int) 1 M = some (T n, M) := by
  refine eSt_readNumber_E _ (eSt_readNumber_5_E (na := 1600) rfl _ ?_)
  rw [if_pos (by decide), Int.add_zero, w32_id (z := (n : Int)) (by omega) (by omega), if_pos (by omega), if_pos (by omega), Int.toNat_natCast, hT.1, show bz_w32 (0 * 256) = 0 from rfl, Int.zero_add, w32_id (z := T n) (by omega) (by omega), show bz_w32 (0 + 1) = 1 from rfl]
  refine eSt_readNumber_5_E (na := 1600) rfl _ ?_
  rw [if_neg (by decide)]
theorem c_rn2 (hT : ∀ k, k < n + 2 → n ≤ k → bz_and (M 124 k) 255 = T k ∧ 0 ≤ T k ∧ T k < 256) (hn : n + 2 ≤ 1600) : eSt_readNumber Lg d 124 (n : Int) 2 M = some (256 * T n + T (n + 1), M) := by
  have t0 := hT n (by omega) (by omega)
  have t1 := hT (n + 1) (by omega) (by omega)
  refine eSt_readNumber_E _ (eSt_readNumber_5_E (na := 1600) rfl _ ?_)
  rw [if_pos (by decide), Int.add_zero, w32_id (z := (n : Int)) (by omega) (by omega), if_pos (by omega), if_pos (by omega), Int.toNat_natCast, t0.1, show bz_w32 (0 * 256) = 0 from rfl, Int.zero_add, w32_id (z := T n) (by omega) (by omega), show bz_w32 (0 + 1) = 1 from rfl]
  refine eSt_readNumber_5_E (na := 1600) rfl _ ?_
  rw [if_pos (by decide), w32_id (z := (n : Int) + 1) (by omega) (by omega), if_pos (by omega), if_pos (by omega), show ((n : Int) + 1).toNat = n + 1 by omega, t1.1, w32_id (z := T n * 256) (by omega) (by omega), w32_id (z := T n * 256 + T (n + 1)) (by omega) (by omega), show bz_w32 (1 + 1) = 2 from rfl]
  refine eSt_readNumber_5_E (na := 1600) rfl _ ?_
  rw [if_neg (by decide), show T n * 256 + T (n + 1) = 256 * T n + T (n + 1) by omega]
theorem c_rn3 (hT : ∀ k, k < n + 3 → n ≤ k → bz_and (M 124 k) 255 = T k ∧ 0 ≤ T k ∧ T k < 256) (hn : n + 3 ≤ 1600) : eSt_readNumber Lg d 124 (n : Int) 3 M = some (65536 * T n + (256 * T (n + 1) + T (n + 2)), M) := by
  have t0 := hT n (by omega) (by omega)
  have t1 := hT (n + 1) (by omega) (by omega)
  have t2 := hT (n + 2) (by omega) (by omega)
  refine eSt_readNumber_E _ (eSt_readNumber_5_E (na := 1600) rfl _ ?_)
  rw [if_pos (by decide), Int.add_zero, w32_id (z := (n : Int)) (by omega) (by omega), if_pos (by omega), if_pos (by omega), Int.toNat_natCast, t0.1, show bz_w32 (0 * 256) = 0 from rfl, Int.zero_add, w32_id (z := T n) (by omega) (by omega), show bz_w32 (0 + 1) = 1 from rfl]
  refine eSt_readNumber_5_E (na := 1600) rfl _ ?_
  rw [if_pos (by decide), w32_id (z := (n : Int) + 1) (by omega) (by omega), if_pos (by omega), if_pos (by omega), show ((n : Int) + 1).toNat = n + 1 by omega, t1.1, w32_id (z := T n * 256) (by omega) (by omega), w32_id (z := T n * 256 + T (n + 1)) (by omega) (by omega), show bz_w32 (1 + 1) = 2 from rfl]
  refine eSt_readNumber_5_E (na := 1600) rfl _ ?_
  rw [if_pos (by decide), w32_id (z := (n : Int) + 2) (by omega) (by omega), if_pos (by omega), if_pos (by omega), show ((n : Int) + 2).toNat = n + 2 by omega, t2.1, w32_id (z := (T n * 256 + T (n + 1)) * 256) (by omega) (by omega), w32_id (z := (T n * 256 + T (n + 1)) * 256 + T (n + 2)) (by omega) (by omega), show bz_w32 (2 + 1) = 3 from rfl]
  refine eSt_readNumber_5_E (na := 1600) rfl _ ?_
  rw [if_neg (by decide), show (T n * 256 + T (n + 1)) * 256 + T (n + 2) = 65536 * T n + (256 * T (n + 1) + T (n + 2)) by omega]
end TC

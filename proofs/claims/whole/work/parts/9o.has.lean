/-! SIM: has -/
section SI
variable {Lg d : Nat} {V M M' : bz_M} {S : Nat → Int} {v u : Nat}
theorem tot_wi (hd : 0 < d) (hM : ∀ j, j < 80 → M 150 j = M 364 (12 + j)) : ∀ (k i : Nat) (n : Int), i + k = 80 → ∃ x, w_T (eBr_total_4 Lg d 150 n (i : Int) M) (fun p => p = (x, M)) ∧ w_T (eMo_willowAll_4 Lg d n (i : Int) M) (fun p => p = (x, M))
  | 0, i, n, h => by
    refine ⟨n, T_le (eBr_total_4_E (na := 80) rfl) ?_, T_le (eMo_willowAll_4_E hd) ?_⟩
    · rw [if_neg (by omega)]; exact T_some rfl
    · rw [if_neg (by omega)]; exact T_some rfl
  | k + 1, i, n, h => by
    obtain ⟨x, h1, h2⟩ := tot_wi hd hM k (i + 1) (bz_w32 (n + M 150 i)) (by omega)
    refine ⟨x, T_le (eBr_total_4_E (na := 80) rfl) ?_, T_le (eMo_willowAll_4_E hd) ?_⟩
    · rw [if_pos (by omega), if_pos (by omega), Int.toNat_natCast, w32_id (z := (i : Int) + 1) (by omega) (by omega)]
      exact h1
    · rw [if_pos (by omega), w32_id (z := 12 + (i : Int)) (by omega) (by omega), w32_id (z := (i : Int) + 1) (by omega) (by omega), if_pos (by omega), show (12 + (i : Int)).toNat = 12 + i by omega, ← hM i (by omega)]
      exact h2
theorem tot_no (hM : ∀ j : Nat, M 319 47 ≤ (j : Int) → j < 5 → M 152 j = 0) : ∀ (k i : Nat) (n : Int), i + k = 5 → M 319 47 ≤ (i : Int) → (0 ≤ n ∧ n ≤ 5) → w_T (eBr_total_4 Lg d 152 n (i : Int) M) (fun p => p = (n, M))
  | 0, i, n, h, hi, hn => by
    refine T_le (eBr_total_4_E (na := 5) rfl) ?_
    rw [if_neg (by omega)]
    exact T_some rfl
  | k + 1, i, n, h, hi, hn => by
    refine T_le (eBr_total_4_E (na := 5) rfl) ?_
    rw [if_pos (by omega), if_pos (by omega), Int.toNat_natCast, hM i hi (by omega), w32_id (z := (i : Int) + 1) (by omega) (by omega), w32_id (z := n + 0) (by omega) (by omega), Int.add_zero]
    exact tot_no hM k (i + 1) n (by omega) (by omega) hn
theorem tot_of (hd : 0 < d) (h5 : M 319 47 ≤ 5) (h0 : ∀ j : Nat, M 319 47 ≤ (j : Int) → j < 5 → M 152 j = 0) (hM : ∀ j : Nat, (j : Int) < M 319 47 → M 152 j = M 364 (172 + 2 * j) ∧ (M 152 j = 0 ∨ M 152 j = 1)) : ∀ (k i : Nat) (n : Int), i + k = 5 → (0 ≤ n ∧ n ≤ i) → ∃ x, w_T (eBr_total_4 Lg d 152 n (i : Int) M) (fun p => p = (x, M)) ∧ w_T (eMo_offerMany_4 Lg d n (i : Int) M) (fun p => p = (x, M))
  | 0, i, n, h, hn => by
    refine ⟨n, tot_no h0 0 i n h (by omega) (by omega), T_le (eMo_offerMany_4_E hd) ?_⟩
    rw [if_neg (by omega)]
    exact T_some rfl
  | k + 1, i, n, h, hn => by
    by_cases c : (i : Int) < M 319 47
    · obtain ⟨e1, e2⟩ := hM i c
      obtain ⟨x, h1, h2⟩ := tot_of hd h5 h0 hM k (i + 1) (n + M 152 i) (by omega) (by omega)
      refine ⟨x, T_le (eBr_total_4_E (na := 5) rfl) ?_, T_le (eMo_offerMany_4_E hd) ?_⟩
      · rw [if_pos (by omega), if_pos (by omega), Int.toNat_natCast, w32_id (z := (i : Int) + 1) (by omega) (by omega), w32_id (z := n + M 152 i) (by omega) (by omega)]
        exact h1
      · rw [if_pos c, if_pos (by omega), show (172 + 2 * (i : Int)).toNat = 172 + 2 * i by omega, ← e1, w32_id (z := (i : Int) + 1) (by omega) (by omega), w32_id (z := n + 1) (by omega) (by omega)]
        rcases e2 with e2 | e2
        · rw [if_pos (bz_b0.mpr (by omega))]
          rw [e2, Int.add_zero] at h2
          exact h2
        · rw [if_neg (fun e => bz_b0.mp e e2)]
          rw [e2] at h2
          exact h2
    · refine ⟨n, tot_no h0 (k + 1) i n h (by omega) (by omega), T_le (eMo_offerMany_4_E hd) ?_⟩
      rw [if_neg c]
      exact T_some rfl
end SI

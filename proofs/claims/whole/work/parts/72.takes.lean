/-! A QUESTION: lord by lord, the reference -/
section TK
variable {Lg d : Nat} {M : bz_M}
theorem mo_t90 {k x : Int} {M : bz_M} : w_T (eMo_qTakes_90 Lg d k x M) (fun M' => M' 319 129 = 0 ∧ M' 319 128 = (if 3 < k then (if M 319 129 = 0 then (if k = 4 then (if M 319 128 < x then x else M 319 128) else (if x < M 319 128 then x else M 319 128)) else x) else M 319 128) ∧ (∀ q, q ≠ 319 → M' q = M q) ∧ ∀ j, j ≠ 128 → j ≠ 129 → M' 319 j = M 319 j) := by
  have k1 : ∀ y, w_T (some (bz_up (bz_up M 319 128 y) 319 129 0)) (fun M' => M' 319 129 = 0 ∧ M' 319 128 = y ∧ (∀ q, q ≠ 319 → M' q = M q) ∧ ∀ j, j ≠ 128 → j ≠ 129 → M' 319 j = M 319 j) := fun y => T_some ⟨bz_up_eq _ _ _ _, by rw [bz_up_nk (by decide), bz_up_eq], fun q hq => by rw [bz_up_fn hq, bz_up_fn hq], fun j a b => by rw [bz_up_nk b, bz_up_nk a]⟩
  have k2 : w_T (some (bz_up M 319 129 0)) (fun M' => M' 319 129 = 0 ∧ M' 319 128 = M 319 128 ∧ (∀ q, q ≠ 319 → M' q = M q) ∧ ∀ j, j ≠ 128 → j ≠ 129 → M' 319 j = M 319 j) := T_some ⟨bz_up_eq _ _ _ _, bz_up_nk (by decide) _, fun q hq => bz_up_fn hq, fun j a b => bz_up_nk b _⟩
  refine T_le eMo_qTakes_90_E ?_
  simp only [lcmp_gt, lcmp_lt]
  by_cases h3 : 3 < k
  · simp only [if_pos h3]
    by_cases h9 : M 319 129 = 0
    · simp only [if_pos h9]
      by_cases h4 : k = 4
      · simp only [if_pos h4]
        by_cases hl : M 319 128 < x
        · simp only [if_pos hl]; exact k1 x
        · simp only [if_neg hl]; exact k2
      · simp only [if_neg h4]
        by_cases hl : x < M 319 128
        · simp only [if_pos hl]; exact k1 x
        · simp only [if_neg hl]; exact k2
    · simp only [if_neg h9]; exact k1 x
  · simp only [if_neg h3]; exact k2
end TK

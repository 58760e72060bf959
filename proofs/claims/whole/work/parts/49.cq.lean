/-! THE CLASS: a river ahead -/
theorem oS_gap : ∀ s ∈ bz_Sl, ∀ t ∈ bz_Sl, s ≠ t → s + 6 ≤ t ∨ t + 6 ≤ s := by decide +kernel
theorem st_copy {Lg d s t : Nat} {M : bz_M} (hs : bz_oS s) (ht : bz_oS t) (hne : s ≠ t) : ∃ M', eSt_copy Lg d s t M = some M' ∧ (M' s 0 = M t 0 ∧ M' s 1 = M t 1 ∧ M' s 2 = M t 2) ∧ (∀ k, k < 10 → M' (s + 1) k = M (t + 1) k) ∧ (∀ k, k < 80 → M' (s + 2) k = M (t + 2) k ∧ M' (s + 3) k = M (t + 3) k) ∧ (∀ k, k < 5 → M' (s + 4) k = M (t + 4) k ∧ M' (s + 5) k = M (t + 5) k) ∧ ∀ q, ¬ (s ≤ q ∧ q ≤ s + 5) → M' q = M q := by
  have hg := oS_gap s hs t ht hne
  refine ⟨_, eSt_copy_E hs ht hne _ rfl, ⟨?_, ?_, ?_⟩, fun k hk => ?_, fun k hk => ⟨?_, ?_⟩, fun k hk => ⟨?_, ?_⟩, fun q hq => ?_⟩
  · simp [bz_cpy_rk, bz_up_rk]
  · simp (disch := omega) [bz_cpy_rk, bz_up_rk]
  · simp (disch := omega) [bz_cpy_rk, bz_up_rk]
  · simp [bz_cpy_rk, bz_up_rk, hk]; omega
  · simp [bz_cpy_rk, bz_up_rk, hk]; omega
  · simp [bz_cpy_rk, bz_up_rk, hk]; omega
  · simp [bz_cpy_rk, bz_up_rk, hk]; omega
  · simp [bz_cpy_rk, bz_up_rk, hk]; omega
  · funext k
    simp [bz_cpy_rk, bz_up_rk]
    omega

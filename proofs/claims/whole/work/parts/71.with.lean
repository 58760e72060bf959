/-! A QUESTION: lord by lord -/
def wLd (k a l x : Int) : Int := if k = 0 then (if a = -1 then (if x = 0 then a else l) else a) else if k = 1 then (if x = 0 then a else l) else if k = 4 then (if l = 0 then x else if a < x then x else a) else if k = 5 then (if l = 0 then x else if x < a then x else a) else a + x
theorem kd_word {Lg : Nat} {k : Int} (h0 : 0 ≤ k) (h5 : k ≤ 5) : bz_kd Lg (Int.toNat (38 + k)) = some (.inl 12) := by
  have h : k = 0 ∨ k = 1 ∨ k = 2 ∨ k = 3 ∨ k = 4 ∨ k = 5 := by omega
  rcases h with rfl | rfl | rfl | rfl | rfl | rfl <;> rfl
theorem qu_with {Lg d : Nat} {M : bz_M} {k a l x : Int} (h0 : 0 ≤ k) (h5 : k ≤ 5) (hk : M 125 2 = 38 + k) (ha : -10000000000 ≤ a ∧ a ≤ 10000000000) (hx : -10000000000 ≤ x ∧ x ≤ 10000000000) : eQu_withLord Lg d a l x M = some (wLd k a l x, M) := by
  have hw : bz_w64 (a + x) = a + x := w64_id (by omega) (by omega)
  have kd := kd_word (Lg := Lg) h0 h5
  have g38 : ((Int.toNat (M 125 2)) = 0 ∨ bz_kd Lg (Int.toNat (M 125 2)) = some (.inl 12)) ∧ (38 = 0 ∨ bz_kd Lg 38 = some (.inl 12)) := ⟨Or.inr (by rw [hk]; exact kd), Or.inr rfl⟩
  have g39 : ((Int.toNat (M 125 2)) = 0 ∨ bz_kd Lg (Int.toNat (M 125 2)) = some (.inl 12)) ∧ (39 = 0 ∨ bz_kd Lg 39 = some (.inl 12)) := ⟨Or.inr (by rw [hk]; exact kd), Or.inr rfl⟩
  have g42 : ((Int.toNat (M 125 2)) = 0 ∨ bz_kd Lg (Int.toNat (M 125 2)) = some (.inl 12)) ∧ (42 = 0 ∨ bz_kd Lg 42 = some (.inl 12)) := ⟨Or.inr (by rw [hk]; exact kd), Or.inr rfl⟩
  have g43 : ((Int.toNat (M 125 2)) = 0 ∨ bz_kd Lg (Int.toNat (M 125 2)) = some (.inl 12)) ∧ (43 = 0 ∨ bz_kd Lg 43 = some (.inl 12)) := ⟨Or.inr (by rw [hk]; exact kd), Or.inr rfl⟩
  refine eQu_withLord_E _ ?_
  rw [if_pos g38, if_pos g39, if_pos g42, if_pos g43, hw]
  simp only [lcmp_eq, lcmp_gt, lcmp_lt]
  have e38 : (Int.toNat (M 125 2) = 38) ↔ k = 0 := by rw [hk]; omega
  have e39 : (Int.toNat (M 125 2) = 39) ↔ k = 1 := by rw [hk]; omega
  have e42 : (Int.toNat (M 125 2) = 42) ↔ k = 4 := by rw [hk]; omega
  have e43 : (Int.toNat (M 125 2) = 43) ↔ k = 5 := by rw [hk]; omega
  simp only [e38, e39, e42, e43]
  unfold wLd
  repeat' split
  all_goals rfl

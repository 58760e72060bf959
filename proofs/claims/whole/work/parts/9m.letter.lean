/-! SIM: letter -/
section SG
variable {Lg d : Nat} {V M M' : bz_M} {S : Nat → Int} {v u : Nat} {f : Nat → Int} {m : Nat}
theorem nm_b (hf : ∀ k, k < m → 1 ≤ f k ∧ f k ≤ 26) : ∀ j, j ≤ m → 0 ≤ nmV f j ∧ nmV f j < (27 : Int) ^ j ∧ (1 ≤ j → 1 ≤ nmV f j)
  | 0, _ => ⟨Int.le_refl 0, by show (0 : Int) < 27 ^ 0; decide, fun h => by omega⟩
  | j + 1, h => by
    obtain ⟨a1, a2, _⟩ := nm_b hf j (by omega)
    have b := hf j (by omega)
    have e : nmV f (j + 1) = 27 * nmV f j + f j := rfl
    rw [e, Int.pow_succ]
    refine ⟨by omega, by omega, fun _ => by omega⟩
theorem nm_div (hf : ∀ k, k < m → 1 ≤ f k ∧ f k ≤ 26) {j : Nat} (h : j < m) : Int.tdiv (nmV f (j + 1)) 27 = nmV f j ∧ Int.tmod (nmV f (j + 1)) 27 = f j := by
  have a := (nm_b hf (j + 1) (by omega)).1
  have b := hf j h
  have e : nmV f (j + 1) = 27 * nmV f j + f j := rfl
  rw [Int.tdiv_eq_ediv_of_nonneg a, Int.tmod_eq_emod_of_nonneg a, e]
  omega
theorem nm_top (hf : ∀ k, k < m → 1 ≤ f k ∧ f k ≤ 26) (hm : m ≤ 6) {j : Nat} (h : j ≤ m) : 0 ≤ nmV f j ∧ nmV f j < 400000000 ∧ (1 ≤ j → 1 ≤ nmV f j) := by
  obtain ⟨a1, a2, a3⟩ := nm_b hf j h
  refine ⟨a1, ?_, a3⟩
  have : (27 : Int) ^ j ≤ 387420489 := by
    rcases (show j = 0 ∨ j = 1 ∨ j = 2 ∨ j = 3 ∨ j = 4 ∨ j = 5 ∨ j = 6 by omega) with rfl | rfl | rfl | rfl | rfl | rfl | rfl <;> decide
  omega
theorem lt_72 (hf : ∀ k, k < m → 1 ≤ f k ∧ f k ≤ 26) (hm : m ≤ 6) {b : Nat} : ∀ (j : Nat), b + j < m → w_T (eMo_letter_72 Lg d (b : Int) (nmV f (b + j + 1)) ((b + j : Nat) : Int) M) (fun p => p = (f b, M))
  | 0, h => by
    refine T_le eMo_letter_72_E ?_
    have c := hf b (by omega)
    rw [if_neg (by omega)]
    refine T_some ?_
    rw [show b + 0 + 1 = b + 1 from rfl, (nm_div hf (j := b) (by omega)).2, w32_id (by omega) (by omega)]
  | j + 1, h => by
    refine T_le eMo_letter_72_E ?_
    have t := nm_top hf hm (j := b + (j + 1)) (by omega)
    rw [if_pos (by omega), (nm_div hf (j := b + (j + 1)) (by omega)).1, w64_id (by omega) (by omega), w32_id (by omega) (by omega), show ((b + (j + 1) : Nat) : Int) + -1 = ((b + j : Nat) : Int) by omega]
    exact lt_72 hf hm j (by omega)
theorem lt_37 (hf : ∀ k, k < m → 1 ≤ f k ∧ f k ≤ 26) (hm : m ≤ 6) (h6 : ∀ k, m ≤ k → k < 6 → f k = 0) {b : Nat} (hb : b < 6) : ∀ (j : Nat) (x5 : Int), j ≤ m → x5 = (m : Int) - j → w_T (eMo_letter_37 Lg d (b : Int) (nmV f m) x5 (nmV f j) M) (fun p => p = (f b, M))
  | 0, x5, h, hx => by
    refine T_le eMo_letter_37_E ?_
    rw [if_neg (fun e => by have := lcmp_gt.mp e; exact absurd this (Int.lt_irrefl 0))]
    by_cases c : (b : Int) < x5
    · rw [if_pos c, w32_id (by omega) (by omega)]
      obtain ⟨j, hj⟩ : ∃ j, m = b + j + 1 := ⟨m - b - 1, by omega⟩
      rw [show x5 - 1 = ((b + j : Nat) : Int) by omega]
      rw [show nmV f m = nmV f (b + j + 1) by rw [hj]]
      exact lt_72 hf hm j (by omega)
    · rw [if_neg c]
      refine T_some ?_
      rw [h6 b (by omega) hb]
  | j + 1, x5, h, hx => by
    have t := nm_top hf hm h
    have t0 := nm_top hf hm (j := j) (by omega)
    refine T_le eMo_letter_37_E ?_
    rw [if_pos (lcmp_gt.mpr (by have := t.2.2 (by omega); omega)), (nm_div hf (by omega)).1, w64_id (by omega) (by omega), w32_id (by omega) (by omega)]
    exact lt_37 hf hm h6 hb j (x5 + 1) (by omega) (by omega)
/-- how many lords there are, for both -/
theorem sim_L (h : Sim' V S v u M) : M v 3 = M 319 47 ∧ 0 ≤ M 319 47 ∧ M 319 47 ≤ 5 ∧ ∀ l : Nat, (l : Int) < M 319 47 → nmO (fun k => M (v + 4) (6 * l + k)) (M 356 (5 + l)) := by
  rcases h.2.2.1 with c | c
  · have e : M 319 47 = vL V := c.2.2.1.1.2.2.2.1
    have r := c.1.1.2.2.2.2.1
    rw [e]
    exact ⟨c.2.1.2.1.1.2.2.2.1, r.1, r.2, c.2.2.2.2.1⟩
  · have e1 := c.1.2.2
    have e2 := c.2.1.2.2.2
    rw [e1, e2]
    exact ⟨rfl, by decide, by decide, fun l hl => by omega⟩
theorem stp_letter (hd : 1 < d) {a b : Int} (h : Sim M) : stp (eBr_letter Lg d a b) (eMo_letter Lg d a b) M := by
  obtain ⟨V, S, v, u, hS⟩ := h
  have hSim : Sim M := ⟨V, S, v, u, hS⟩
  obtain ⟨l1, l2, l3, l4⟩ := sim_L hS
  have no : ¬ (0 ≤ a ∧ a ≤ M 319 47 - 1) ∨ ¬ (0 ≤ b ∧ b ≤ 5) → w_T (eMo_letter Lg d a b M) (fun p' => p'.1 = -1 ∧ Sim p'.2 ∧ fO M p'.2) := fun hb => by
    refine T_le (eMo_letter_E hd) ?_
    rw [w32_id (z := M 319 47 - 1) (by omega) (by omega)]
    by_cases x : 0 ≤ a ∧ a ≤ M 319 47 - 1
    · rw [if_neg (fun e => bz_b0.mp e x), if_pos (bz_b0.mpr (by omega))]
      exact T_some ⟨rfl, hSim, fO_refl M⟩
    · rw [if_pos (bz_b0.mpr x)]
      exact T_some ⟨rfl, hSim, fO_refl M⟩
  refine T_le (eBr_letter_E (by omega) hS.1.1) ?_
  rw [if_pos hS.1.2.2.2.1, l1]
  by_cases e0 : 0 ≤ a ∧ a < M 319 47
  · rw [if_neg (fun e => bz_b0.mp e e0)]
    by_cases b0 : b < 0
    · rw [if_pos b0]
      exact T_some (no (Or.inr (by omega)))
    rw [if_neg b0]
    by_cases b6 : b < 6
    · rw [if_pos b6, w32_id (z := a * 6) (by omega) (by omega), w32_id (z := a * 6 + b) (by omega) (by omega), if_pos (by omega)]
      refine T_some (T_le (eMo_letter_E hd) ?_)
      rw [w32_id (z := M 319 47 - 1) (by omega) (by omega), if_neg (fun e => bz_b0.mp e (by omega)), if_neg (fun e => bz_b0.mp e (by omega)), w32_id (z := 5 + a) (by omega) (by omega), if_pos (by omega), show (5 + a).toNat = 5 + a.toNat by omega]
      obtain ⟨m, m1, m2, m3, m4, m5⟩ := l4 a.toNat (by omega)
      dsimp only
      rw [m5, show b = (b.toNat : Int) by omega]
      refine T_mono (lt_37 m3 m2 m4 (by omega) m 0 (Nat.le_refl m) (by omega)) ?_
      rintro p rfl
      refine ⟨?_, hSim, fO_refl M⟩
      show M (v + 4) (6 * a.toNat + b.toNat) = M (v + 4) (a * 6 + (b.toNat : Int)).toNat
      rw [show (a * 6 + (b.toNat : Int)).toNat = 6 * a.toNat + b.toNat by omega]
    · rw [if_neg b6]
      exact T_some (no (Or.inr (by omega)))
  · rw [if_pos (bz_b0.mpr e0)]
    exact T_some (no (Or.inl (by omega)))
end SG

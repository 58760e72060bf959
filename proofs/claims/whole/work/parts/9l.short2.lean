/-! SIM: seed, end, kept, letter -/
section SF
variable {Lg d : Nat} {V M M' : bz_M} {S : Nat → Int} {v u : Nat}
theorem ref_mem {a : Nat} (hS : Sim' V S v u M) (ha : a < 6) : Sim (bz_up (bz_up M 302 a (bz_w32 (M 302 a + 1))) 321 a (bz_w32 (bz_up M 302 a (bz_w32 (M 302 a + 1)) 321 a + 1))) := ⟨V, S, v, u, by rw [bz_up_nr (show 321 ≠ 302 by decide)]; exact Sim_ref hS ha⟩
theorem ref_fO {a : Nat} {x y : Int} : fO M (bz_up (bz_up M 302 a x) 321 a y) := fO_trans (fO_up (by decide)) (fO_up (by decide))
theorem stp_seed (hd : 0 < d) {a : Int} (ha : a < 2147483648) (h : Sim M) : stp (eBr_seed Lg d a) (eMo_seed Lg d a) M := by
  obtain ⟨V, S, v, u, hS⟩ := h
  have hv := oV_c hS.1.1
  refine T_le (eBr_seed_E hd) ?_
  by_cases e0 : a < 0
  · rw [if_pos e0]
    refine T_seq (R := fun p => p = ((0 : Int), bz_up M 302 5 (bz_w32 (M 302 5 + 1)))) (T_le eBr_refuses_E ?_) ?_
    · rw [if_pos (by decide)]
      exact T_some rfl
    · rintro p rfl
      rw [if_pos (Or.inl rfl)]
      refine T_some (T_le eMo_seed_E ?_)
      rw [if_pos e0]
      exact T_some ⟨rfl, ref_mem hS (by decide), ref_fO⟩
  · rw [if_neg e0]
    refine T_some (T_le eMo_seed_E ?_)
    rw [if_neg e0]
    have t1 := hS.2.2.2.1
    have t2 := hS.2.2.2.2.1
    have t3 := hS.2.2.2.2.2.1
    have t6 := hS.2.2.2.2.2.2.2.2.1
    have k : ∀ r, r ≠ 122 → r ≠ 319 → bz_up (bz_up M 122 13 a) 319 87 a r = M r := fun r x1 x2 => by rw [bz_up_fn x2, bz_up_fn x1]
    have k1 : ∀ j, j ≠ 13 → bz_up (bz_up M 122 13 a) 319 87 a 122 j = M 122 j := fun j hj => by rw [bz_up_nr (by decide), bz_up_nk hj]
    have k9 : ∀ j, j ≠ 87 → bz_up (bz_up M 122 13 a) 319 87 a 319 j = M 319 j := fun j hj => by rw [bz_up_nk hj, bz_up_nr (by decide)]
    refine T_some ?_
    show (1 : Int) = 1 ∧ Sim (bz_up (bz_up M 122 13 a) 319 87 a) ∧ fO M (bz_up (bz_up M 122 13 a) 319 87 a)
    refine ⟨rfl, ⟨V, S, v, u, Sim_g hS ⟨fun r x1 x2 _ _ => k r x2 (by omega), k1 11 (by decide), by rw [k 279 (by decide) (by decide)], fun j _ x _ => k9 j x, fun j _ => by rw [k 355 (by decide) (by decide)], fun j _ => by rw [k 356 (by decide) (by decide)], fun j _ => by rw [k 357 (by decide) (by decide)], fun j _ => by rw [k 358 (by decide) (by decide)], fun j _ => ⟨by rw [k 361 (by decide) (by decide)], by rw [k 362 (by decide) (by decide)]⟩, fun j _ => by rw [k 363 (by decide) (by decide)]⟩ (tpR_co t1 (by rw [k 123 (by decide) (by decide)]) (k9 1 (by decide)) (k 320 (by decide) (by decide)) (k 124 (by decide) (by decide))) ?_ ?_ ?_ (imR_co t6 (k1 12 (by decide)) (k9 131 (by decide)) (k 411 (by decide) (by decide)) (k 299 (by decide) (by decide)))⟩, fO_trans (fO_up (by decide)) (fO_up (by decide))⟩
    · unfold ftR at t2 ⊢
      rw [k 123 (by decide) (by decide), k9 7 (by decide), k9 8 (by decide)]
      exact t2
    · unfold rfR at t3 ⊢
      rw [k 302 (by decide) (by decide), k 321 (by decide) (by decide)]
      exact t3
    · refine ⟨?_, ?_⟩
      · rw [bz_up_nr (by decide), bz_up_eq, bz_up_eq]
      · rw [bz_up_eq]; omega
theorem stp_end (hd : 0 < d) {a : Int} (h : Sim M) : stp (eBr_end Lg d a) (eMo_end Lg d a) M := by
  obtain ⟨V, S, v, u, hS⟩ := h
  have hv := oV_c hS.1.1
  have t1 := hS.2.2.2.1
  have t2 := hS.2.2.2.2.1
  have t3 := hS.2.2.2.2.2.1
  have cref : w_T (eBr_refuses Lg (d - 1) 0 M) (fun p => p = ((0 : Int), bz_up M 302 0 (bz_w32 (M 302 0 + 1)))) := by
    refine T_le eBr_refuses_E ?_
    rw [if_pos (by decide)]
    exact T_some rfl
  refine T_le (eBr_end_E hd) ?_
  by_cases e0 : a < 0
  · rw [if_pos e0]
    refine T_seq cref ?_
    rintro p rfl
    rw [if_pos (Or.inl rfl)]
    refine T_some (T_le eMo_end_E ?_)
    rw [if_pos e0]
    exact T_some ⟨rfl, ref_mem hS (by decide), ref_fO⟩
  rw [if_neg e0]
  by_cases e1 : M 123 1 < a
  · rw [if_pos e1]
    refine T_seq cref ?_
    rintro p rfl
    rw [if_pos (Or.inl rfl)]
    refine T_some (T_le eMo_end_E ?_)
    dsimp only
    rw [if_neg e0, if_pos (by rw [bz_up_nr (by decide), ← t1.1]; exact e1)]
    exact T_some ⟨rfl, ref_mem hS (by decide), ref_fO⟩
  · rw [if_neg e1]
    refine T_some (T_le eMo_end_E ?_)
    dsimp only
    rw [if_neg e0, if_neg (by rw [bz_up_nr (by decide), ← t1.1]; exact e1)]
    refine T_some ?_
    show (1 : Int) = 1 ∧ Sim (bz_up (bz_up M 123 1 a) 319 1 a) ∧ fO M (bz_up (bz_up M 123 1 a) 319 1 a)
    refine ⟨rfl, ⟨V, S, v, u, Sim_k hS (kS_trans (kS_up (by omega)) (kS_9 hS.1.1 (by decide))) ?_ ?_ ?_⟩, fO_trans (fO_up (by decide)) (fO_up (by decide))⟩
    · have u1 := t1.1
      have u2 := t1.2.1
      refine ⟨?_, ?_, fun j hj => ?_⟩
      · rw [bz_up_nr (by decide), bz_up_eq, bz_up_eq]
      · rw [bz_up_eq]; omega
      · rw [bz_up_eq] at hj
        rw [bz_up_nr (show 320 ≠ 319 by decide), bz_up_nr (show 320 ≠ 123 by decide), bz_up_nr (show 124 ≠ 319 by decide), bz_up_nr (show 124 ≠ 123 by decide)]
        exact t1.2.2 j (by omega)
    · refine ⟨?_, ?_⟩
      · rw [bz_up_nr (show 123 ≠ 319 by decide), bz_up_nk (show 6 ≠ 1 by decide), bz_up_nk (show 7 ≠ 1 by decide), bz_up_nr (show 319 ≠ 123 by decide)]
        exact t2.1
      · rw [bz_up_nr (show 123 ≠ 319 by decide), bz_up_nk (show 7 ≠ 1 by decide), bz_up_nk (show 8 ≠ 1 by decide), bz_up_nr (show 319 ≠ 123 by decide)]
        exact t2.2
    · intro j hj
      rw [bz_up_nr (show 302 ≠ 319 by decide), bz_up_nr (show 302 ≠ 123 by decide), bz_up_nr (show 321 ≠ 319 by decide), bz_up_nr (show 321 ≠ 123 by decide)]
      exact t3 j hj
theorem sim_cS (h : Sim' V S v u M) : cS 148 S M ∧ 0 ≤ S 0 ∧ S 0 ≤ 999 := by
  rcases h.2.2.1 with c | c
  · exact ⟨c.2.1.2.2, c.1.2.1.1.1, c.1.2.2.1⟩
  · have := c.2.2.2.1 0 (by decide)
    exact ⟨c.2.2.1, by omega, by omega⟩
theorem stp_kept (hd : 1 < d) {a b : Int} (h : Sim M) : stp (eBr_kept Lg d a b) (eMo_kept Lg d a b) M := by
  obtain ⟨V, S, v, u, hS⟩ := h
  have hSim : Sim M := ⟨V, S, v, u, hS⟩
  obtain ⟨c1, c2, c3⟩ := sim_cS hS
  have c0 : M 148 0 = S 0 := by rw [c1.1.1]; omega
  have m := hS.2.1
  obtain ⟨k1, k2, k3⟩ := hS.2.2.2.2.2.2.2.2.2.2.1
  have m182 : M 364 182 = S 182 := m 182 (by decide)
  have no : ¬ (0 ≤ a ∧ a ≤ S 182 - 1) ∨ ¬ (0 ≤ b ∧ b ≤ 2) → w_T (eMo_kept Lg d a b M) (fun p' => p'.1 = -1 ∧ Sim p'.2 ∧ fO M p'.2) := fun hb => by
    refine T_le (eMo_kept_E (by omega)) ?_
    rw [m182, w32_id (z := S 182 - 1) (by omega) (by omega)]
    by_cases x : 0 ≤ a ∧ a ≤ S 182 - 1
    · rw [if_neg (fun e => bz_b0.mp e x), if_pos (bz_b0.mpr (by omega))]
      exact T_some ⟨rfl, hSim, fO_refl M⟩
    · rw [if_pos (bz_b0.mpr x)]
      exact T_some ⟨rfl, hSim, fO_refl M⟩
  have yes : ∀ (j : Nat) (x : Int), (0 ≤ a ∧ a < S 182) → j < 3 → b = (j : Int) → S (183 + 3 * a.toNat + j) = x → w_T (eMo_kept Lg d a b M) (fun p' => p'.1 = x ∧ Sim p'.2 ∧ fO M p'.2) := fun j x ha hj hb hx => by
    refine T_le (eMo_kept_E (by omega)) ?_
    rw [m182, w32_id (z := S 182 - 1) (by omega) (by omega), if_neg (fun e => bz_b0.mp e (by omega)), if_neg (fun e => bz_b0.mp e (by omega)), w32_id (z := 3 * a) (by omega) (by omega), w32_id (z := 183 + 3 * a) (by omega) (by omega), w32_id (z := 183 + 3 * a + b) (by omega) (by omega), if_pos (by omega), show (183 + 3 * a + b).toNat = 183 + 3 * a.toNat + j by omega, m _ (by omega), hx]
    exact T_some ⟨rfl, hSim, fO_refl M⟩
  refine T_le (eBr_kept_E hd) ?_
  by_cases e0 : a < 0
  · rw [if_pos e0]
    exact T_some (no (Or.inl (by omega)))
  rw [if_neg e0, ← k2]
  by_cases e1 : a < S 182
  · have q := k3 a.toNat (by omega)
    rw [if_pos e1, c0, w32_id (z := S 0 - M 148 2) (by omega) (by omega), w32_id (z := M 148 2 - S 182) (by omega) (by omega), w32_id (z := M 148 2 - S 182 + a) (by omega) (by omega), w32_id (z := S 0 - M 148 2 + (M 148 2 - S 182 + a)) (by omega) (by omega)]
    by_cases b0 : b = 0
    · rw [if_pos b0]
      exact T_some (yes 0 _ (by omega) (by decide) b0 (by rw [show 183 + 3 * a.toNat + 0 = 183 + 3 * a.toNat from rfl, q.1]; omega))
    rw [if_neg b0]
    by_cases b1 : b = 1
    · rw [if_pos b1, if_pos (by omega)]
      exact T_some (yes 1 _ (by omega) (by decide) b1 (by rw [show 183 + 3 * a.toNat + 1 = 184 + 3 * a.toNat by omega, q.2.1, show M 148 2 - S 182 + (a.toNat : Int) = M 148 2 - S 182 + a by omega]))
    rw [if_neg b1]
    by_cases b2 : b = 2
    · rw [if_pos b2, if_pos (by omega)]
      exact T_some (yes 2 _ (by omega) (by decide) b2 (by rw [show 183 + 3 * a.toNat + 2 = 185 + 3 * a.toNat by omega, q.2.2, show M 148 2 - S 182 + (a.toNat : Int) = M 148 2 - S 182 + a by omega]))
    rw [if_neg b2]
    exact T_some (no (Or.inr (by omega)))
  · rw [if_neg e1]
    exact T_some (no (Or.inl (by omega)))
end SF

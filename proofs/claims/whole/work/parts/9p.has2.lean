/-! SIM: has, all -/
section SJ
variable {Lg d : Nat} {V M M' : bz_M} {S : Nat → Int} {v u : Nat}
theorem sim_of (h : Sim' V S v u M) : (∀ j : Nat, M 319 47 ≤ (j : Int) → j < 5 → M 152 j = 0) ∧ (∀ j : Nat, (j : Int) < M 319 47 → M 152 j = M 364 (172 + 2 * j) ∧ (M 152 j = 0 ∨ M 152 j = 1)) ∧ ∀ j, j < 80 → M 150 j = M 364 (12 + j) := by
  have c := (sim_cS h).1
  obtain ⟨_, l2, l3, _⟩ := sim_L h
  have m := h.2.1
  have o : ∀ j : Nat, j < 5 → M 152 j = S (172 + 2 * j) := fun j hj => by
    have := (c.2.2.2 (j : Int) (by omega) (by omega)).1
    unfold sOf at this
    rw [Int.toNat_natCast, show (172 + 2 * (j : Int)).toNat = 172 + 2 * j by omega] at this
    exact this
  refine ⟨fun j h1 h2 => ?_, fun j h1 => ?_, fun j hj => ?_⟩
  · rw [o j h2]
    rcases h.2.2.1 with w | w
    · have e : M 319 47 = vL V := w.2.2.1.1.2.2.2.1
      have := (w.1.2.2.2.2.1 (j : Int) (by omega) (by omega)).1
      unfold sOf at this
      rw [show (172 + 2 * (j : Int)).toNat = 172 + 2 * j by omega] at this
      exact this
    · exact w.2.2.2.1 _ (by omega)
  · rw [m _ (by omega), o j (by omega)]
    refine ⟨rfl, ?_⟩
    rcases h.2.2.1 with w | w
    · have e : M 319 47 = vL V := w.2.2.1.1.2.2.2.1
      have := (w.1.2.1.2.2.2.2 (j : Int) (by omega) (by omega)).1
      unfold sOf at this
      rw [show (172 + 2 * (j : Int)).toNat = 172 + 2 * j by omega] at this
      exact this
    · have := w.2.1.2.2.2
      omega
  · rw [m _ (by omega)]
    have := (c.2.2.1 (j : Int) (by omega) (by omega)).1
    unfold sWi at this
    rw [Int.toNat_natCast, show (12 + (j : Int)).toNat = 12 + j by omega] at this
    exact this
theorem sim_sz (h : Sim' V S v u M) : M v 0 = M 355 3 ∧ M v 1 = M 355 4 := by
  rcases h.2.2.1 with c | c
  · have e := c.2.2.1.1
    have f := c.2.1.2.1.1
    rw [e.1, e.2.1]
    exact ⟨f.1, f.2.1⟩
  · have e := c.2.1
    have f := c.1
    rw [e.2.1, e.2.2.1]
    exact ⟨f.1, f.2.1⟩
theorem stp_has (hd : 8 < d) {a : Int} (h : Sim M) : stp (eBr_has Lg d a) (eMo_has Lg d a) M := by
  by_cases c5 : a = 5
  · subst c5
    refine stp_q h (fun V S v o hV hC hN => ⟨sBends V S 0 (vC V - 1), T_le (eBr_has_E (v := v) (by omega) o) ?_, fun M' hM h7 _ _ => T_le (eMo_has_E (by omega)) ?_⟩) (fun v o h1 h0 h6 => ⟨0, T_le (eBr_has_E (by omega) o) ?_, T_le (eMo_has_E (by omega)) ?_⟩)
    · have b := hV.1.2.1
      rw [if_neg (by decide), if_neg (by decide), if_neg (by decide), if_neg (by decide), if_neg (by decide), if_pos rfl, if_pos hC.1, hC.2.1.1.1, w32_id (by omega) (by omega)]
      refine T_seq (ri_bends (by omega) hr131 o hV.1 hV.2.1 hV.2.2.1 hC (by omega) (by omega) (by omega)) ?_
      rintro p ⟨e1, e2⟩
      exact T_some ⟨e1, qC_cF e2⟩
    · rw [if_neg (by decide), if_neg (by decide), if_neg (by decide), if_neg (by decide), if_neg (by decide), if_pos rfl]
      refine T_seq (mo_bendMany (by omega) hV.1 hV.2.1 hM) ?_
      rintro p ⟨e1, e2⟩
      exact T_some ⟨e1, qM_fz e2⟩
    · rw [if_neg (by decide), if_neg (by decide), if_neg (by decide), if_neg (by decide), if_neg (by decide), if_pos rfl, if_pos h1, h0.1, w32_id (z := 0 - 1) (by decide) (by decide)]
      refine T_seq (R := fun p => p = ((0 : Int), M)) (T_le eRi_countBends_E (T_le (eRi_countBends_5_E (by omega) hr131) ?_)) ?_
      · rw [if_pos (by decide)]; exact T_some rfl
      · rintro p rfl; exact T_some rfl
    · have e3 : M 355 3 = 0 := by
        obtain ⟨V, S, v', u, hS⟩ := h
        rcases hS.2.2.1 with w | w
        · have x2 : M 319 60 = V 319 60 := w.2.2.1.1.2.2.2.2
          have x3 : V 319 60 = 1 := w.1.1.1
          have := h6.1
          omega
        · exact w.2.1.2.1
      rw [if_neg (by decide), if_neg (by decide), if_neg (by decide), if_neg (by decide), if_neg (by decide), if_pos rfl]
      refine T_seq (R := fun p => p = ((0 : Int), M)) (T_le eMo_bendMany_E (T_le (eMo_bendMany_4_E (by omega)) ?_)) ?_
      · rw [if_neg (by rw [e3]; decide)]; exact T_some rfl
      · rintro p rfl; exact T_some rfl
  obtain ⟨V, S, v, u, hS⟩ := h
  have hSim : Sim M := ⟨V, S, v, u, hS⟩
  obtain ⟨z0, z1⟩ := sim_sz hS
  obtain ⟨l1, l2, l3, _⟩ := sim_L hS
  obtain ⟨o1, o2, o3⟩ := sim_of hS
  obtain ⟨c1, c2, c3⟩ := sim_cS hS
  have m := hS.2.1
  have h131 := hS.1.2.2.2.1
  have kp := hS.2.2.2.2.2.2.2.2.2.2.1
  have pa := hS.2.2.2.2.2.2.2.2.2.2.2.1
  have sn := hS.2.2.2.2.2.2.2.2.2.1
  have both : ∀ x, w_T (eBr_has Lg d a M) (fun p => p = (x, M)) → w_T (eMo_has Lg d a M) (fun p => p = (x, M)) → stp (eBr_has Lg d a) (eMo_has Lg d a) M := fun x h1 h2 => by
    refine T_mono h1 ?_
    rintro p rfl
    refine T_mono h2 ?_
    rintro p rfl
    exact ⟨rfl, hSim, fO_refl M⟩
  by_cases c0 : a = 0
  · subst c0
    refine both (M 355 3) (T_le (eBr_has_E (by omega) hS.1.1) ?_) (T_le (eMo_has_E (by omega)) ?_)
    · rw [if_pos rfl, if_pos h131, z0]; exact T_some rfl
    · rw [if_pos rfl, if_pos (by decide)]; exact T_some rfl
  by_cases c1' : a = 1
  · subst c1'
    refine both (M 355 4) (T_le (eBr_has_E (by omega) hS.1.1) ?_) (T_le (eMo_has_E (by omega)) ?_)
    · rw [if_neg c0, if_pos rfl, if_pos h131, z1]; exact T_some rfl
    · rw [if_neg c0, if_pos rfl, if_pos (by decide)]; exact T_some rfl
  by_cases c2' : a = 2
  · subst c2'
    refine both (M 319 47) (T_le (eBr_has_E (by omega) hS.1.1) ?_) (T_le (eMo_has_E (by omega)) ?_)
    · rw [if_neg c0, if_neg c1', if_pos rfl, if_pos h131, l1]; exact T_some rfl
    · rw [if_neg c0, if_neg c1', if_pos rfl]; exact T_some rfl
  by_cases c3' : a = 3
  · subst c3'
    have e : M 148 0 = M 364 0 := by rw [c1.1.1, m 0 (by decide)]; omega
    refine both (M 364 0) (T_le (eBr_has_E (by omega) hS.1.1) ?_) (T_le (eMo_has_E (by omega)) ?_)
    · rw [if_neg c0, if_neg c1', if_neg c2', if_pos rfl, e]; exact T_some rfl
    · rw [if_neg c0, if_neg c1', if_neg c2', if_pos rfl, if_pos (by decide)]; exact T_some rfl
  by_cases c4 : a = 4
  · subst c4
    have e : M 148 1 = M 364 1 := by rw [c1.1.2, m 1 (by decide)]
    refine both (M 364 1) (T_le (eBr_has_E (by omega) hS.1.1) ?_) (T_le (eMo_has_E (by omega)) ?_)
    · rw [if_neg c0, if_neg c1', if_neg c2', if_neg c3', if_pos rfl, e]; exact T_some rfl
    · rw [if_neg c0, if_neg c1', if_neg c2', if_neg c3', if_pos rfl, if_pos (by decide)]; exact T_some rfl
  by_cases c6 : a = 6
  · obtain ⟨x, h1, h2⟩ := tot_of (Lg := Lg) (d := d - 1) (by omega) l3 o1 o2 5 0 0 (by decide) (by decide)
    refine both x (T_le (eBr_has_E (by omega) hS.1.1) ?_) (T_le (eMo_has_E (by omega)) ?_)
    · rw [if_neg c0, if_neg c1', if_neg c2', if_neg c3', if_neg c4, if_neg c5, if_pos c6]
      refine T_seq (T_le eBr_total_E h1) ?_
      rintro p rfl; exact T_some rfl
    · rw [if_neg c0, if_neg c1', if_neg c2', if_neg c3', if_neg c4, if_neg c5, if_pos c6]
      refine T_seq (T_le eMo_offerMany_E h2) ?_
      rintro p rfl; exact T_some rfl
  by_cases c7 : a = 7
  · obtain ⟨x, h1, h2⟩ := tot_wi (Lg := Lg) (d := d - 1) (by omega) o3 80 0 0 (by decide)
    refine both x (T_le (eBr_has_E (by omega) hS.1.1) ?_) (T_le (eMo_has_E (by omega)) ?_)
    · rw [if_neg c0, if_neg c1', if_neg c2', if_neg c3', if_neg c4, if_neg c5, if_neg c6, if_pos c7]
      refine T_seq (T_le eBr_total_E h1) ?_
      rintro p rfl; exact T_some rfl
    · rw [if_neg c0, if_neg c1', if_neg c2', if_neg c3', if_neg c4, if_neg c5, if_neg c6, if_pos c7]
      refine T_seq (T_le eMo_willowAll_E h2) ?_
      rintro p rfl; exact T_some rfl
  by_cases c8 : a = 8
  · refine both (M 364 182) (T_le (eBr_has_E (by omega) hS.1.1) ?_) (T_le (eMo_has_E (by omega)) ?_)
    · rw [if_neg c0, if_neg c1', if_neg c2', if_neg c3', if_neg c4, if_neg c5, if_neg c6, if_neg c7, if_pos c8, ← kp.2.1, m 182 (by decide)]; exact T_some rfl
    · rw [if_neg c0, if_neg c1', if_neg c2', if_neg c3', if_neg c4, if_neg c5, if_neg c6, if_neg c7, if_pos c8]; exact T_some rfl
  by_cases c9 : a = 9
  · refine both (M 319 79) (T_le (eBr_has_E (by omega) hS.1.1) ?_) (T_le (eMo_has_E (by omega)) ?_)
    · rw [if_neg c0, if_neg c1', if_neg c2', if_neg c3', if_neg c4, if_neg c5, if_neg c6, if_neg c7, if_neg c8, if_pos c9, sn.1]; exact T_some rfl
    · rw [if_neg c0, if_neg c1', if_neg c2', if_neg c3', if_neg c4, if_neg c5, if_neg c6, if_neg c7, if_neg c8, if_pos c9]; exact T_some rfl
  by_cases c10 : a = 10
  · refine both (M 319 85) (T_le (eBr_has_E (by omega) hS.1.1) ?_) (T_le (eMo_has_E (by omega)) ?_)
    · rw [if_neg c0, if_neg c1', if_neg c2', if_neg c3', if_neg c4, if_neg c5, if_neg c6, if_neg c7, if_neg c8, if_neg c9, if_pos c10, pa.1.1]; exact T_some rfl
    · rw [if_neg c0, if_neg c1', if_neg c2', if_neg c3', if_neg c4, if_neg c5, if_neg c6, if_neg c7, if_neg c8, if_neg c9, if_pos c10]; exact T_some rfl
  refine both (-1) (T_le (eBr_has_E (by omega) hS.1.1) ?_) (T_le (eMo_has_E (by omega)) ?_)
  · rw [if_neg c0, if_neg c1', if_neg c2', if_neg c3', if_neg c4, if_neg c5, if_neg c6, if_neg c7, if_neg c8, if_neg c9, if_neg c10]; exact T_some rfl
  · rw [if_neg c0, if_neg c1', if_neg c2', if_neg c3', if_neg c4, if_neg c5, if_neg c6, if_neg c7, if_neg c8, if_neg c9, if_neg c10]; exact T_some rfl
end SJ

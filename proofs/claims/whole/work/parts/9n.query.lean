/-! SIM: the queries -/
section SH
variable {Lg d : Nat} {V M M' : bz_M} {S : Nat → Int} {v u : Nat}
theorem stp_q {f g : bz_M → Option (Int × bz_M)} (h : Sim M) (hv : ∀ V S v, bz_oV v → vSt V S → cR V S 131 148 v M → snR V M → ∃ x, w_T (f M) (fun p => p.1 = x ∧ qC M p.2) ∧ ∀ M', mR V S M' → M' 319 70 = 0 → M' 319 79 = M 319 79 → M' 372 = M 372 → w_T (g M') (fun p => p.1 = x ∧ qM M' p.2)) (hn : ∀ v, bz_oV v → M 131 0 = (v : Int) → (M v 0 = 0 ∧ M v 1 = 0 ∧ M v 3 = 0) → (M 319 60 = 0 ∧ M 319 47 = 0) → ∃ x, w_T (f M) (fun p => p = (x, M)) ∧ w_T (g M) (fun p => p = (x, M))) : stp f g M := by
  obtain ⟨V, S, v, u, hS⟩ := h
  rcases hS.2.2.1 with c | c
  · obtain ⟨x, h1, h2⟩ := hv V S v hS.1.1 c.1 c.2.1 hS.2.2.2.2.2.2.2.2.2.1
    refine T_mono h1 ?_
    rintro ⟨y, N⟩ ⟨e1, e2⟩
    dsimp only at e1 e2 ⊢
    have q1 := sQ_C e2
    have hN := Sim_q hS q1
    have mN : mR V S N := by
      rcases hN.2.2.1 with c' | c'
      · exact ⟨c'.2.2.1, fun k hk => hN.2.1 k (by omega)⟩
      · have x0 := c'.2.1.1
        have x1 : N 319 60 = M 319 60 := q1.2.2 60 (by decide)
        have x2 : M 319 60 = V 319 60 := c.2.2.1.1.2.2.2.2
        have x3 : V 319 60 = 1 := c.1.1.1
        omega
    refine T_mono (h2 N mN hN.2.2.2.2.2.2.2.1 (q1.2.2 79 (by decide)) (q1.1 372 (by decide))) ?_
    rintro ⟨y', N'⟩ ⟨e3, e4⟩
    dsimp only at e3 e4 ⊢
    have q2 := sQ_M e4
    refine ⟨by rw [e3, e1], ⟨V, S, v, u, Sim_q hN q2⟩, fun r hr => ?_⟩
    rw [q2.1 r (by omega), q1.1 r (by omega)]
  · obtain ⟨x, h1, h2⟩ := hn v hS.1.1 hS.1.2.2.2.1 c.1 ⟨c.2.1.1, c.2.1.2.2.2⟩
    refine T_mono h1 ?_
    rintro p rfl
    refine T_mono h2 ?_
    rintro p rfl
    exact ⟨rfl, ⟨V, S, v, u, hS⟩, fO_refl M⟩
theorem stp_later (hd : 8 < d) {a b : Int} (h : Sim M) : stp (eBr_later Lg d a b) (eMo_later Lg d a b) M := by
  refine stp_q h (fun V S v o hV hC hN => ⟨_, c_later (by omega) o hV.1 hV.2.1 hV.2.2.1 hC, fun M' hM h7 _ _ => m_later hd hV.1 hV.2.1 hV.2.2.1 hM h7⟩) (fun v o h1 h0 h6 => ⟨-1, T_le (eBr_later_E (by omega) o) ?_, T_le (eMo_later_E (by omega)) ?_⟩)
  · rw [if_pos h1, if_pos (bz_b0.mpr (by rw [h0.1]; omega))]; exact T_some rfl
  · rw [if_pos (bz_b0.mpr (fun x => x.1 h6.1))]; exact T_some rfl
theorem stp_sums (hd : 8 < d) {a b : Int} (h : Sim M) : stp (eBr_sums Lg d a b) (eMo_sums Lg d a b) M := by
  refine stp_q h (fun V S v o hV hC hN => ⟨_, c_sums (by omega) o hV.1 hV.2.1 hV.2.2.2.2.1 hV.2.2.1 hC, fun M' hM h7 _ _ => m_sums hd hV.1 hV.2.1 hV.2.2.1 hM h7⟩) (fun v o h1 h0 h6 => ⟨-1, T_le (eBr_sums_E (by omega) o) ?_, T_le (eMo_sums_E (by omega)) ?_⟩)
  · rw [if_pos h1, if_pos (bz_b0.mpr (by rw [h0.1]; omega))]; exact T_some rfl
  · rw [if_pos (bz_b0.mpr (fun x => x.1 h6.1))]; exact T_some rfl
theorem stp_straight (hd : 8 < d) (h : Sim M) : stp (eBr_straight Lg d) (eMo_straight Lg d) M := by
  refine stp_q h (fun V S v o hV hC hN => ⟨_, c_straight (by omega) o hV.1 hV.2.1 hV.2.2.1 hC, fun M' hM h7 _ _ => m_straight hd hV.1 hV.2.1 hV.2.2.1 hM h7⟩) (fun v o h1 h0 h6 => ⟨-1, T_le (eBr_straight_E (by omega) o) ?_, T_le (eMo_straight_E (by omega)) ?_⟩)
  · rw [if_pos h1, if_pos (bz_b0.mpr (by rw [h0.1]; omega))]; exact T_some rfl
  · rw [if_pos h6.1]; exact T_some rfl
theorem stp_works (hd : 10 < d) {a b c e : Int} (h : Sim M) : stp (eBr_works Lg d a b c e) (eMo_works Lg d a b c e) M := by
  refine stp_q h (fun V S v o hV hC hN => ⟨_, c_works (by omega) o hV.1 hV.2.1 hV.2.2.1 hV.2.2.2.1 hC, fun M' hM h7 _ _ => m_works hd hV.1 hV.2.1 hV.2.2.1 hV.2.2.2.1 hM h7⟩) (fun v o h1 h0 h6 => ⟨-1, T_le (eBr_works_E (by omega) o) ?_, T_le (eMo_works_E (by omega)) ?_⟩)
  · rw [if_pos h1, if_pos (bz_b0.mpr (by rw [h0.1]; omega))]; exact T_some rfl
  · rw [if_pos (bz_b0.mpr (fun x => x.1.1 h6.1))]; exact T_some rfl
theorem stp_rest (hd : 9 < d) {a : Int} (h : Sim M) : stp (eBr_rest Lg d a) (eMo_rest Lg d a) M := by
  refine stp_q h (fun V S v o hV hC hN => ⟨_, c_rest (by omega) o hV.1 hV.2.1 hV.2.2.1 hC, fun M' hM h7 _ _ => m_rest hd hV.1 hV.2.1 hV.2.2.1 hM h7⟩) (fun v o h1 h0 h6 => ⟨-1, T_le (eBr_rest_E (by omega) o) ?_, T_le (eMo_rest_E (by omega)) ?_⟩)
  · rw [if_pos h1, if_pos (bz_b0.mpr (by rw [h0.1]; omega))]; exact T_some rfl
  · rw [if_pos (bz_b0.mpr (fun x => x.1 h6.1))]; exact T_some rfl
theorem stp_barge (hd : 1 < d) (h : Sim M) : stp (eBr_barge Lg d) (eMo_barge Lg d) M := by
  refine stp_q h (fun V S v o hV hC hN => ⟨_, c_barge hd o hV.1 hV.2.1 hC, fun M' hM h7 _ _ => T_eq (mo_barge (by omega) hV.1 hV.2.1 hM) ⟨rfl, qM_refl M'⟩⟩) (fun v o h1 h0 h6 => ⟨-1, T_le (eBr_barge_E (by omega) o) ?_, T_le (eMo_barge_E (by omega)) ?_⟩)
  · rw [if_pos h1, if_pos (bz_b0.mpr (by rw [h0.1]; omega))]; exact T_some rfl
  · rw [if_pos h6.1]; exact T_some rfl
theorem stp_cuts (hd : 3 < d) (h : Sim M) : stp (eBr_cuts Lg d) (eMo_cuts Lg d) M := by
  refine stp_q h (fun V S v o hV hC hN => ⟨_, c_cuts (by omega) o hV.1 hV.2.1 hC, fun M' hM h7 _ _ => m_cuts hd hV.1 hV.2.1 hM⟩) (fun v o h1 h0 h6 => ⟨-1, T_le (eBr_cuts_E (by omega) o) ?_, T_le (eMo_cuts_E (by omega)) ?_⟩)
  · rw [if_pos h1, if_pos (bz_b0.mpr (by rw [h0.1]; omega))]; exact T_some rfl
  · rw [if_pos h6.1]; exact T_some rfl
theorem stp_dream (hd : 7 < d) {a : Int} (h : Sim M) : stp (eBr_dream Lg d a) (eMo_dream Lg d a) M := by
  refine stp_q h (fun V S v o hV hC hN => ⟨_, c_dream (by omega) o hV.1 hV.2.1 hV.2.2.1 hC, fun M' hM h7 _ _ => m_dream hd hV.1 hV.2.1 hM⟩) (fun v o h1 h0 h6 => ⟨-1, T_le (eBr_dream_E (by omega) o) ?_, T_le (eMo_dream_E (by omega)) ?_⟩)
  · rw [if_pos h1, if_pos (bz_b0.mpr (by rw [h0.1]; omega))]; exact T_some rfl
  · rw [if_pos h6.1]; exact T_some rfl
theorem stp_ran (hd : 9 < d) {a : Int} (h : Sim M) : stp (eBr_ran Lg d a) (eMo_ran Lg d a) M := by
  refine stp_q h (fun V S v o hV hC hN => ⟨_, c_ran (by omega) o hV.1 hV.2.1 hV.2.2.1 hN.2.1 hC hN.1 hN.2.2, fun M' hM h7 k1 k2 => m_ran hd hV.1 hV.2.1 hV.2.2.1 hN.2.1 hM h7 k1 (fun j _ => by rw [k2])⟩) (fun v o h1 h0 h6 => ⟨-1, T_le (eBr_ran_E (by omega) o) ?_, T_le (eMo_ran_E (by omega)) ?_⟩)
  · rw [if_pos h1, if_pos (bz_b0.mpr (by rw [h0.1]; omega))]; exact T_some rfl
  · rw [if_pos (bz_b0.mpr (fun x => x.1 h6.1))]; exact T_some rfl
theorem stp_tells (hd : 9 < d) {a b : Int} (h : Sim M) : stp (eBr_tells Lg d a b) (eMo_tells Lg d a b) M := by
  refine stp_q h (fun V S v o hV hC hN => ⟨_, c_tells (by omega) o hV.1 hV.2.1 hV.2.2.1 hN.2.1 hC hN.1 hN.2.2, fun M' hM h7 k1 k2 => m_tells hd hV.1 hV.2.1 hV.2.2.1 hN.2.1 hM h7 k1 (fun j _ => by rw [k2])⟩) (fun v o h1 h0 h6 => ⟨-1, T_le (eBr_tells_E (by omega) o) ?_, T_le (eMo_tells_E (by omega)) ?_⟩)
  · rw [if_pos h1, if_pos (bz_b0.mpr (by rw [h0.1]; omega))]; exact T_some rfl
  · rw [if_pos (bz_b0.mpr (fun x => x.1 h6.1))]; exact T_some rfl
theorem stp_column (hd : 6 < d) {a b : Int} (h : Sim M) : stp (eBr_column Lg d a b) (eMo_column Lg d a b) M := by
  refine stp_q h (fun V S v o hV hC hN => ⟨_, c_column (by omega) o hV.1 hV.2.1 hV.2.2.1 hC, fun M' hM h7 _ _ => m_column hd hV.1 hV.2.1 hM⟩) (fun v o h1 h0 h6 => ⟨-1, T_le (eBr_column_E (by omega) o) ?_, T_le (eMo_column_E (by omega)) ?_⟩)
  · rw [if_pos h1, if_pos (bz_b0.mpr (by rw [h0.1]; omega))]; exact T_some rfl
  · rw [if_pos (bz_b0.mpr (fun x => x.1 h6.1))]; exact T_some rfl
theorem stp_cell (hd : 2 < d) {a b c : Int} (h : Sim M) : stp (eBr_cell Lg d a b c) (eMo_cell Lg d a b c) M := by
  refine stp_q h (fun V S v o hV hC hN => ⟨_, c_cell (by omega) o hV.1 hC, fun M' hM h7 _ _ => m_cell hd hV.1 hM⟩) (fun v o h1 h0 h6 => ⟨-1, T_le (eBr_cell_E (by omega) o) ?_, T_le (eMo_cell_E (by omega)) ?_⟩)
  · rw [if_pos h1, if_pos (bz_b0.mpr (by rw [h0.1]; omega))]; exact T_some rfl
  · rw [if_pos (bz_b0.mpr (fun x => x.1.1 h6.1))]; exact T_some rfl
theorem stp_eats (hd : 5 < d) {a b : Int} (h : Sim M) : stp (eBr_eats Lg d a b) (eMo_eats Lg d a b) M := by
  refine stp_q h (fun V S v o hV hC hN => ⟨_, c_eats (by omega) o hV.1 hV.2.1 hV.2.2.1 hC, fun M' hM h7 _ _ => m_eats hd hV.1 hV.2.1 hM⟩) (fun v o h1 h0 h6 => ⟨-1000000000000000, T_le (eBr_eats_E (by omega) o) ?_, T_le (eMo_eats_E (by omega)) ?_⟩)
  · rw [if_pos h1, if_pos (bz_b0.mpr (by rw [h0.1]; omega))]; exact T_some rfl
  · rw [if_pos (bz_b0.mpr (fun x => x.1.1 h6.1))]; exact T_some rfl
theorem stp_lord (hd : 7 < d) {a b : Int} (h : Sim M) : stp (eBr_lord Lg d a b) (eMo_lord Lg d a b) M := by
  refine stp_q h (fun V S v o hV hC hN => ⟨_, c_lord (by omega) o hV.1 hV.2.1 hV.2.2.1 hC, fun M' hM h7 _ _ => m_lord hd hV.1 hV.2.1 hM⟩) (fun v o h1 h0 h6 => ⟨-1, T_le (eBr_lord_E (by omega) o) ?_, T_le (eMo_lord_E (by omega)) ?_⟩)
  · rw [if_pos h1, if_pos (bz_b0.mpr (by rw [h0.2.2]; omega))]; exact T_some rfl
  · rw [h6.2, w32_id (z := 0 - 1) (by decide) (by decide), if_pos (bz_b0.mpr (by omega))]; exact T_some rfl
end SH

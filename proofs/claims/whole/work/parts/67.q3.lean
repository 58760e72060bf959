/-! QUERIES: column, cell, eats, lord -/
def qColumn (V : bz_M) (S : Nat → Int) (c w : Int) : Int := if 0 ≤ c ∧ c < vC V then (if w = 0 then sRow S c else if w = 1 then sTurn V S c else if w = 2 then sBend V S c else if w = 3 then sPay V S c else -1) else -1
def qCell (V : bz_M) (S : Nat → Int) (c r w : Int) : Int := if (0 ≤ c ∧ c < vC V) ∧ 0 ≤ r ∧ r < vR V then (if w = 0 then vSo V (8 * c + r) else if w = 1 then sWi S (8 * c + r) else if w = 2 then sEv S (8 * c + r) else -1) else -1
def qEats (V : bz_M) (S : Nat → Int) (c r : Int) : Int := if (0 ≤ c ∧ c < vC V) ∧ 0 ≤ r ∧ r < vR V then sEats V S c r else -1000000000000000
def qLord (V : bz_M) (S : Nat → Int) (l w : Int) : Int := if 0 ≤ l ∧ l < vL V then (if w = 0 then vFr V l else if w = 1 then vTo V l else if w = 2 then vPa V l else if w = 3 then vJo V l else if w = 4 then sPu S l else if w = 5 then sOf S l else if w = 6 then sBends V S (vFr V l) (vTo V l) else -1) else -1
section Q3
variable {Lg d v : Nat} {V M M' : bz_M} {S : Nat → Int}
theorem c_column (hd : 3 < d) (hv : bz_oV v) (hV : vOK V) (hS : sOK V S) (h9 : S 0 ≤ 999) (hM : cR V S 131 148 v M) {c w : Int} : w_T (eBr_column Lg d c w M) (fun p => p.1 = qColumn V S c w ∧ qC M p.2) := by
  have hC := hV.2.1
  refine T_le (eBr_column_E (by omega) hv) ?_
  simp only [bz_b0]
  rw [if_pos hM.1, hM.2.1.1.1]
  unfold qColumn
  by_cases h1 : 0 ≤ c ∧ c < vC V
  · rw [if_neg (fun h => h h1), if_pos h1]
    by_cases w0 : w = 0
    · rw [if_pos w0, if_pos w0, if_pos (by omega)]
      exact T_some ⟨hM.2.2.2.1 c h1.1 (by omega), qC_refl _⟩
    · rw [if_neg w0, if_neg w0]
      by_cases w1 : w = 1
      · rw [if_pos w1, if_pos w1]
        refine T_run (ri_turnOf (by omega) hr131 hv hV hS hM h1.1 h1.2) ?_
        exact T_some ⟨rfl, qC_refl _⟩
      · rw [if_neg w1, if_neg w1]
        by_cases w2 : w = 2
        · rw [if_pos w2, if_pos w2]
          refine T_seq (ri_bend (by omega) hr131 hv hV hS h9 hM h1.1 h1.2) ?_
          rintro ⟨p1, p2⟩ ⟨a1, a2⟩
          dsimp only at a1 a2 ⊢
          rw [a1]
          have hb := (sBendBy_is hV hS h1.1 h1.2 (sBe_bd hS h1.1 h1.2) (hS.2.2.1 c h1.1 h1.2) (sBh_bd hS h1.1 h1.2)).2
          have hb' : sBend V S c = 0 ∨ sBend V S c = 1 := hb
          rcases hb' with g | g
          · rw [if_pos g]; exact T_some ⟨g.symm, qC_cF a2⟩
          · rw [if_neg (by rw [g]; decide)]; exact T_some ⟨g.symm, qC_cF a2⟩
        · rw [if_neg w2, if_neg w2]
          by_cases w3 : w = 3
          · rw [if_pos w3, if_pos w3]
            refine T_run (ri_payOf (by omega) hr131 hv hV hM) ?_
            exact T_some ⟨rfl, qC_refl _⟩
          · rw [if_neg w3, if_neg w3]; exact T_some ⟨rfl, qC_refl _⟩
  · rw [if_pos h1, if_neg h1]; exact T_some ⟨rfl, qC_refl _⟩
theorem m_column (hd : 6 < d) (hV : vOK V) (hS : sOK V S) (hM : mR V S M) {c w : Int} : w_T (eMo_column Lg d c w M) (fun p => p.1 = qColumn V S c w ∧ qM M p.2) := by
  have hC := hV.2.1
  have e6 : M 319 60 = 1 := hM.1.1.2.2.2.2.trans hV.1
  refine T_le (eMo_column_E (by omega)) ?_
  simp only [bz_b0]
  rw [hM.1.1.1, e6, w32_id (z := vC V - 1) (by omega) (by omega)]
  unfold qColumn
  by_cases h1 : 0 ≤ c ∧ c < vC V
  · rw [if_neg (fun h => h (by omega)), if_pos h1]
    by_cases w0 : w = 0
    · rw [if_pos w0, if_pos w0, w32_id (z := 2 + c) (by omega) (by omega), if_pos (by omega)]
      exact T_some ⟨mr_row hM h1.1 (by omega), qM_refl _⟩
    · rw [if_neg w0, if_neg w0]
      by_cases w1 : w = 1
      · rw [if_pos w1, if_pos w1]
        refine T_run (mo_turn (by omega) hV hS hM h1.1 h1.2) ?_
        exact T_some ⟨rfl, qM_refl _⟩
      · rw [if_neg w1, if_neg w1]
        by_cases w2 : w = 2
        · rw [if_pos w2, if_pos w2]
          refine T_seq (mo_bend (by omega) hV hS hM h1.1 h1.2) ?_
          rintro ⟨p1, p2⟩ ⟨a1, a2⟩
          dsimp only at a1 a2 ⊢
          rw [a1]
          have hb := (sBendBy_is hV hS h1.1 h1.2 (sBe_bd hS h1.1 h1.2) (hS.2.2.1 c h1.1 h1.2) (sBh_bd hS h1.1 h1.2)).2
          have hb' : sBend V S c = 0 ∨ sBend V S c = 1 := hb
          rcases hb' with g | g
          · rw [if_pos g]; exact T_some ⟨g.symm, qM_fz a2⟩
          · rw [if_neg (by rw [g]; decide)]; exact T_some ⟨g.symm, qM_fz a2⟩
        · rw [if_neg w2, if_neg w2]
          by_cases w3 : w = 3
          · rw [if_pos w3, if_pos w3]
            refine T_run (mo_pay (by omega) hV hM) ?_
            exact T_some ⟨rfl, qM_refl _⟩
          · rw [if_neg w3, if_neg w3]; exact T_some ⟨rfl, qM_refl _⟩
  · rw [if_pos (by omega), if_neg h1]; exact T_some ⟨rfl, qM_refl _⟩
theorem c_cell (hd : 1 < d) (hv : bz_oV v) (hV : vOK V) (hM : cR V S 131 148 v M) {c r w : Int} : w_T (eBr_cell Lg d c r w M) (fun p => p.1 = qCell V S c r w ∧ qC M p.2) := by
  have hC := hV.2.1
  have hR := hV.2.2.1
  refine T_le (eBr_cell_E (by omega) hv) ?_
  simp only [bz_b0]
  rw [if_pos hM.1, hM.2.1.1.1, hM.2.1.1.2.1]
  unfold qCell
  by_cases h1 : (0 ≤ c ∧ c < vC V) ∧ 0 ≤ r ∧ r < vR V
  · have ix : (0 : Int) ≤ 8 * c + r ∧ 8 * c + r < 80 := by omega
    have wc : bz_w32 (bz_w32 (c * 8) + r) = 8 * c + r := by rw [w32_id (z := c * 8) (by omega) (by omega), w32_id (by omega) (by omega)]; omega
    rw [if_neg (fun h => h h1), if_pos h1, wc, if_pos ix]
    by_cases w0 : w = 0
    · rw [if_pos w0, if_pos w0]; exact T_some ⟨hM.2.1.2.1 _ ix.1 ix.2, qC_refl _⟩
    · rw [if_neg w0, if_neg w0]
      by_cases w1 : w = 1
      · rw [if_pos w1, if_pos w1, if_pos ix]; exact T_some ⟨(hM.2.2.2.2.1 _ ix.1 ix.2).1, qC_refl _⟩
      · rw [if_neg w1, if_neg w1]
        by_cases w2 : w = 2
        · rw [if_pos w2, if_pos w2, if_pos ix]; exact T_some ⟨(hM.2.2.2.2.1 _ ix.1 ix.2).2, qC_refl _⟩
        · rw [if_neg w2, if_neg w2]; exact T_some ⟨rfl, qC_refl _⟩
  · rw [if_pos h1, if_neg h1]; exact T_some ⟨rfl, qC_refl _⟩
theorem m_cell (hd : 2 < d) (hV : vOK V) (hM : mR V S M) {c r w : Int} : w_T (eMo_cell Lg d c r w M) (fun p => p.1 = qCell V S c r w ∧ qM M p.2) := by
  have hC := hV.2.1
  have hR := hV.2.2.1
  have e6 : M 319 60 = 1 := hM.1.1.2.2.2.2.trans hV.1
  refine T_le (eMo_cell_E (by omega)) ?_
  simp only [bz_b0]
  rw [hM.1.1.1, hM.1.1.2.1, e6, w32_id (z := vC V - 1) (by omega) (by omega), w32_id (z := vR V - 1) (by omega) (by omega)]
  unfold qCell
  by_cases h1 : (0 ≤ c ∧ c < vC V) ∧ 0 ≤ r ∧ r < vR V
  · have ix : (0 : Int) ≤ 8 * c + r ∧ 8 * c + r < 80 := by omega
    have i1 : (0 : Int) ≤ 80 + (8 * c + r) ∧ 80 + (8 * c + r) < 160 := by omega
    have i2 : (0 : Int) ≤ 12 + (8 * c + r) ∧ 12 + (8 * c + r) < 303 := by omega
    have i3 : (0 : Int) ≤ 92 + (8 * c + r) ∧ 92 + (8 * c + r) < 303 := by omega
    have g4 : M 358 (Int.toNat (80 + (8 * c + r))) = vSo V (8 * c + r) := hM.1.2.1 _ (by omega)
    have g5 : M 364 (Int.toNat (12 + (8 * c + r))) = sWi S (8 * c + r) := hM.2 _ (by omega)
    have g7 : M 364 (Int.toNat (92 + (8 * c + r))) = sEv S (8 * c + r) := hM.2 _ (by omega)
    have hin : ¬ ¬ ((¬ (1 : Int) = 0 ∧ 0 ≤ c ∧ c ≤ vC V - 1) ∧ 0 ≤ r ∧ r ≤ vR V - 1) := fun h => h (by omega)
    have wc : bz_w32 (bz_w32 (8 * c) + r) = 8 * c + r := by rw [w32_id (z := 8 * c) (by omega) (by omega), w32_id (by omega) (by omega)]
    rw [if_neg hin, if_pos h1, wc, w32_id (z := 80 + (8 * c + r)) (by omega) (by omega), w32_id (z := 12 + (8 * c + r)) (by omega) (by omega), w32_id (z := 92 + (8 * c + r)) (by omega) (by omega), if_pos i1, if_pos i2, if_pos i3, g4, g5, g7]
    by_cases w0 : w = 0
    · rw [if_pos w0, if_pos w0]; exact T_some ⟨rfl, qM_refl _⟩
    · rw [if_neg w0, if_neg w0]
      by_cases w1 : w = 1
      · rw [if_pos w1, if_pos w1]; exact T_some ⟨rfl, qM_refl _⟩
      · rw [if_neg w1, if_neg w1]
        by_cases w2 : w = 2
        · rw [if_pos w2, if_pos w2]; exact T_some ⟨rfl, qM_refl _⟩
        · rw [if_neg w2, if_neg w2]; exact T_some ⟨rfl, qM_refl _⟩
  · rw [if_pos (by omega), if_neg h1]; exact T_some ⟨rfl, qM_refl _⟩
theorem c_eats (hd : 2 < d) (hv : bz_oV v) (hV : vOK V) (hS : sOK V S) (h9 : S 0 ≤ 999) (hM : cR V S 131 148 v M) {c r : Int} : w_T (eBr_eats Lg d c r M) (fun p => p.1 = qEats V S c r ∧ qC M p.2) := by
  refine T_le (eBr_eats_E (by omega) hv) ?_
  simp only [bz_b0]
  rw [if_pos hM.1, hM.2.1.1.1, hM.2.1.1.2.1]
  unfold qEats
  by_cases h1 : (0 ≤ c ∧ c < vC V) ∧ 0 ≤ r ∧ r < vR V
  · rw [if_neg (fun h => h h1), if_pos h1]
    refine T_seq (ri_eats (by omega) hr131 hv hV hS h9 hM h1.1.1 h1.1.2 h1.2.1 h1.2.2) ?_
    rintro ⟨p1, p2⟩ ⟨a1, a2⟩
    exact T_some ⟨a1, qC_cF a2⟩
  · rw [if_pos h1, if_neg h1]; exact T_some ⟨rfl, qC_refl _⟩
theorem m_eats (hd : 5 < d) (hV : vOK V) (hS : sOK V S) (hM : mR V S M) {c r : Int} : w_T (eMo_eats Lg d c r M) (fun p => p.1 = qEats V S c r ∧ qM M p.2) := by
  have hC := hV.2.1
  have hR := hV.2.2.1
  have e6 : M 319 60 = 1 := hM.1.1.2.2.2.2.trans hV.1
  refine T_le (eMo_eats_E (by omega)) ?_
  simp only [bz_b0]
  rw [hM.1.1.1, hM.1.1.2.1, e6, w32_id (z := vC V - 1) (by omega) (by omega), w32_id (z := vR V - 1) (by omega) (by omega)]
  unfold qEats
  by_cases h1 : (0 ≤ c ∧ c < vC V) ∧ 0 ≤ r ∧ r < vR V
  · have hin : ¬ ¬ ((¬ (1 : Int) = 0 ∧ 0 ≤ c ∧ c ≤ vC V - 1) ∧ 0 ≤ r ∧ r ≤ vR V - 1) := fun h => h (by omega)
    rw [if_neg hin, if_pos h1]
    refine T_seq (mo_eats (by omega) hV hS hM h1.1.1 h1.1.2 h1.2.1 h1.2.2) ?_
    rintro ⟨p1, p2⟩ ⟨a1, a2⟩
    exact T_some ⟨a1, qM_fz a2⟩
  · rw [if_pos (by omega), if_neg h1]; exact T_some ⟨rfl, qM_refl _⟩
theorem c_lord (hd : 4 < d) (hv : bz_oV v) (hV : vOK V) (hS : sOK V S) (h9 : S 0 ≤ 999) (hM : cR V S 131 148 v M) {l w : Int} : w_T (eBr_lord Lg d l w M) (fun p => p.1 = qLord V S l w ∧ qC M p.2) := by
  have hL := hV.2.2.2.2.1
  refine T_le (eBr_lord_E (by omega) hv) ?_
  simp only [bz_b0]
  rw [if_pos hM.1, hM.2.1.1.2.2.2.1]
  unfold qLord
  by_cases h1 : 0 ≤ l ∧ l < vL V
  · have i5 : (0 : Int) ≤ l ∧ l < 5 := by omega
    have e := hM.2.1.2.2.1 l h1.1 h1.2
    have e2 := hM.2.2.2.2.2 l i5.1 i5.2
    have e3 : M 153 l.toNat = sPu S l := e2.2
    have e4 : M 152 l.toNat = sOf S l := e2.1
    have hF := (hV.2.2.2.2.2.2.1 l h1.1 h1.2).1
    rw [if_neg (fun h => h h1), if_pos h1]
    simp only [if_pos i5, e.1, e.2.1, e.2.2.1, e.2.2.2, e3, e4]
    by_cases w0 : w = 0
    · rw [if_pos w0, if_pos w0]; exact T_some ⟨rfl, qC_refl _⟩
    · rw [if_neg w0, if_neg w0]
      by_cases w1 : w = 1
      · rw [if_pos w1, if_pos w1]; exact T_some ⟨rfl, qC_refl _⟩
      · rw [if_neg w1, if_neg w1]
        by_cases w2 : w = 2
        · rw [if_pos w2, if_pos w2]; exact T_some ⟨rfl, qC_refl _⟩
        · rw [if_neg w2, if_neg w2]
          by_cases w3 : w = 3
          · rw [if_pos w3, if_pos w3]; exact T_some ⟨rfl, qC_refl _⟩
          · rw [if_neg w3, if_neg w3]
            by_cases w4 : w = 4
            · rw [if_pos w4, if_pos w4]; exact T_some ⟨rfl, qC_refl _⟩
            · rw [if_neg w4, if_neg w4]
              by_cases w5 : w = 5
              · rw [if_pos w5, if_pos w5]; exact T_some ⟨rfl, qC_refl _⟩
              · rw [if_neg w5, if_neg w5]
                by_cases w6 : w = 6
                · rw [if_pos w6, if_pos w6]
                  refine T_seq (ri_bends (by omega) hr131 hv hV hS h9 hM hF.1 (by omega) hF.2.2) ?_
                  rintro ⟨p1, p2⟩ ⟨a1, a2⟩
                  exact T_some ⟨a1, qC_cF a2⟩
                · rw [if_neg w6, if_neg w6]; exact T_some ⟨rfl, qC_refl _⟩
  · rw [if_pos h1, if_neg h1]; exact T_some ⟨rfl, qC_refl _⟩
theorem m_lord (hd : 7 < d) (hV : vOK V) (hS : sOK V S) (hM : mR V S M) {l w : Int} : w_T (eMo_lord Lg d l w M) (fun p => p.1 = qLord V S l w ∧ qM M p.2) := by
  have hL := hV.2.2.2.2.1
  refine T_le (eMo_lord_E (by omega)) ?_
  simp only [bz_b0]
  rw [hM.1.1.2.2.2.1, w32_id (z := vL V - 1) (by omega) (by omega)]
  unfold qLord
  by_cases h1 : 0 ≤ l ∧ l < vL V
  · have i5 : (0 : Int) ≤ l ∧ l < 5 := by omega
    have e := mr_lord hM h1.1
    have e2 := mr_of hM i5.1 i5.2
    have ho := (hS.2.2.2.2 l h1.1 h1.2).1
    have hin : ¬ ¬ (0 ≤ l ∧ l ≤ vL V - 1) := fun h => h (by omega)
    rw [if_neg hin, if_pos h1]
    by_cases hw : 0 ≤ w ∧ w ≤ 3
    · have wc : bz_w32 (bz_w32 (25 + bz_w32 (5 * l)) + w) = 25 + 5 * l + w := by rw [w32_id (z := 5 * l) (by omega) (by omega), w32_id (z := 25 + 5 * l) (by omega) (by omega), w32_id (by omega) (by omega)]
      have ix : (0 : Int) ≤ 25 + 5 * l + w ∧ 25 + 5 * l + w < 50 := by omega
      rw [if_neg (fun h => h hw), wc, if_pos ix]
      have hw4 : w = 0 ∨ w = 1 ∨ w = 2 ∨ w = 3 := by omega
      refine T_some ⟨?_, qM_refl _⟩
      rcases hw4 with rfl | rfl | rfl | rfl
      · rw [if_pos rfl, show (25 + 5 * l + 0 : Int) = 25 + 5 * l by omega]; exact e.1
      · rw [if_neg (by decide), if_pos rfl, show (25 + 5 * l + 1 : Int) = 26 + 5 * l by omega]; exact e.2.1
      · rw [if_neg (by decide), if_neg (by decide), if_pos rfl, show (25 + 5 * l + 2 : Int) = 27 + 5 * l by omega]; exact e.2.2.1
      · rw [if_neg (by decide), if_neg (by decide), if_neg (by decide), if_pos rfl, show (25 + 5 * l + 3 : Int) = 28 + 5 * l by omega]; exact e.2.2.2
    · rw [if_pos hw, if_neg (show ¬ w = 0 by omega), if_neg (show ¬ w = 1 by omega), if_neg (show ¬ w = 2 by omega), if_neg (show ¬ w = 3 by omega)]
      simp only [if_pos i5, e2.1, e2.2]
      by_cases w4 : w = 4
      · rw [if_pos w4, if_pos w4]; exact T_some ⟨rfl, qM_refl _⟩
      · rw [if_neg w4, if_neg w4]
        by_cases w5 : w = 5
        · rw [if_pos w5, if_pos w5]
          rcases ho with g | g
          · rw [if_pos (by rw [g]; decide)]; exact T_some ⟨g.symm, qM_refl _⟩
          · rw [if_neg (fun h => h g)]; exact T_some ⟨g.symm, qM_refl _⟩
        · rw [if_neg w5, if_neg w5]
          by_cases w6 : w = 6
          · rw [if_pos w6, if_pos w6]
            refine T_seq (mo_bendsOf (by omega) hV hS hM h1.1 h1.2) ?_
            rintro ⟨p1, p2⟩ ⟨a1, a2⟩
            exact T_some ⟨a1, qM_fz a2⟩
          · rw [if_neg w6, if_neg w6]; exact T_some ⟨rfl, qM_refl _⟩
  · rw [if_pos (by omega), if_neg h1]; exact T_some ⟨rfl, qM_refl _⟩
end Q3

/-! QUERIES: barge, cuts -/
def sBarL (S : Nat → Int) : Nat → Int → Int → Int
  | 0, _, n => n
  | k + 1, c, n => sBarL S k (c + 1) (n + pAbs (sRow S c - sRow S (c - 1)))
def sBarge (V : bz_M) (S : Nat → Int) : Int := sBarL S (vC V - 1).toNat 1 (vC V)
def sHalf (V : bz_M) (S : Nat → Int) (c : Int) : Int := Int.tdiv (sBe S c + sBh V S c) 2
def sCut (V : bz_M) (S : Nat → Int) (c : Int) : Nat → Int := upS S (Int.toNat (2 + c)) (sHalf V S c)
def qCutL (V : bz_M) (S : Nat → Int) : Nat → Int → Int → Int → Int
  | 0, _, _, best => best
  | k + 1, c, least, best => if sBarge V (sCut V S c) < least then qCutL V S k (c + 1) (sBarge V (sCut V S c)) c else qCutL V S k (c + 1) least best
def qCuts (V : bz_M) (S : Nat → Int) : Int := qCutL V S (vC V - 2).toNat 1 (sBarge V S) (-1)
section Q2
variable {Lg d v r s : Nat} {V M M0 M' : bz_M} {S : Nat → Int}
theorem pAbs_bd {z : Int} (h1 : -7 ≤ z) (h2 : z ≤ 7) : 0 ≤ pAbs z ∧ pAbs z ≤ 7 := by unfold pAbs; split <;> omega
theorem ri_barL (hd : 0 < d) (hr : bz_oR r s) (hv : bz_oV v) (hV : vOK V) (hS : sOK V S) (hM : cR V S r s v M) : ∀ (k : Nat) (c n : Int), 1 ≤ c → c + k = vC V → 0 ≤ n → n + 7 * k ≤ 1000 → eRi_bargeTime_10 Lg d r n c M = some (sBarL S k c n, M)
  | 0, c, n, h0, h1, h2, h3 => by
    refine eRi_bargeTime_10_E hd hr hv _ ?_
    rw [if_pos hM.1, hM.2.1.1.1, if_neg (by omega)]; rfl
  | k + 1, c, n, h0, h1, h2, h3 => by
    have hC := hV.2.1
    have hR := hV.2.2.1
    have b1 := hS.2.2.1 c (by omega) (by omega)
    have b2 := hS.2.2.1 (c - 1) (by omega) (by omega)
    have b3 := pAbs_bd (z := sRow S c - sRow S (c - 1)) (by omega) (by omega)
    refine eRi_bargeTime_10_E hd hr hv _ ?_
    rw [if_pos hM.1, hM.2.1.1.1, if_pos (by omega), if_pos (by omega), w32_id (z := c - 1) (by omega) (by omega), if_pos (by omega), hM.2.2.2.1 c (by omega) (by omega), hM.2.2.2.1 (c - 1) (by omega) (by omega), w32_id (z := sRow S c - sRow S (c - 1)) (by omega) (by omega), bz_abs_p (by omega) (by omega), w32_id (z := c + 1) (by omega) (by omega), w32_id (by omega) (by omega)]
    exact ri_barL hd hr hv hV hS hM k (c + 1) _ (by omega) (by omega) (by omega) (by omega)
theorem ri_barge (hd : 0 < d) (hr : bz_oR r s) (hv : bz_oV v) (hV : vOK V) (hS : sOK V S) (hM : cR V S r s v M) : eRi_bargeTime Lg d r M = some (sBarge V S, M) := by
  have hC := hV.2.1
  refine eRi_bargeTime_E hr hv _ ?_
  rw [if_pos hM.1, hM.2.1.1.1]
  exact ri_barL hd hr hv hV hS hM (vC V - 1).toNat 1 (vC V) (by omega) (by omega) (by omega) (by omega)
theorem mo_barL (hd : 0 < d) (hV : vOK V) (hS : sOK V S) (hM : mR V S M) : ∀ (k : Nat) (c n : Int), 1 ≤ c → c + k = vC V → 0 ≤ n → n + 7 * k ≤ 1000 → eMo_barge_16 Lg d n c M = some (sBarL S k c n, M)
  | 0, c, n, h0, h1, h2, h3 => by
    refine eMo_barge_16_E hd _ ?_
    rw [hM.1.1.1, if_neg (by omega)]; rfl
  | k + 1, c, n, h0, h1, h2, h3 => by
    have hC := hV.2.1
    have hR := hV.2.2.1
    have b1 := hS.2.2.1 c (by omega) (by omega)
    have b2 := hS.2.2.1 (c - 1) (by omega) (by omega)
    have b3 := pAbs_bd (z := sRow S c - sRow S (c - 1)) (by omega) (by omega)
    refine eMo_barge_16_E hd _ ?_
    have e1 := mr_row hM (c := c) (by omega) (by omega)
    have e2 := mr_row hM (c := c - 1) (by omega) (by omega)
    have go := mo_barL hd hV hS hM k (c + 1) (n + pAbs (sRow S c - sRow S (c - 1))) (by omega) (by omega) (by omega) (by omega)
    rw [hM.1.1.1, if_pos (by omega), w32_id (z := c - 1) (by omega) (by omega), w32_id (z := 2 + c) (by omega) (by omega), w32_id (z := 2 + (c - 1)) (by omega) (by omega), if_pos (by omega), if_pos (by omega), e1, e2, w32_id (z := c + 1) (by omega) (by omega), w32_id (z := sRow S c - sRow S (c - 1)) (by omega) (by omega), w32_id (z := sRow S (c - 1) - sRow S c) (by omega) (by omega), w32_id (z := n + (sRow S c - sRow S (c - 1))) (by omega) (by omega), w32_id (z := n + (sRow S (c - 1) - sRow S c)) (by omega) (by omega)]
    unfold sBarL
    unfold pAbs at go ⊢
    by_cases hh : sRow S c < sRow S (c - 1)
    · rw [if_pos hh]
      rw [if_pos (by omega)] at go ⊢
      rw [show n + (sRow S (c - 1) - sRow S c) = n + -(sRow S c - sRow S (c - 1)) by omega]
      exact go
    · rw [if_neg hh]
      rw [if_neg (by omega)] at go ⊢
      exact go
theorem mo_barge (hd : 0 < d) (hV : vOK V) (hS : sOK V S) (hM : mR V S M) : eMo_barge Lg d M = some (sBarge V S, M) := by
  have hC := hV.2.1
  have e6 : M 319 60 = 1 := hM.1.1.2.2.2.2.trans hV.1
  refine eMo_barge_E hd _ ?_
  rw [e6, if_neg (by decide), hM.1.1.1]
  exact mo_barL hd hV hS hM (vC V - 1).toNat 1 (vC V) (by omega) (by omega) (by omega) (by omega)
theorem c_barge (hd : 1 < d) (hv : bz_oV v) (hV : vOK V) (hS : sOK V S) (hM : cR V S 131 148 v M) : w_T (eBr_barge Lg d M) (fun p => p.1 = sBarge V S ∧ qC M p.2) := by
  have hC := hV.2.1
  refine T_le (eBr_barge_E (by omega) hv) ?_
  simp only [bz_b0]
  rw [if_pos hM.1, hM.2.1.1.1, if_neg (by omega)]
  refine T_run (ri_barge (by omega) hr131 hv hV hS hM) ?_
  exact T_some ⟨rfl, qC_refl _⟩
theorem sHalf_bd (hV : vOK V) (hS : sOK V S) {c : Int} (h0 : 0 ≤ c) (h1 : c < vC V) : 0 ≤ sHalf V S c ∧ sHalf V S c < vR V := by
  have b2 := sBe_bd hS h0 h1
  have b3 := sBh_bd hS h0 h1
  unfold sHalf
  rw [Int.tdiv_eq_ediv_of_nonneg (by omega)]
  omega
theorem sRow_up {c c' x : Int} (h0 : 0 ≤ c) (h0' : 0 ≤ c') : sRow (upS S (Int.toNat (2 + c)) x) c' = if c' = c then x else sRow S c' := by
  unfold sRow upS
  by_cases e : c' = c
  · rw [if_pos e, if_pos (by rw [e])]
  · rw [if_neg e, if_neg (by omega)]
theorem sRowUp_ok (hV : vOK V) (hS : sOK V S) {c x : Int} (h0 : 0 ≤ c) (h1 : c < 10) (hx : 0 ≤ x ∧ x < vR V) : sOK V (upS S (Int.toNat (2 + c)) x) := by
  have hL := hV.2.2.2.2.1
  refine sOK_co hS (by omega) (fun c' h2 h3 => ?_) (fun k hk => upS_ne (by omega))
  rw [sRow_up h0 h2]
  split
  · exact hx
  · exact hS.2.2.1 c' h2 h3
/-- the class's state with another row in a column -/
theorem cR_row (hr : bz_oR r s) (hv : bz_oV v) (hM : cR V S r s v M) {c x : Int} (h0 : 0 ≤ c) (h1 : c < 10) : cR V (upS S (Int.toNat (2 + c)) x) r s v (bz_up M (s + 1) c.toNat x) := by
  have hrs := oR_c hr
  have hvv := oV_c hv
  have k : ∀ q, q ≠ s + 1 → bz_up M (s + 1) c.toNat x q = M q := fun q h => bz_up_fn h
  refine ⟨(congrFun (k r (by omega)) 0).trans hM.1, cV_co hM.2.1 (k _ (by omega)) (k _ (by omega)) (k _ (by omega)) (k _ (by omega)) (k _ (by omega)) (k _ (by omega)) (k _ (by omega)) (k _ (by omega)) (k _ (by omega)) (k _ (by omega)), ?_⟩
  refine cS_row hM.2.2 h0 h1 (fun c' h2 h3 => sRow_up h0 h2) (fun k hk => upS_ne (by omega)) ?_ (fun q hq => k q (by omega))
  funext j
  unfold bz_up
  rw [if_pos rfl]
theorem ri_half (hd : 0 < d) (hr : bz_oR r s) (hv : bz_oV v) (hV : vOK V) (hS : sOK V S) (hM : cR V S r s v M) {c : Int} (h0 : 0 < c) (h1 : c < vC V - 1) : eRi_halfWay Lg d r c M = some (sHalf V S c, M) := by
  have hC := hV.2.1
  have hR := hV.2.2.1
  have b1 := hS.2.2.1 (c - 1) (by omega) (by omega)
  have b2 := hS.2.2.1 (c + 1) (by omega) (by omega)
  have b3 := sHalf_bd hV hS (c := c) (by omega) (by omega)
  have e1 : sBe S c = sRow S (c - 1) := by unfold sBe; rw [if_neg (by omega)]
  have e2 : sBh V S c = sRow S (c + 1) := by unfold sBh; rw [if_neg (by omega)]
  refine eRi_halfWay_E hd hr hv _ ?_
  simp only [bz_b0]
  rw [if_pos hM.1, hM.2.1.1.1, w32_id (z := vC V - 1) (by omega) (by omega), if_neg (by omega), w32_id (z := c - 1) (by omega) (by omega), w32_id (z := c + 1) (by omega) (by omega), if_pos (by omega), if_pos (by omega), hM.2.2.2.1 _ (by omega) (by omega), hM.2.2.2.1 _ (by omega) (by omega), w32_id (z := sRow S (c - 1) + sRow S (c + 1)) (by omega) (by omega)]
  unfold sHalf at b3 ⊢
  rw [e1, e2] at b3 ⊢
  rw [w32_id (by omega) (by omega)]
theorem c_cutL (hd : 1 < d) (hv : bz_oV v) (hV : vOK V) (hS : sOK V S) : ∀ (k : Nat) (c least best : Int) (M : bz_M), cR V S 131 148 v M → 1 ≤ c → c + k = vC V - 1 → w_T (eFc_bestCut_12 Lg d best least c M) (fun p => p.1 = qCutL V S k c least best ∧ qC M p.2)
  | 0, c, least, best, M, hM, h0, h1 => by
    have hC := hV.2.1
    refine T_le (eFc_bestCut_12_E (by omega) hv) ?_
    rw [if_pos hM.1, hM.2.1.1.1, w32_id (z := vC V - 1) (by omega) (by omega), if_neg (by omega)]
    exact T_some ⟨rfl, qC_refl _⟩
  | k + 1, c, least, best, M, hM, h0, h1 => by
    have hC := hV.2.1
    refine T_le (eFc_bestCut_12_E (by omega) hv) ?_
    rw [if_pos hM.1, hM.2.1.1.1, w32_id (z := vC V - 1) (by omega) (by omega), if_pos (by omega), w32_id (z := c + 1) (by omega) (by omega)]
    refine T_seq (ri_follow (by omega) hv hM) ?_
    rintro M1 ⟨a1, _, _, a4⟩
    have q1 : qC M M1 := qC_of (fun q hq => a4 q (by omega))
    have hM1 := cR_qC hv hM q1
    refine T_run (ri_half (by omega) hr131 hv hV hS hM1 (by omega) (by omega)) ?_
    rw [if_pos (by omega)]
    have hc := cR_row hr285 hv a1 (c := c) (x := sHalf V S c) (by omega) (by omega)
    have hk := sRowUp_ok hV hS (c := c) (x := sHalf V S c) (by omega) (by omega) (sHalf_bd hV hS (by omega) (by omega))
    refine T_run (ri_barge (by omega) hr285 hv hV hk hc) ?_
    have q2 : qC M1 (bz_up M1 287 c.toNat (sHalf V S c)) := qC_of (fun q hq => bz_up_fn (by omega))
    have q12 := qC_trans q1 q2
    have hM2 := cR_qC hv hM q12
    dsimp only
    unfold qCutL
    by_cases hb : sBarge V (sCut V S c) < least
    · rw [if_pos hb]
      have hb' : sBarge V (upS S (2 + c).toNat (sHalf V S c)) < least := hb
      rw [if_pos hb']
      exact T_mono (c_cutL hd hv hV hS k (c + 1) _ c _ hM2 (by omega) (by omega)) (fun p hp => ⟨hp.1, qC_trans q12 hp.2⟩)
    · rw [if_neg hb]
      have hb' : ¬ sBarge V (upS S (2 + c).toNat (sHalf V S c)) < least := hb
      rw [if_neg hb']
      exact T_mono (c_cutL hd hv hV hS k (c + 1) _ best _ hM2 (by omega) (by omega)) (fun p hp => ⟨hp.1, qC_trans q12 hp.2⟩)
theorem c_cuts (hd : 2 < d) (hv : bz_oV v) (hV : vOK V) (hS : sOK V S) (hM : cR V S 131 148 v M) : w_T (eBr_cuts Lg d M) (fun p => p.1 = qCuts V S ∧ qC M p.2) := by
  have hC := hV.2.1
  refine T_le (eBr_cuts_E (by omega) hv) ?_
  simp only [bz_b0]
  rw [if_pos hM.1, hM.2.1.1.1, if_neg (by omega)]
  refine T_seq (T_le (eFc_bestCut_E (by omega)) (Q := fun p => p.1 = qCuts V S ∧ qC M p.2) ?_) (fun p hp => T_some hp)
  refine T_run (ri_barge (by omega) hr131 hv hV hS hM) ?_
  exact c_cutL (by omega) hv hV hS (vC V - 2).toNat 1 _ _ M hM (by omega) (by omega)
theorem mo_half (hd : 1 < d) (hV : vOK V) (hS : sOK V S) (hM : mR V S M) {c : Int} (h0 : 0 ≤ c) (h1 : c < vC V) : eMo_halfOf Lg d c M = some (sHalf V S c, M) := by
  have hC := hV.2.1
  have hR := hV.2.2.1
  have b2 := sBe_bd hS h0 h1
  have b3 := sBh_bd hS h0 h1
  have b4 := sHalf_bd hV hS h0 h1
  refine eMo_halfOf_E hd _ ?_
  rw [if_pos (by omega), mr_be hM h0 (by omega), mr_bh hV hM h0 h1, w32_id (z := sBe S c + sBh V S c) (by omega) (by omega)]
  unfold sHalf at b4 ⊢
  rw [w32_id (by omega) (by omega)]
theorem m_cutL (hd : 2 < d) (hV : vOK V) (hS : sOK V S) : ∀ (k : Nat) (c least best : Int) (M : bz_M), mR V S M → 1 ≤ c → c + k = vC V - 1 → w_T (eMo_cuts_18 Lg d least best c M) (fun p => p.1 = qCutL V S k c least best ∧ qM M p.2)
  | 0, c, least, best, M, hM, h0, h1 => by
    have hC := hV.2.1
    refine T_le (eMo_cuts_18_E (by omega)) ?_
    rw [hM.1.1.1, w32_id (z := vC V - 1) (by omega) (by omega), if_neg (by omega)]
    exact T_some ⟨rfl, qM_refl _⟩
  | k + 1, c, least, best, M, hM, h0, h1 => by
    have hC := hV.2.1
    refine T_le (eMo_cuts_18_E (by omega)) ?_
    rw [hM.1.1.1, w32_id (z := vC V - 1) (by omega) (by omega), if_pos (by omega), w32_id (z := 2 + c) (by omega) (by omega), if_pos (by omega), w32_id (z := c + 1) (by omega) (by omega)]
    refine T_run (mo_half (by omega) hV hS hM (by omega) (by omega)) ?_
    dsimp only
    have hk := sRowUp_ok hV hS (c := c) (x := sHalf V S c) (by omega) (by omega) (sHalf_bd hV hS (by omega) (by omega))
    have hM1 : mR V (upS S (Int.toNat (2 + c)) (sHalf V S c)) (bz_up M 364 (Int.toNat (2 + c)) (sHalf V S c)) := by
      refine ⟨mV_fm hM.1 (mFm_up (by omega)), fun j hj => ?_⟩
      rw [bz_up_rk]
      unfold upS
      by_cases hk2 : j = Int.toNat (2 + c)
      · rw [if_pos ⟨rfl, hk2⟩, if_pos hk2]
      · rw [if_neg (fun h => hk2 h.2), if_neg hk2]
        exact hM.2 j hj
    refine T_run (mo_barge (by omega) hV hk hM1) ?_
    dsimp only
    have e : bz_up (bz_up M 364 (Int.toNat (2 + c)) (sHalf V S c)) 364 (Int.toNat (2 + c)) (M 364 (Int.toNat (2 + c))) = M := by
      funext q j
      rw [bz_up_rk, bz_up_rk]
      by_cases hh : q = 364 ∧ j = Int.toNat (2 + c)
      · rw [if_pos hh, hh.1, hh.2]
      · rw [if_neg hh, if_neg hh]
    rw [e]
    unfold qCutL
    by_cases hb : sBarge V (sCut V S c) < least
    · rw [if_pos hb]
      have hb' : sBarge V (upS S (2 + c).toNat (sHalf V S c)) < least := hb
      rw [if_pos hb']
      exact m_cutL hd hV hS k (c + 1) _ c M hM (by omega) (by omega)
    · rw [if_neg hb]
      have hb' : ¬ sBarge V (upS S (2 + c).toNat (sHalf V S c)) < least := hb
      rw [if_neg hb']
      exact m_cutL hd hV hS k (c + 1) _ best M hM (by omega) (by omega)
theorem m_cuts (hd : 3 < d) (hV : vOK V) (hS : sOK V S) (hM : mR V S M) : w_T (eMo_cuts Lg d M) (fun p => p.1 = qCuts V S ∧ qM M p.2) := by
  have hC := hV.2.1
  have e6 : M 319 60 = 1 := hM.1.1.2.2.2.2.trans hV.1
  refine T_le (eMo_cuts_E (by omega)) ?_
  rw [e6, if_neg (by decide)]
  refine T_run (mo_barge (by omega) hV hS hM) ?_
  exact m_cutL (by omega) hV hS (vC V - 2).toNat 1 _ _ M hM (by omega) (by omega)
end Q2

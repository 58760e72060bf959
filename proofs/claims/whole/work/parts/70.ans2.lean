/-! A QUESTION'S VALUE FOR A LORD: the reference -/
section AM
variable {Lg d : Nat} {V M M' : bz_M} {S : Nat → Int}
theorem mo_partQ (hd : 0 < d) (hV : vOK V) (hS : sOK V S) (hM : mR V S M) {l p : Int} (h0 : 0 ≤ l) (h1 : l < vL V) (h6 : M 366 l.toNat = sBends V S (vFr V l) (vTo V l)) (hp0 : 0 ≤ p) (hp1 : p ≤ 17) (ha : aQ (40 + p)) : eMo_qPartOf Lg d p l M = some (fQ V S l p, M) := by
  have hL := hV.2.2.2.2.1
  have i5 : (0 : Int) ≤ l ∧ l < 5 := by omega
  have j1 : (0 : Int) ≤ 25 + 5 * l ∧ 25 + 5 * l < 50 := by omega
  have j2 : (0 : Int) ≤ 26 + 5 * l ∧ 26 + 5 * l < 50 := by omega
  have j3 : (0 : Int) ≤ 27 + 5 * l ∧ 27 + 5 * l < 50 := by omega
  have j4 : (0 : Int) ≤ 28 + 5 * l ∧ 28 + 5 * l < 50 := by omega
  have e := mr_lord hM h0
  have e2 := mr_of hM i5.1 i5.2
  have e0 : M 364 0 = S 0 := hM.2 0 (by omega)
  have ho := (hS.2.2.2.2 l h0 h1).1
  unfold aQ at ha
  have hp : p = 3 ∨ p = 10 ∨ p = 11 ∨ p = 12 ∨ p = 13 ∨ p = 14 ∨ p = 15 ∨ p = 16 ∨ p = 17 := by omega
  have w5 : bz_w32 (5 * l) = 5 * l := w32_id (by omega) (by omega)
  have w1 : bz_w32 (25 + 5 * l) = 25 + 5 * l := w32_id (by omega) (by omega)
  have w2 : bz_w32 (26 + 5 * l) = 26 + 5 * l := w32_id (by omega) (by omega)
  have w3 : bz_w32 (27 + 5 * l) = 27 + 5 * l := w32_id (by omega) (by omega)
  have w4 : bz_w32 (28 + 5 * l) = 28 + 5 * l := w32_id (by omega) (by omega)
  refine eMo_qPartOf_E hd _ ?_
  simp only [w5, w1, w2, w3, w4, if_pos j1, if_pos j2, if_pos j3, if_pos j4, if_pos i5, e.1, e.2.1, e.2.2.1, e.2.2.2, e2.1, e2.2, e0, h6, bz_b0]
  unfold fQ
  rcases hp with rfl | rfl | rfl | rfl | rfl | rfl | rfl | rfl | rfl
  · simp
  · simp
  · simp
  · simp
  · simp
  · simp
  · simp
  · rcases ho with g | g <;> simp [g]
  · simp
theorem mo_ofQ (hd : 3 < d) (hV : vOK V) (hS : sOK V S) (hM : mR V S M) {q x i : Int} (hq : q = 0 ∨ q = 1) (hx0 : -1000000 ≤ x) (hx1 : x ≤ 1000000) : eMo_qOf Lg d q x i M = some (gQ V S q x, M) := by
  have hC := hV.2.1
  have e6 : M 319 60 = 1 := hM.1.1.2.2.2.2.trans hV.1
  refine eMo_qOf_E (by omega) _ ?_
  simp only [bz_b0]
  rw [hM.1.1.1, e6, w32_id (z := vC V - 1) (by omega) (by omega), w32_id (z := x) (by omega) (by omega)]
  unfold gQ
  by_cases h1 : 0 ≤ x ∧ x < vC V
  · have hin : ¬ ¬ (¬ (1 : Int) = 0 ∧ 0 ≤ x ∧ x ≤ vC V - 1) := fun h => h (by omega)
    have i2 : (0 : Int) ≤ 2 + x ∧ 2 + x < 303 := by omega
    rw [if_neg hin, if_neg hin, if_pos h1, w32_id (z := 2 + x) (by omega) (by omega), if_pos i2, mr_row hM h1.1 (by omega), mo_turn (by omega) hV hS hM h1.1 h1.2, Option.bind_some]
    rcases hq with rfl | rfl
    · rw [if_pos rfl, if_pos rfl]
    · rw [if_neg (by decide), if_neg (by decide)]
  · have hout : ¬ (¬ (1 : Int) = 0 ∧ 0 ≤ x ∧ x ≤ vC V - 1) := by omega
    rw [if_pos hout, if_pos hout, if_neg h1]
    split <;> rfl
theorem mo_value (hd : 4 < d) (hV : vOK V) (hS : sOK V S) (hM : mR V S M) {l x : Int} (h0 : 0 ≤ l) (h1 : l < vL V) (h6 : M 366 l.toNat = sBends V S (vFr V l) (vTo V l)) {ops : List Int} {t : Bool} (hA : ∀ op ∈ ops, aQ op) (hok : pOK ops [] [t]) (hb : ops.length ≤ 1700) (hseg : zSeg (M 408) 0 ops) (hsz : M 319 121 = (ops.length : Int)) (hx : pEv (fQ V S l) (gQ V S) ops [] = [x]) : w_T (eMo_qTold Lg d l M) (fun p => p.1 = x ∧ mFr M p.2) := by
  have f0 : mFr M (bz_up M 319 127 0) := mFr_b _ _
  refine T_mono (mo_told (Ao := aQ) (F := fQ V S l) (G := gQ V S) (by omega) (fQ_bd hV hS h0 h1) (gQ_bd hV hS) (fun p M1 fr a b ha => ?_) (fun q M1 fr hq y y0 y1 => ?_) hA hok hseg hsz hb hx) (fun p hp => ⟨hp.1, mFr_trans f0 hp.2⟩)
  · have f1 := mFr_trans f0 fr
    exact mo_partQ (by omega) hV hS (mR_fz hM (mFz_fr f1)) h0 h1 (by rw [f1.1 366 (by decide) (by decide)]; exact h6) a b ha
  · have f1 := mFr_trans f0 fr
    exact mo_ofQ (by omega) hV hS (mR_fz hM (mFz_fr f1)) hq y0 y1
end AM

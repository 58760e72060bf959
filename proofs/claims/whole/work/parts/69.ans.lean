/-! A QUESTION'S VALUE FOR A LORD -/
def fQ (V : bz_M) (S : Nat → Int) (l p : Int) : Int := if p = 3 then S 0 else if p = 10 then l else if p = 11 then vFr V l else if p = 12 then vTo V l else if p = 13 then vPa V l else if p = 14 then vJo V l else if p = 15 then sPu S l else if p = 16 then sOf S l else if p = 17 then sBends V S (vFr V l) (vTo V l) else 0
def gQ (V : bz_M) (S : Nat → Int) (q x : Int) : Int := if 0 ≤ x ∧ x < vC V then (if q = 0 then sRow S x else sTurn V S x) else -1
def aQ (op : Int) : Prop := ¬ (40 ≤ op ∧ op ≤ 42) ∧ ¬ (44 ≤ op ∧ op ≤ 49)
def cFq (M M' : bz_M) : Prop := ∀ q, ¬ (cScr q ∨ q = 128 ∨ q = 129) → M' q = M q
theorem cFq_refl (M : bz_M) : cFq M M := fun _ _ => rfl
theorem cFq_trans {A B C : bz_M} (h : cFq A B) (g : cFq B C) : cFq A C := fun q hq => (g q hq).trans (h q hq)
theorem cFq_cF {M M' : bz_M} (h : cF M M') : cFq M M' := fun q hq => h q (fun e => hq (Or.inl e))
theorem cFq_up {M : bz_M} {k : Nat} {x : Int} : cFq M (bz_up M 129 k x) := fun q hq => bz_up_fn (by omega)
section AN
variable {Lg d v : Nat} {V M M' : bz_M} {S : Nat → Int}
theorem cR_cFq (hv : bz_oV v) (h : cR V S 131 148 v M) (hf : cFq M M') : cR V S 131 148 v M' := by
  have h2 := oV_c hv
  have k : ∀ q, ¬ (cScr q ∨ q = 128 ∨ q = 129) → M' q = M q := hf
  exact ⟨by rw [k 131 (by decide)]; exact h.1, cV_co h.2.1 (k _ (by omega)) (k _ (by omega)) (k _ (by omega)) (k _ (by omega)) (k _ (by omega)) (k _ (by omega)) (k _ (by omega)) (k _ (by omega)) (k _ (by omega)) (k _ (by omega)), cS_co h.2.2 (k _ (by omega)) (k _ (by omega)) (k _ (by omega)) (k _ (by omega)) (k _ (by omega)) (k _ (by omega))⟩
theorem sBendsL_bd : ∀ (k : Nat) (c n : Int), n ≤ sBendsL V S k c n ∧ sBendsL V S k c n ≤ n + k
  | 0, _, _ => by unfold sBendsL; omega
  | k + 1, c, n => by
    unfold sBendsL
    have := sBendsL_bd k (c + 1) (if sBend V S c = 0 then n else n + 1)
    split at this <;> rename_i h
    · rw [if_pos h]; push_cast; omega
    · rw [if_neg h]; push_cast; omega
theorem fQ_bd (hV : vOK V) (hS : sOK V S) {l : Int} (h0 : 0 ≤ l) (h1 : l < vL V) (p : Int) : -1000000 ≤ fQ V S l p ∧ fQ V S l p ≤ 1000000 := by
  have hC := hV.2.1
  have hL := hV.2.2.2.2.1
  have a1 := hS.1
  have a2 := hV.2.2.2.2.2.2.1 l h0 h1
  have a3 := hS.2.2.2.2 l h0 h1
  have a4 := sBendsL_bd (V := V) (S := S) (vTo V l + 1 - vFr V l).toNat (vFr V l) 0
  have a5 : 0 ≤ sBends V S (vFr V l) (vTo V l) ∧ sBends V S (vFr V l) (vTo V l) ≤ 10 := by unfold sBends; omega
  clear a4
  unfold fQ
  repeat' split
  all_goals omega
theorem gQ_bd (hV : vOK V) (hS : sOK V S) (q x : Int) : -1000000 ≤ gQ V S q x ∧ gQ V S q x ≤ 1000000 := by
  have hR := hV.2.2.1
  unfold gQ
  split
  · rename_i h
    have a := hS.2.2.1 x h.1 h.2
    have b := sTurn_bd hV hS h.1 h.2
    split <;> omega
  · omega
/-- the columns' rows and turns, laid; then the code -/
theorem qu_147 (hd : 2 < d) (hv : bz_oV v) (hV : vOK V) (hS : sOK V S) {l x : Int} (h0 : 0 ≤ l) (h1 : l < vL V) {ops : List Int} {t : Bool} (hA : ∀ op ∈ ops, aQ op) (hok : pOK ops [] [t]) (hb : ops.length ≤ 1600) (hx : pEv (fQ V S l) (gQ V S) ops [] = [x]) : ∀ (k : Nat) (c : Int) (M : bz_M), cR V S 131 148 v M → zSeg (M 127) 0 (ops.map pBk) → M 126 2 = (ops.length : Int) → (∀ p, 0 ≤ p → p ≤ 17 → aQ (40 + p) → M 129 (Int.toNat p) = fQ V S l p) → M 129 18 = vC V → 0 ≤ c → c + k = vC V → (∀ j, 0 ≤ j → j < c → M 129 (Int.toNat (19 + j)) = sRow S j ∧ M 129 (Int.toNat (29 + j)) = sTurn V S j) → w_T (eQu_valueFor_147 Lg d v c M) (fun p => p.1 = x ∧ cFq M p.2)
  | 0, c, M, hM, hseg, hsz, hF, h18, g0, g1, hj => by
    have hC := hV.2.1
    refine T_le (eQu_valueFor_147_E (by omega) hv) ?_
    rw [hM.2.1.1.1, if_neg (by omega)]
    refine T_seq (cd_value (Ao := aQ) (F := fQ V S l) (G := gQ V S) (by omega) (show bz_oC 126 by decide) (by decide) rfl (fQ_bd hV hS h0 h1) (gQ_bd hV hS) hF ?_ hA hok hseg hsz hb hx) ?_
    · intro q y hq _
      unfold cG gQ
      rw [h18]
      by_cases y0 : y < 0
      · rw [if_pos y0, if_neg (by omega)]
      · rw [if_neg y0]
        by_cases y1 : y < vC V
        · rw [if_pos y1, if_pos (show y < 10 by omega), if_pos (show 0 ≤ y ∧ y < vC V by omega)]
          have e := hj y (by omega) (by omega)
          rcases hq with rfl | rfl
          · rw [if_pos rfl, show (19 + 10 * 0 + y : Int) = 19 + y by omega]; exact e.1
          · rw [if_neg (by decide), show (19 + 10 * 1 + y : Int) = 29 + y by omega]; exact e.2
        · rw [if_neg y1, if_neg (by omega)]
    · rintro ⟨p1, p2⟩ ⟨a1, a2⟩
      exact T_some ⟨a1, fun q hq => a2 q (by omega)⟩
  | k + 1, c, M, hM, hseg, hsz, hF, h18, g0, g1, hj => by
    have hC := hV.2.1
    have i1 : (0 : Int) ≤ c ∧ c < 10 := by omega
    have i2 : (0 : Int) ≤ 19 + c ∧ 19 + c < 39 := by omega
    have i3 : (0 : Int) ≤ 29 + c ∧ 29 + c < 39 := by omega
    have er : M 149 c.toNat = sRow S c := hM.2.2.2.1 c g0 (by omega)
    refine T_le (eQu_valueFor_147_E (by omega) hv) ?_
    rw [hM.2.1.1.1, if_pos (by omega), if_pos i1, w32_id (z := 19 + c) (by omega) (by omega), if_pos i2, er]
    have f1 : cFq M (bz_up M 129 (Int.toNat (19 + c)) (sRow S c)) := cFq_up
    refine T_run (ri_turnOf (by omega) hr131 hv hV hS (cR_cFq hv hM f1) g0 (by omega)) ?_
    dsimp only
    rw [w32_id (z := 29 + c) (by omega) (by omega), if_pos i3, w32_id (z := c + 1) (by omega) (by omega)]
    have f2 : cFq M (bz_up (bz_up M 129 (Int.toNat (19 + c)) (sRow S c)) 129 (Int.toNat (29 + c)) (sTurn V S c)) := cFq_trans f1 cFq_up
    have low : ∀ j, j < 19 → bz_up (bz_up M 129 (Int.toNat (19 + c)) (sRow S c)) 129 (Int.toNat (29 + c)) (sTurn V S c) 129 j = M 129 j := fun j hj => by rw [bz_up_nk (by omega), bz_up_nk (by omega)]
    refine T_mono (qu_147 hd hv hV hS h0 h1 hA hok hb hx k (c + 1) _ (cR_cFq hv hM f2) (by rw [f2 127 (by decide)]; exact hseg) (by rw [f2 126 (by decide)]; exact hsz) (fun p a b e => by rw [low _ (by omega)]; exact hF p a b e) (by rw [low 18 (by omega)]; exact h18) (by omega) (by omega) (fun j a b => ?_)) (fun p hp => ⟨hp.1, cFq_trans f2 hp.2⟩)
    by_cases e : j = c
    · rw [e]
      exact ⟨by rw [bz_up_nk (by omega), bz_up_eq], bz_up_eq _ _ _ _⟩
    · have := hj j a (by omega)
      refine ⟨?_, ?_⟩
      · rw [bz_up_nk (by omega), bz_up_nk (by omega)]; exact this.1
      · rw [bz_up_nk (by omega), bz_up_nk (by omega)]; exact this.2
theorem qu_value (hd : 4 < d) (hv : bz_oV v) (hV : vOK V) (hS : sOK V S) (h9 : S 0 ≤ 999) (hM : cR V S 131 148 v M) {l x : Int} (h0 : 0 ≤ l) (h1 : l < vL V) {ops : List Int} {t : Bool} (hA : ∀ op ∈ ops, aQ op) (hok : pOK ops [] [t]) (hb : ops.length ≤ 1600) (hseg : zSeg (M 127) 0 (ops.map pBk)) (hsz : M 126 2 = (ops.length : Int)) (hx : pEv (fQ V S l) (gQ V S) ops [] = [x]) : w_T (eQu_valueFor Lg d l M) (fun p => p.1 = x ∧ cFq M p.2) := by
  have hC := hV.2.1
  have hL := hV.2.2.2.2.1
  have hvv := oV_c hv
  have i5 : (0 : Int) ≤ l ∧ l < 5 := by omega
  have e := hM.2.1.2.2.1 l h0 h1
  have e2 := hM.2.2.2.2.2 l i5.1 i5.2
  have e3 : M 153 l.toNat = sPu S l := e2.2
  have e4 : M 152 l.toNat = sOf S l := e2.1
  have hFt := (hV.2.2.2.2.2.2.1 l h0 h1).1
  have n5 : v + 5 ≠ 129 := by omega
  have n6 : v + 6 ≠ 129 := by omega
  have n7 : v + 7 ≠ 129 := by omega
  have n8 : v + 8 ≠ 129 := by omega
  have n0 : v ≠ 129 := by omega
  refine T_le (eQu_valueFor_E (by omega) hv) ?_
  simp only [bz_up_nr n5, bz_up_nr n6, bz_up_nr n7, bz_up_nr n8, bz_up_nr n0]
  rw [if_pos hM.1, if_pos i5, e.1, e.2.1, e.2.2.1, e.2.2.2, e3, e4]
  have f1 : cFq M (bz_up (bz_up (bz_up (bz_up (bz_up (bz_up (bz_up M 129 10 l) 129 11 (vFr V l)) 129 12 (vTo V l)) 129 13 (vPa V l)) 129 14 (vJo V l)) 129 15 (sPu S l)) 129 16 (sOf S l)) := cFq_trans cFq_up (cFq_trans cFq_up (cFq_trans cFq_up (cFq_trans cFq_up (cFq_trans cFq_up (cFq_trans cFq_up cFq_up)))))
  refine T_seq (ri_bends (by omega) hr131 hv hV hS h9 (cR_cFq hv hM f1) hFt.1 (by omega) hFt.2.2) ?_
  rintro ⟨p1, p2⟩ ⟨a1, a2⟩
  dsimp only at a1 a2 ⊢
  have f2 := cFq_trans f1 (cFq_cF a2)
  have hM2 := cR_cFq hv hM f2
  have e0 : p2 148 0 = S 0 := by have s0 := hS.1; rw [hM2.2.2.1.1]; omega
  rw [a1, e0, hM2.2.1.1.1]
  have f3 : cFq M (bz_up (bz_up (bz_up p2 129 17 (sBends V S (vFr V l) (vTo V l))) 129 3 (S 0)) 129 18 (vC V)) := cFq_trans f2 (cFq_trans cFq_up (cFq_trans cFq_up cFq_up))
  have k9 : p2 129 = bz_up (bz_up (bz_up (bz_up (bz_up (bz_up (bz_up M 129 10 l) 129 11 (vFr V l)) 129 12 (vTo V l)) 129 13 (vPa V l)) 129 14 (vJo V l)) 129 15 (sPu S l)) 129 16 (sOf S l) 129 := a2 129 (by decide)
  refine T_mono (qu_147 (by omega) hv hV hS h0 h1 hA hok hb hx (vC V).toNat 0 _ (cR_cFq hv hM f3) (by rw [f3 127 (by decide)]; exact hseg) (by rw [f3 126 (by decide)]; exact hsz) (fun p a b ha => ?_) (bz_up_eq _ _ _ _) (by omega) (by omega) (fun j a b => by omega)) (fun p hp => ⟨hp.1, cFq_trans f3 hp.2⟩)
  unfold aQ at ha
  have hp : p = 3 ∨ p = 10 ∨ p = 11 ∨ p = 12 ∨ p = 13 ∨ p = 14 ∨ p = 15 ∨ p = 16 ∨ p = 17 := by omega
  unfold fQ
  rcases hp with rfl | rfl | rfl | rfl | rfl | rfl | rfl | rfl | rfl <;> simp [bz_up_rk, k9]
end AN

/-! QUERIES: dream -/
def dP (V : bz_M) (S : Nat → Int) (c b r h : Int) : Int := if sBendBy V S c b r h = 0 then 0 else sPay V S c
def dSt (V : bz_M) (S : Nat → Int) (c b r h : Int) (D : Int → Int → Int) (q : Int × Int) : Int × Int := if -vH V ≤ r - h ∧ r - h ≤ vH V then (if q.1 < dP V S c b r h + D r h then (dP V S c b r h + D r h, h) else q) else q
def dLp (V : bz_M) (S : Nat → Int) (c b r : Int) (D : Int → Int → Int) : Nat → Int → Int × Int → Int × Int
  | 0, _, q => q
  | k + 1, h, q => dLp V S c b r D k (h + 1) (dSt V S c b r h D q)
def dQ (V : bz_M) (S : Nat → Int) : Nat → Int → Int → Int × Int
  | 0, b, r => (if sBendBy V S (vC V - 1) b r r = 0 then 0 else sPay V S (vC V - 1), -1)
  | k + 1, b, r => dLp V S (vC V - 1 - (k + 1)) b r (fun x y => (dQ V S k x y).1) (vR V).toNat 0 (-1, -1)
/-- at column c -/
def dA (V : bz_M) (S : Nat → Int) (c b r : Int) : Int × Int := dQ V S (vC V - 1 - c).toNat b r
def dF (V : bz_M) (S : Nat → Int) : Nat → Int → Int → Int
  | 0, _, f => f
  | k + 1, r, f => dF V S k (r + 1) (if (dA V S 0 f f).1 < (dA V S 0 r r).1 then r else f)
def dFst (V : bz_M) (S : Nat → Int) : Int := dF V S (vR V - 1).toNat 1 0
/-- the course: the row before and the row, at column c -/
def dC (V : bz_M) (S : Nat → Int) : Nat → Int × Int
  | 0 => (dFst V S, dFst V S)
  | c + 1 => ((dC V S c).2, (dA V S (c : Int) (dC V S c).1 (dC V S c).2).2)
def qDream (V : bz_M) (S : Nat → Int) (c : Int) : Int := if c = -1 then (dA V S 0 (dFst V S) (dFst V S)).1 else if 0 ≤ c ∧ c < vC V then (dC V S c.toNat).2 else -1
section DR
variable {Lg d v : Nat} {V M M0 M' : bz_M} {S : Nat → Int}
theorem dLp_bd (hV : vOK V) {c b r N : Int} {D : Int → Int → Int} (hD : ∀ x y, 0 ≤ x → x < vR V → 0 ≤ y → y < vR V → 0 ≤ D x y ∧ D x y ≤ N) (hr : 0 ≤ r ∧ r < vR V) (hN : 0 ≤ N) : ∀ (k : Nat) (h : Int) (q : Int × Int), 0 ≤ h → h + k = vR V → (q = (-1, -1) ∨ ((0 ≤ q.1 ∧ q.1 ≤ N + 495) ∧ (0 ≤ q.2 ∧ q.2 < vR V))) → (dLp V S c b r D k h q = (-1, -1) ∨ ((0 ≤ (dLp V S c b r D k h q).1 ∧ (dLp V S c b r D k h q).1 ≤ N + 495) ∧ (0 ≤ (dLp V S c b r D k h q).2 ∧ (dLp V S c b r D k h q).2 < vR V))) ∧ (h ≤ r ∨ q ≠ (-1, -1) → dLp V S c b r D k h q ≠ (-1, -1))
  | 0, h, q, h0, h1, hq => ⟨hq, fun g => by
      unfold dLp
      rcases g with g | g
      · exfalso; omega
      · exact g⟩
  | k + 1, h, q, h0, h1, hq => by
    have hp := sPay_bd (S := S) hV (c := c)
    have hH := hV.2.2.2.1
    have hd := hD r h hr.1 hr.2 h0 (by omega)
    have hy : 0 ≤ dP V S c b r h ∧ dP V S c b r h ≤ 495 := by unfold dP; split <;> omega
    have hs : dSt V S c b r h D q = (-1, -1) ∨ ((0 ≤ (dSt V S c b r h D q).1 ∧ (dSt V S c b r h D q).1 ≤ N + 495) ∧ (0 ≤ (dSt V S c b r h D q).2 ∧ (dSt V S c b r h D q).2 < vR V)) := by
      unfold dSt
      split
      · split
        · right
          dsimp only
          omega
        · exact hq
      · exact hq
    have ih := dLp_bd (c := c) (b := b) hV hD hr hN k (h + 1) (dSt V S c b r h D q) (by omega) (by omega) hs
    refine ⟨ih.1, fun g => ih.2 ?_⟩
    by_cases hh : h = r
    · right
      unfold dSt
      rw [if_pos (by omega)]
      split
      · intro e
        have := congrArg Prod.snd e
        dsimp only at this
        omega
      · rename_i hlt
        intro e
        rw [e] at hlt
        apply hlt
        dsimp only
        omega
    · rcases g with g | g
      · left; omega
      · right
        unfold dSt
        split
        · split
          · intro e
            have := congrArg Prod.snd e
            dsimp only at this
            omega
          · exact g
        · exact g
theorem dQ_bd (hV : vOK V) : ∀ (k : Nat) (b r : Int), 0 ≤ b → b < vR V → 0 ≤ r → r < vR V → (0 ≤ (dQ V S k b r).1 ∧ (dQ V S k b r).1 ≤ 495 * (k + 1)) ∧ (k ≠ 0 → 0 ≤ (dQ V S k b r).2 ∧ (dQ V S k b r).2 < vR V)
  | 0, b, r, _, _, _, _ => by
    have hp := sPay_bd (S := S) hV (c := vC V - 1)
    unfold dQ
    refine ⟨?_, fun h => absurd rfl h⟩
    dsimp only
    split <;> omega
  | k + 1, b, r, h0, h1, h2, h3 => by
    have h := dLp_bd (S := S) hV (c := vC V - 1 - (k + 1)) (b := b) (r := r) (N := 495 * (k + 1)) (D := fun x y => (dQ V S k x y).1) (fun x y a b c d => (dQ_bd hV k x y a b c d).1) ⟨h2, h3⟩ (by omega) (vR V).toNat 0 (-1, -1) (by omega) (by omega) (Or.inl rfl)
    unfold dQ
    rcases h.1 with g | g
    · exact absurd g (h.2 (Or.inl h2))
    · refine ⟨⟨g.1.1, ?_⟩, fun _ => g.2⟩
      have := g.1.2
      push_cast at this ⊢; omega
theorem dA_bd (hV : vOK V) {c b r : Int} (hc0 : 0 ≤ c) (hc : c < vC V) (h0 : 0 ≤ b) (h1 : b < vR V) (h2 : 0 ≤ r) (h3 : r < vR V) : (0 ≤ (dA V S c b r).1 ∧ (dA V S c b r).1 ≤ 4950) ∧ (c < vC V - 1 → 0 ≤ (dA V S c b r).2 ∧ (dA V S c b r).2 < vR V) := by
  have hC := hV.2.1
  have h := dQ_bd (S := S) hV (vC V - 1 - c).toNat b r h0 h1 h2 h3
  unfold dA
  refine ⟨⟨h.1.1, by omega⟩, fun g => h.2 (by omega)⟩
theorem dA_step (hV : vOK V) {c b r : Int} (hc0 : 0 ≤ c) (hc : c < vC V - 1) : dA V S c b r = dLp V S c b r (fun x y => (dA V S (c + 1) x y).1) (vR V).toNat 0 (-1, -1) := by
  unfold dA
  obtain ⟨k, hk⟩ : ∃ k : Nat, (vC V - 1 - c).toNat = k + 1 := ⟨(vC V - 1 - c).toNat - 1, by omega⟩
  rw [hk, show (vC V - 1 - (c + 1)).toNat = k by omega]
  show dLp V S (vC V - 1 - ((k : Int) + 1)) b r _ _ _ _ = _
  rw [show vC V - 1 - ((k : Int) + 1) = c by omega]
theorem dA_last {b r : Int} : dA V S (vC V - 1) b r = (if sBendBy V S (vC V - 1) b r r = 0 then 0 else sPay V S (vC V - 1), -1) := by
  unfold dA
  rw [show (vC V - 1 - (vC V - 1)).toNat = 0 by omega]
  rfl
/-- values lie in a row: at the columns behind c, and at c before (b, r) -/
def dRow (V : bz_M) (S : Nat → Int) (A : Nat → Int) (P : Int → Int → Int → Prop) : Prop := ∀ c b r, 0 ≤ c → c < vC V → 0 ≤ b → b < vR V → 0 ≤ r → r < vR V → P c b r → A (Int.toNat (64 * c + 8 * b + r)) = (dA V S c b r).1
def dRow2 (V : bz_M) (S : Nat → Int) (A : Nat → Int) (P : Int → Int → Int → Prop) : Prop := ∀ c b r, 0 ≤ c → c < vC V - 1 → 0 ≤ b → b < vR V → 0 ≤ r → r < vR V → P c b r → A (Int.toNat (64 * c + 8 * b + r)) = (dA V S c b r).2
theorem w_at {c b r : Int} (hc : 0 ≤ c ∧ c < 10) (hb : 0 ≤ b ∧ b < 8) (hr : 0 ≤ r ∧ r < 8) : bz_w32 (bz_w32 (bz_w32 (bz_w32 (c * 8) + b) * 8) + r) = 64 * c + 8 * b + r := by
  rw [w32_id (z := c * 8) (by omega) (by omega), w32_id (z := c * 8 + b) (by omega) (by omega), w32_id (z := (c * 8 + b) * 8) (by omega) (by omega), w32_id (by omega) (by omega)]
  omega
theorem w_at2 {c b r : Int} (hc : 0 ≤ c ∧ c < 10) (hb : 0 ≤ b ∧ b < 8) (hr : 0 ≤ r ∧ r < 8) : bz_w32 (bz_w32 (bz_w32 (64 * c) + bz_w32 (8 * b)) + r) = 64 * c + 8 * b + r := by
  rw [w32_id (z := 64 * c) (by omega) (by omega), w32_id (z := 8 * b) (by omega) (by omega), w32_id (z := 64 * c + 8 * b) (by omega) (by omega), w32_id (by omega) (by omega)]
/-- the class: one place, row by row behind it -/
theorem dr_lookL (hd : 2 < d) (hv : bz_oV v) (hV : vOK V) (hS : sOK V S) (h9 : S 0 ≤ 999) {c b r : Int} (hc0 : 0 ≤ c) (hc : c < vC V - 1) (hb : 0 ≤ b ∧ b < vR V) (hr : 0 ≤ r ∧ r < vR V) {Q : bz_M → Prop} : ∀ (k : Nat) (h : Int) (q : Int × Int) (M : bz_M), cR V S 131 148 v M → (∀ x y, 0 ≤ x → x < vR V → 0 ≤ y → y < vR V → M 297 (Int.toNat (64 * (c + 1) + 8 * x + y)) = (dA V S (c + 1) x y).1) → 0 ≤ h → h + k = vR V → (q = (-1, -1) ∨ ((0 ≤ q.1 ∧ q.1 ≤ 4950 + 495) ∧ (0 ≤ q.2 ∧ q.2 < vR V))) → M 297 (Int.toNat (64 * c + 8 * b + r)) = q.1 → (q.2 ≠ -1 → M 298 (Int.toNat (64 * c + 8 * b + r)) = q.2) → (∀ M', M' 297 (Int.toNat (64 * c + 8 * b + r)) = (dLp V S c b r (fun x y => (dA V S (c + 1) x y).1) k h q).1 → ((dLp V S c b r (fun x y => (dA V S (c + 1) x y).1) k h q).2 ≠ -1 → M' 298 (Int.toNat (64 * c + 8 * b + r)) = (dLp V S c b r (fun x y => (dA V S (c + 1) x y).1) k h q).2) → (∀ j, j ≠ Int.toNat (64 * c + 8 * b + r) → M' 297 j = M 297 j ∧ M' 298 j = M 298 j) → (∀ p, ¬ cScr p → p ≠ 297 → p ≠ 298 → M' p = M p) → Q M') → w_T (eDr_look_60 Lg d c b r (sPay V S c) (64 * c + 8 * b + r) h M) Q
  | 0, h, q, M, hM, hn, h0, h1, hq, e1, e2, hQ => by
    refine T_le (eDr_look_60_E (by omega) hv) ?_
    rw [if_pos hM.1, hM.2.1.1.2.1, if_neg (by omega)]
    exact T_some (hQ M e1 e2 (fun _ _ => ⟨rfl, rfl⟩) (fun _ _ _ _ => rfl))
  | k + 1, h, q, M, hM, hn, h0, h1, hq, e1, e2, hQ => by
    have hC := hV.2.1
    have hR := hV.2.2.1
    have hH := hV.2.2.2.1
    have hp := sPay_bd (S := S) hV (c := c)
    have hh : 0 ≤ h ∧ h < vR V := by omega
    have hdb := (dA_bd (S := S) hV (c := c + 1) (b := r) (r := h) (by omega) (by omega) hr.1 hr.2 hh.1 hh.2).1
    have hbb := (sBendBy_is hV hS (c := c) (by omega) (by omega) hb hr hh).2
    refine T_le (eDr_look_60_E (by omega) hv) ?_
    rw [if_pos hM.1, hM.2.1.1.2.1, if_pos (by omega), hM.2.1.1.2.2.1, w32_id (z := h - r) (by omega) (by omega), bz_abs_p (by omega) (by omega), w32_id (z := h + 1) (by omega) (by omega)]
    by_cases hw : vH V < pAbs (h - r)
    · rw [if_pos hw]
      have e : dSt V S c b r h (fun x y => (dA V S (c + 1) x y).1) q = q := by
        unfold dSt
        rw [if_neg]
        unfold pAbs at hw; split at hw <;> omega
      refine dr_lookL hd hv hV hS h9 hc0 hc hb hr k (h + 1) q M hM hn (by omega) (by omega) hq e1 e2 ?_
      unfold dLp at hQ
      rw [e] at hQ
      exact hQ
    · rw [if_neg hw]
      have hw' : -vH V ≤ r - h ∧ r - h ≤ vH V := by unfold pAbs at hw; split at hw <;> omega
      refine T_seq (ri_bendBy (by omega) hr131 hv hV hS h9 hM (by omega) (by omega) hb hr hh) ?_
      rintro ⟨p1, p2⟩ ⟨a1, a2⟩
      dsimp only at a1 a2 ⊢
      have f7 : p2 297 = M 297 := a2 297 (by decide)
      have f8 : p2 298 = M 298 := a2 298 (by decide)
      have hM2 := cR_cF hr131 hv hM a2
      have go : ∀ y, y = dP V S c b r h → w_T (eDr_look_109 Lg d c b r (sPay V S c) (64 * c + 8 * b + r) h y p2) Q := by
        intro y hy
        have hyb : 0 ≤ y ∧ y ≤ 495 := by rw [hy]; unfold dP; split <;> omega
        have wa : bz_w32 (bz_w32 (bz_w32 (bz_w32 (bz_w32 (c + 1) * 8) + r) * 8) + h) = 64 * (c + 1) + 8 * r + h := by rw [w32_id (z := c + 1) (by omega) (by omega)]; exact w_at (by omega) (by omega) (by omega)
        refine T_le (eDr_look_109_E (by omega)) ?_
        rw [wa, if_pos (by omega), if_pos (by omega), f7, e1, hn r h hr.1 hr.2 hh.1 hh.2, w32_id (z := y + _) (by omega) (by omega), w32_id (z := h + 1) (by omega) (by omega)]
        by_cases hlt : q.1 < y + (dA V S (c + 1) r h).1
        · rw [if_pos hlt]
          have e : dSt V S c b r h (fun x y => (dA V S (c + 1) x y).1) q = (y + (dA V S (c + 1) r h).1, h) := by
            unfold dSt
            rw [if_pos hw', ← hy, if_pos hlt]
          have kf : ∀ p, p ≠ 297 → p ≠ 298 → bz_up (bz_up p2 297 (Int.toNat (64 * c + 8 * b + r)) (y + (dA V S (c + 1) r h).1)) 298 (Int.toNat (64 * c + 8 * b + r)) h p = p2 p := fun p g g' => by rw [bz_up_fn g', bz_up_fn g]
          refine dr_lookL hd hv hV hS h9 hc0 hc hb hr k (h + 1) (y + (dA V S (c + 1) r h).1, h) _ (cR_qC hv hM2 (qC_of (fun p hp => kf p (by omega) (by omega)))) (fun x z g0 g1 g2 g3 => ?_) (by omega) (by omega) (Or.inr ⟨by dsimp only; omega, hh⟩) ?_ (fun _ => bz_up_eq _ _ _ _) ?_
          · rw [bz_up_nr (by decide), bz_up_nk (by omega), f7]; exact hn x z g0 g1 g2 g3
          · rw [bz_up_nr (by decide), bz_up_eq]
          · intro M' r1 r2 r3 r4
            unfold dLp at hQ
            rw [e] at hQ
            refine hQ M' r1 r2 (fun j hj => ?_) (fun p g1 g2 g3 => by rw [r4 p g1 g2 g3, kf p g2 g3, a2 p g1])
            rw [(r3 j hj).1, (r3 j hj).2]
            exact ⟨by rw [bz_up_nr (by decide), bz_up_nk hj, f7], by rw [bz_up_nk hj, bz_up_nr (by decide), f8]⟩
        · rw [if_neg hlt]
          have e : dSt V S c b r h (fun x y => (dA V S (c + 1) x y).1) q = q := by
            unfold dSt
            rw [if_pos hw', ← hy, if_neg hlt]
          refine dr_lookL hd hv hV hS h9 hc0 hc hb hr k (h + 1) q p2 hM2 (fun x z g0 g1 g2 g3 => by rw [f7]; exact hn x z g0 g1 g2 g3) (by omega) (by omega) hq (by rw [f7]; exact e1) (fun g => by rw [f8]; exact e2 g) ?_
          intro M' r1 r2 r3 r4
          unfold dLp at hQ
          rw [e] at hQ
          exact hQ M' r1 r2 (fun j hj => by rw [(r3 j hj).1, (r3 j hj).2, f7, f8]; exact ⟨rfl, rfl⟩) (fun p g1 g2 g3 => by rw [r4 p g1 g2 g3, a2 p g1])
      rw [a1]
      rcases hbb with g | g
      · rw [if_pos g]; exact go 0 (by unfold dP; rw [if_pos g])
      · rw [if_neg (by rw [g]; decide)]; exact go _ (by unfold dP; rw [if_neg (by rw [g]; decide)])
end DR

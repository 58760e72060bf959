/-! QUERIES: dream, the reference -/
def mD (M M' : bz_M) : Prop := (∀ q, q ≠ 410 → q ≠ 319 → q ≠ 369 → q ≠ 370 → q ≠ 371 → M' q = M q) ∧ ∀ k, k ≠ 61 → k ≠ 64 → k ≠ 65 → k ≠ 66 → k ≠ 67 → k ≠ 68 → k ≠ 127 → M' 319 k = M 319 k
theorem mD_refl (M : bz_M) : mD M M := ⟨fun _ _ _ _ _ _ => rfl, fun _ _ _ _ _ _ _ _ => rfl⟩
theorem mD_trans {A B C : bz_M} (h : mD A B) (g : mD B C) : mD A C := ⟨fun q a b c e f => (g.1 q a b c e f).trans (h.1 q a b c e f), fun k a b c d e f i => (g.2 k a b c d e f i).trans (h.2 k a b c d e f i)⟩
theorem mD_fz {M M' : bz_M} (h : mFz M M') : mD M M' := ⟨fun q a b _ _ _ => h.1 q a b, h.2⟩
theorem mD_up {M : bz_M} {q k : Nat} {x : Int} (hq : q = 369 ∨ q = 370 ∨ q = 371) : mD M (bz_up M q k x) := ⟨fun p _ _ a b c => bz_up_fn (by omega), fun j _ _ _ _ _ _ _ => bz_up_nr (by omega) _⟩
theorem mD_qM {M M' : bz_M} (h : mD M M') : qM M M' := ⟨fun q hq => h.1 q (by omega) (by omega) (by omega) (by omega) (by omega), fun k hk => h.2 k (by omega) (by omega) (by omega) (by omega) (by omega) (by omega) (by omega)⟩
section DM
variable {Lg d : Nat} {V M M0 M' : bz_M} {S : Nat → Int}
theorem mR_mD (h : mR V S M) (f : mD M M') : mR V S M' := mR_qM h (mD_qM f)
theorem mo_reach (hd : 0 < d) (hV : vOK V) (hM : mR V S M) {a b : Int} (ha : 0 ≤ a ∧ a < 8) (hb : 0 ≤ b ∧ b < 8) : eMo_isReach Lg d a b M = some (bz_b (-vH V ≤ a - b ∧ a - b ≤ vH V), M) := by
  have hH := hV.2.2.2.1
  refine eMo_isReach_E hd _ ?_
  rw [hM.1.1.2.2.1, w32_id (z := -vH V) (by omega) (by omega), w32_id (z := a - b) (by omega) (by omega), if_pos bz_b01]
theorem mo_dL (hd : 5 < d) (hV : vOK V) (hS : sOK V S) {c b r : Int} (hc0 : 0 ≤ c) (hc : c < vC V - 1) (hb : 0 ≤ b ∧ b < vR V) (hr : 0 ≤ r ∧ r < vR V) {Q : bz_M → Prop} : ∀ (k : Nat) (h : Int) (q : Int × Int) (M : bz_M), mR V S M → (∀ x y, 0 ≤ x → x < vR V → 0 ≤ y → y < vR V → M 369 (dI (c + 1) x y) = (dA V S (c + 1) x y).1) → 0 ≤ h → h + k = vR V → (q = (-1, -1) ∨ ((0 ≤ q.1 ∧ q.1 ≤ 4950 + 495) ∧ (0 ≤ q.2 ∧ q.2 < vR V))) → M 370 (dI c b r) = q.2 → (q.2 ≠ -1 → M 369 (dI c b r) = q.1) → (∀ M', M' 370 (dI c b r) = (dLp V S c b r (fun x y => (dA V S (c + 1) x y).1) k h q).2 → ((dLp V S c b r (fun x y => (dA V S (c + 1) x y).1) k h q).2 ≠ -1 → M' 369 (dI c b r) = (dLp V S c b r (fun x y => (dA V S (c + 1) x y).1) k h q).1) → (∀ j, j ≠ dI c b r → M' 369 j = M 369 j ∧ M' 370 j = M 370 j) → mD M M' → Q M') → w_T (eMo_dreamsOf_66 Lg d c b r (64 * c + 8 * b + r) (sPay V S c) h M) Q
  | 0, h, q, M, hM, hn, h0, h1, hq, e1, e2, hQ => by
    refine T_le (eMo_dreamsOf_66_E (by omega)) ?_
    rw [hM.1.1.2.1, if_neg (by omega)]
    exact T_some (hQ M e1 e2 (fun _ _ => ⟨rfl, rfl⟩) (mD_refl _))
  | k + 1, h, q, M, hM, hn, h0, h1, hq, e1, e2, hQ => by
    have hC := hV.2.1
    have hR := hV.2.2.1
    have hH := hV.2.2.2.1
    have hp := sPay_bd (S := S) hV (c := c)
    have hh : 0 ≤ h ∧ h < vR V := by omega
    have hdb := (dA_bd (S := S) hV (c := c + 1) (b := r) (r := h) (by omega) (by omega) hr.1 hr.2 hh.1 hh.2).1
    have hbb := (sBendBy_is hV hS (c := c) (by omega) (by omega) hb hr hh).2
    refine T_le (eMo_dreamsOf_66_E (by omega)) ?_
    rw [hM.1.1.2.1, if_pos (by omega), w32_id (z := h + 1) (by omega) (by omega)]
    refine T_run (mo_reach (by omega) hV hM (by omega) (by omega)) ?_
    simp only [bz_b0]
    by_cases hw' : -vH V ≤ r - h ∧ r - h ≤ vH V
    · rw [if_neg (fun g => g hw')]
      refine T_seq (mo_bendBy (by omega) hV hS hM (by omega) (by omega) hb hr hh) ?_
      rintro ⟨p1, p2⟩ ⟨a1, a2⟩
      dsimp only at a1 a2 ⊢
      have f7 : p2 369 = M 369 := a2.1 369 (by decide) (by decide)
      have f8 : p2 370 = M 370 := a2.1 370 (by decide) (by decide)
      have hM2 := mR_fz hM a2
      have go : ∀ y, y = dP V S c b r h → w_T (eMo_dreamsOf_106 Lg d c b r (64 * c + 8 * b + r) (sPay V S c) h y p2) Q := by
        intro y hy
        have hyb : 0 ≤ y ∧ y ≤ 495 := by rw [hy]; unfold dP; split <;> omega
        have wa : bz_w32 (bz_w32 (bz_w32 (bz_w32 (64 * c) + 64) + bz_w32 (8 * r)) + h) = 64 * (c + 1) + 8 * r + h := by
          rw [w32_id (z := 64 * c) (by omega) (by omega), w32_id (z := 64 * c + 64) (by omega) (by omega), w32_id (z := 8 * r) (by omega) (by omega), w32_id (z := 64 * c + 64 + 8 * r) (by omega) (by omega), w32_id (by omega) (by omega)]; omega
        have e9 : M 369 (Int.toNat (64 * (c + 1) + 8 * r + h)) = (dA V S (c + 1) r h).1 := hn r h hr.1 hr.2 hh.1 hh.2
        refine T_le eMo_dreamsOf_106_E ?_
        rw [wa, if_pos (by omega), if_pos (by omega), f7, f8, e9, w32_id (z := y + _) (by omega) (by omega), w32_id (z := h + 1) (by omega) (by omega)]
        have e1' : M 370 (Int.toNat (64 * c + 8 * b + r)) = q.2 := e1
        -- set
        have set : q.1 < y + (dA V S (c + 1) r h).1 → w_T (eMo_dreamsOf_66 Lg d c b r (64 * c + 8 * b + r) (sPay V S c) (h + 1) (bz_up (bz_up p2 369 (Int.toNat (64 * c + 8 * b + r)) (y + (dA V S (c + 1) r h).1)) 370 (Int.toNat (64 * c + 8 * b + r)) h)) Q := by
          intro hlt
          have e : dSt V S c b r h (fun x y => (dA V S (c + 1) x y).1) q = (y + (dA V S (c + 1) r h).1, h) := by
            unfold dSt
            rw [if_pos hw', ← hy, if_pos hlt]
          have f3 := mD_trans (mD_fz a2) (mD_trans (mD_up (k := Int.toNat (64 * c + 8 * b + r)) (x := y + (dA V S (c + 1) r h).1) (Or.inl rfl)) (mD_up (k := Int.toNat (64 * c + 8 * b + r)) (x := h) (Or.inr (Or.inl rfl))))
          refine mo_dL hd hV hS hc0 hc hb hr k (h + 1) (y + (dA V S (c + 1) r h).1, h) _ (mR_mD hM f3) (fun x z g0 g1 g2 g3 => ?_) (by omega) (by omega) (Or.inr ⟨by dsimp only; omega, hh⟩) (bz_up_eq _ _ _ _) (fun _ => ?_) ?_
          · rw [bz_up_nr (by decide), bz_up_nk (by unfold dI; omega), f7]; exact hn x z g0 g1 g2 g3
          · rw [bz_up_nr (by decide)]; exact bz_up_eq _ _ _ _
          · intro M' r1 r2 r3 r4
            unfold dLp at hQ
            rw [e] at hQ
            refine hQ M' r1 r2 (fun j hj => ?_) (mD_trans f3 r4)
            rw [(r3 j hj).1, (r3 j hj).2]
            exact ⟨by rw [bz_up_nr (by decide), bz_up_nk hj, f7], by rw [bz_up_nk hj, bz_up_nr (by decide), f8]⟩
        rw [e1']
        by_cases hn1 : q.2 = -1
        · rw [if_pos hn1]
          refine set ?_
          rcases hq with g | g
          · rw [g]; dsimp only; omega
          · omega
        · rw [if_neg hn1]
          have e2' : M 369 (Int.toNat (64 * c + 8 * b + r)) = q.1 := e2 hn1
          rw [e2']
          by_cases hlt : q.1 < y + (dA V S (c + 1) r h).1
          · rw [if_pos hlt]; exact set hlt
          · rw [if_neg hlt]
            have e : dSt V S c b r h (fun x y => (dA V S (c + 1) x y).1) q = q := by
              unfold dSt
              rw [if_pos hw', ← hy, if_neg hlt]
            refine mo_dL hd hV hS hc0 hc hb hr k (h + 1) q p2 hM2 (fun x z g0 g1 g2 g3 => by rw [f7]; exact hn x z g0 g1 g2 g3) (by omega) (by omega) hq (by rw [f8]; exact e1) (fun g => by rw [f7]; exact e2 g) ?_
            intro M' r1 r2 r3 r4
            unfold dLp at hQ
            rw [e] at hQ
            exact hQ M' r1 r2 (fun j hj => by rw [(r3 j hj).1, (r3 j hj).2, f7, f8]; exact ⟨rfl, rfl⟩) (mD_trans (mD_fz a2) r4)
      rw [a1]
      rcases hbb with g | g
      · rw [if_pos g]; exact go 0 (by unfold dP; rw [if_pos g])
      · rw [if_neg (by rw [g]; decide)]; exact go _ (by unfold dP; rw [if_neg (by rw [g]; decide)])
    · rw [if_pos hw']
      have e : dSt V S c b r h (fun x y => (dA V S (c + 1) x y).1) q = q := by
        unfold dSt
        rw [if_neg hw']
      refine mo_dL hd hV hS hc0 hc hb hr k (h + 1) q M hM hn (by omega) (by omega) hq e1 e2 ?_
      unfold dLp at hQ
      rw [e] at hQ
      exact hQ
/-- one place -/
theorem mo_dOf (hd : 5 < d) (hV : vOK V) (hS : sOK V S) (hM : mR V S M) {c b r : Int} (hc0 : 0 ≤ c) (hc : c < vC V) (hb : 0 ≤ b ∧ b < vR V) (hr : 0 ≤ r ∧ r < vR V) (hG : dG V S (M 369) (M 370) c 0 0) : w_T (eMo_dreamsOf Lg d c b r M) (fun M' => M' 369 (dI c b r) = (dA V S c b r).1 ∧ (c < vC V - 1 → M' 370 (dI c b r) = (dA V S c b r).2) ∧ (∀ j, j ≠ dI c b r → M' 369 j = M 369 j ∧ M' 370 j = M 370 j) ∧ mD M M') := by
  have hC := hV.2.1
  have hR := hV.2.2.1
  have wa : bz_w32 (bz_w32 (bz_w32 (64 * c) + bz_w32 (8 * b)) + r) = 64 * c + 8 * b + r := w_at2 (by omega) (by omega) (by omega)
  refine T_le (eMo_dreamsOf_E (by omega)) ?_
  refine T_run (mo_pay (by omega) hV hM) ?_
  dsimp only
  rw [wa, if_pos (by omega)]
  have wC : bz_w32 (vC V - 1) = vC V - 1 := w32_id (by omega) (by omega)
  simp only [hM.1.1.1, wC]
  have f1 := mD_up (M := M) (k := Int.toNat (64 * c + 8 * b + r)) (x := -1) (q := 370) (by omega)
  have hM1 := mR_mD hM f1
  by_cases hl : c = vC V - 1
  · rw [if_pos hl]
    have hbb := (sBendBy_is hV hS (c := c) hc0 hc hb hr hr).2
    refine T_seq (mo_bendBy (by omega) hV hS hM1 hc0 hc hb hr hr) ?_
    rintro ⟨p1, p2⟩ ⟨a1, a2⟩
    dsimp only at a1 a2 ⊢
    have f7 : p2 369 = bz_up M 370 (64 * c + 8 * b + r).toNat (-1) 369 := a2.1 369 (by decide) (by decide)
    have f8 : p2 370 = bz_up M 370 (64 * c + 8 * b + r).toNat (-1) 370 := a2.1 370 (by decide) (by decide)
    have ed : (dA V S c b r).1 = if sBendBy V S c b r r = 0 then 0 else sPay V S c := by rw [hl]; rw [dA_last]
    have fin : ∀ y, y = (dA V S c b r).1 → w_T (some (bz_up p2 369 (64 * c + 8 * b + r).toNat y)) (fun M' => M' 369 (dI c b r) = (dA V S c b r).1 ∧ (c < vC V - 1 → M' 370 (dI c b r) = (dA V S c b r).2) ∧ (∀ j, j ≠ dI c b r → M' 369 j = M 369 j ∧ M' 370 j = M 370 j) ∧ mD M M') := by
      intro y hy
      refine T_some ⟨(bz_up_eq _ _ _ _).trans hy, fun h => by omega, fun j hj => ⟨?_, ?_⟩, mD_trans f1 (mD_trans (mD_fz a2) (mD_up (Or.inl rfl)))⟩
      · rw [bz_up_nk hj, f7, bz_up_nr (by decide)]
      · rw [bz_up_nr (by decide), f8, bz_up_nk hj]
    rw [a1]
    rcases hbb with g | g
    · rw [if_pos g]; exact fin 0 (by rw [ed, if_pos g])
    · rw [if_neg (by rw [g]; decide)]; exact fin _ (by rw [ed, if_neg (by rw [g]; decide)])
  · rw [if_neg hl]
    refine mo_dL hd hV hS hc0 (by omega) hb hr (vR V).toNat 0 (-1, -1) _ hM1 (fun x y g0 g1 g2 g3 => ?_) (by omega) (by omega) (Or.inl rfl) (bz_up_eq _ _ _ _) (fun h => absurd rfl h) ?_
    · rw [bz_up_nr (by decide)]
      exact (hG (c + 1) x y (by omega) (by omega) g0 g1 g2 g3 (by omega)).1
    · intro M' r1 r2 r3 r4
      have es := dA_step (S := S) hV (b := b) (r := r) hc0 (show c < vC V - 1 by omega)
      have hbd := (dA_bd (S := S) hV hc0 hc hb.1 hb.2 hr.1 hr.2).2 (by omega)
      rw [← es] at r1 r2
      refine ⟨r2 (by omega), fun _ => r1, fun j hj => ?_, mD_trans f1 r4⟩
      rw [(r3 j hj).1, (r3 j hj).2, bz_up_nr (by decide), bz_up_nk hj]
      exact ⟨rfl, rfl⟩
theorem dG_low {A B : Nat → Int} {c b r : Int} (hG : dG V S A B c b r) : dG V S A B c 0 0 := fun c' b' r' g0 g1 g2 g3 g4 g5 hp => hG c' b' r' g0 g1 g2 g3 g4 g5 (by omega)
theorem dG_ext (hV : vOK V) {A B A' B' : Nat → Int} {c b r : Int} (hc0 : 0 ≤ c) (hb : 0 ≤ b ∧ b < vR V) (hr : 0 ≤ r ∧ r < vR V) (hG : dG V S A B c b r) (z1 : A' (dI c b r) = (dA V S c b r).1) (z2 : c < vC V - 1 → B' (dI c b r) = (dA V S c b r).2) (z3 : ∀ j, j ≠ dI c b r → A' j = A j ∧ B' j = B j) : dG V S A' B' c b (r + 1) := by
  have hR := hV.2.2.1
  intro c' b' r' g0 g1 g2 g3 g4 g5 hp
  by_cases e : c' = c ∧ b' = b ∧ r' = r
  · obtain ⟨rfl, rfl, rfl⟩ := e
    exact ⟨z1, z2⟩
  · have hne : dI c' b' r' ≠ dI c b r := by unfold dI; omega
    rw [(z3 _ hne).1, (z3 _ hne).2]
    exact hG c' b' r' g0 g1 g2 g3 g4 g5 (by omega)
theorem mo_23 (hd : 6 < d) (hV : vOK V) (hS : sOK V S) {c b : Int} (hc0 : 0 ≤ c) (hc : c < vC V) (hb : 0 ≤ b ∧ b < vR V) {Q : Int × bz_M → Prop} : ∀ (k : Nat) (r : Int) (M : bz_M), mR V S M → dG V S (M 369) (M 370) c b r → 0 ≤ r → r + k = vR V → (∀ M', dG V S (M' 369) (M' 370) c (b + 1) 0 → mD M M' → w_T (eMo_dreamPays_13 Lg d c (b + 1) M') Q) → w_T (eMo_dreamPays_23 Lg d c b r M) Q
  | 0, r, M, hM, hG, h0, h1, hQ => by
    have hR := hV.2.2.1
    refine T_le (eMo_dreamPays_23_E (by omega)) ?_
    rw [hM.1.1.2.1, if_neg (by omega), w32_id (by omega) (by omega)]
    exact hQ M (fun c' b' r' g0 g1 g2 g3 g4 g5 hp => hG c' b' r' g0 g1 g2 g3 g4 g5 (by omega)) (mD_refl _)
  | k + 1, r, M, hM, hG, h0, h1, hQ => by
    have hR := hV.2.2.1
    refine T_le (eMo_dreamPays_23_E (by omega)) ?_
    rw [hM.1.1.2.1, if_pos (by omega), w32_id (z := r + 1) (by omega) (by omega)]
    refine T_seq (mo_dOf (by omega) hV hS hM hc0 hc hb (by omega) (dG_low hG)) ?_
    rintro M1 ⟨a1, a2, a3, a4⟩
    exact mo_23 hd hV hS hc0 hc hb k (r + 1) M1 (mR_mD hM a4) (dG_ext hV hc0 hb (by omega) hG a1 a2 a3) (by omega) (by omega) (fun M' b1 b2 => hQ M' b1 (mD_trans a4 b2))
theorem mo_13 (hd : 6 < d) (hV : vOK V) (hS : sOK V S) {c : Int} (hc0 : 0 ≤ c) (hc : c < vC V) {Q : Int × bz_M → Prop} : ∀ (k : Nat) (b : Int) (M : bz_M), mR V S M → dG V S (M 369) (M 370) c b 0 → 0 ≤ b → b + k = vR V → (∀ M', dG V S (M' 369) (M' 370) (c - 1) 0 0 → mD M M' → w_T (eMo_dreamPays_7 Lg d (c - 1) M') Q) → w_T (eMo_dreamPays_13 Lg d c b M) Q
  | 0, b, M, hM, hG, h0, h1, hQ => by
    have hC := hV.2.1
    refine T_le (eMo_dreamPays_13_E (by omega)) ?_
    rw [hM.1.1.2.1, if_neg (by omega), show c + (-1) = c - 1 by omega, w32_id (by omega) (by omega)]
    exact hQ M (fun c' b' r' g0 g1 g2 g3 g4 g5 hp => hG c' b' r' g0 g1 g2 g3 g4 g5 (by omega)) (mD_refl _)
  | k + 1, b, M, hM, hG, h0, h1, hQ => by
    have hR := hV.2.2.1
    refine T_le (eMo_dreamPays_13_E (by omega)) ?_
    rw [hM.1.1.2.1, if_pos (by omega)]
    refine mo_23 hd hV hS hc0 hc (by omega) (vR V).toNat 0 M hM hG (by omega) (by omega) (fun M1 a1 a2 => ?_)
    exact mo_13 hd hV hS hc0 hc k (b + 1) M1 (mR_mD hM a2) a1 (by omega) (by omega) (fun M' b1 b2 => hQ M' b1 (mD_trans a2 b2))
theorem mo_7 (hd : 6 < d) (hV : vOK V) (hS : sOK V S) {Q : Int × bz_M → Prop} : ∀ (k : Nat) (c : Int) (M : bz_M), mR V S M → dG V S (M 369) (M 370) c 0 0 → c < vC V → c = k → (∀ M', dG V S (M' 369) (M' 370) 0 0 0 → mD M M' → w_T (eMo_dreamPays_60 Lg d (-1) 0 M') Q) → w_T (eMo_dreamPays_7 Lg d c M) Q
  | 0, c, M, hM, hG, h0, h1, hQ => by
    refine T_le eMo_dreamPays_7_E ?_
    rw [if_neg (by omega)]
    have e : c = 0 := by omega
    rw [e] at hG
    exact hQ M hG (mD_refl _)
  | k + 1, c, M, hM, hG, h0, h1, hQ => by
    have hR := hV.2.2.1
    refine T_le eMo_dreamPays_7_E ?_
    rw [if_pos (by omega)]
    refine mo_13 hd hV hS (by omega) h0 (vR V).toNat 0 M hM hG (by omega) (by omega) (fun M1 a1 a2 => ?_)
    exact mo_7 hd hV hS k (c - 1) M1 (mR_mD hM a2) a1 (by omega) (by omega) (fun M' b1 b2 => hQ M' b1 (mD_trans a2 b2))
/-- column 0: its own places -/
def dH (V : bz_M) (S : Nat → Int) (A B : Nat → Int) (r : Int) : Prop := dG V S A B 0 0 0 ∧ ∀ r', 0 ≤ r' → r' < r → A (dI 0 r' r') = (dA V S 0 r' r').1 ∧ B (dI 0 r' r') = (dA V S 0 r' r').2
theorem mo_116 (hd : 0 < d) (hV : vOK V) : ∀ (k : Nat) (c : Nat) (b r : Int) (M : bz_M), mR V S M → dH V S (M 369) (M 370) (vR V) → (c : Int) + k = vC V → ((c : Int) < vC V → b = (dC V S c).1 ∧ r = (dC V S c).2) → (∀ j, j < c → M 371 j = (dC V S j).2) → w_T (eMo_dreamPays_116 Lg d (dFst V S) b r (c : Int) M) (fun p => p.1 = (dA V S 0 (dFst V S) (dFst V S)).1 ∧ (∀ j : Nat, (j : Int) < vC V → p.2 371 j = (dC V S j).2) ∧ mD M p.2)
  | 0, c, b, r, M, hM, hG, h1, hbr, hc => by
    have hR := hV.2.2.1
    have hf := dFst_rg (S := S) hV
    refine T_le (eMo_dreamPays_116_E hd) ?_
    rw [hM.1.1.1, if_neg (by omega), w32_id (by omega) (by omega), if_pos (by omega)]
    refine T_some ⟨?_, fun j hj => hc j (by omega), mD_refl _⟩
    have := (hG.2 (dFst V S) hf.1 hf.2).1
    rw [show dI 0 (dFst V S) (dFst V S) = Int.toNat (9 * dFst V S) by unfold dI; omega] at this
    exact this
  | k + 1, c, b, r, M, hM, hG, h1, hbr, hc => by
    have hC := hV.2.1
    have hR := hV.2.2.1
    obtain ⟨e1, e2⟩ := hbr (by omega)
    have hr := dC_rg (S := S) hV c (by omega)
    rw [← e1, ← e2] at hr
    refine T_le (eMo_dreamPays_116_E hd) ?_
    rw [hM.1.1.1, if_pos (by omega), if_pos (by omega), w_at2 (by omega) (by omega) (by omega), if_pos (by omega), Int.toNat_natCast, show bz_w32 ((c : Int) + 1) = ((c + 1 : Nat) : Int) by rw [w32_id (by omega) (by omega)]; omega]
    have kf : ∀ p, p ≠ 371 → bz_up M 371 c r p = M p := fun p h => bz_up_fn h
    refine T_mono (mo_116 hd hV k (c + 1) r _ _ (mR_mD hM (mD_up (Or.inr (Or.inr rfl)))) (by rw [kf 369 (by decide), kf 370 (by decide)]; exact hG) (by push_cast at h1 ⊢; omega) (fun g => ⟨e2, ?_⟩) (fun j hj => ?_)) (fun p hp => ⟨hp.1, hp.2.1, mD_trans (mD_up (Or.inr (Or.inr rfl))) hp.2.2⟩)
    · show M 370 (dI (c : Int) b r) = (dA V S (c : Int) (dC V S c).1 (dC V S c).2).2
      rw [← e1, ← e2]
      by_cases h0 : c = 0
      · subst h0
        have eb : b = r := by rw [e1, e2]; rfl
        rw [eb]
        exact (hG.2 r hr.2.1 hr.2.2).2
      · exact (hG.1 (c : Int) b r (by omega) (by omega) hr.1.1 hr.1.2 hr.2.1 hr.2.2 (by omega)).2 (by push_cast at g; omega)
    · rw [bz_up_rk]
      by_cases e : j = c
      · rw [if_pos ⟨rfl, e⟩, e]; exact e2
      · rw [if_neg (fun h => e h.2)]; exact hc j (by omega)
theorem mo_60 (hd : 6 < d) (hV : vOK V) (hS : sOK V S) : ∀ (k : Nat) (r f : Int) (M : bz_M), mR V S M → dH V S (M 369) (M 370) r → 0 ≤ r → r + k = vR V → ((r = 0 ∧ f = -1) ∨ (1 ≤ r ∧ 0 ≤ f ∧ f < r ∧ dF V S k r f = dFst V S)) → w_T (eMo_dreamPays_60 Lg d f r M) (fun p => p.1 = (dA V S 0 (dFst V S) (dFst V S)).1 ∧ (∀ j : Nat, (j : Int) < vC V → p.2 371 j = (dC V S j).2) ∧ mD M p.2)
  | 0, r, f, M, hM, hG, h0, h1, hf => by
    have hC := hV.2.1
    have hR := hV.2.2.1
    refine T_le (eMo_dreamPays_60_E (by omega)) ?_
    rw [hM.1.1.2.1, if_neg (by omega)]
    rcases hf with g | g
    · omega
    · have e : f = dFst V S := g.2.2.2
      rw [e]
      have er : r = vR V := by omega
      rw [er] at hG
      exact mo_116 (by omega) hV (vC V).toNat 0 (dFst V S) (dFst V S) M hM hG (by omega) (fun _ => ⟨rfl, rfl⟩) (fun j hj => by omega)
  | k + 1, r, f, M, hM, hG, h0, h1, hf => by
    have hC := hV.2.1
    have hR := hV.2.2.1
    refine T_le (eMo_dreamPays_60_E (by omega)) ?_
    rw [hM.1.1.2.1, if_pos (by omega), w32_id (z := r + 1) (by omega) (by omega)]
    refine T_seq (mo_dOf (by omega) hV hS hM (by omega) (by omega) (by omega) (by omega) hG.1) ?_
    rintro M1 ⟨a1, a2, a3, a4⟩
    have hG1 : dH V S (M1 369) (M1 370) (r + 1) := by
      refine ⟨fun c' b' r' g0 g1 g2 g3 g4 g5 hp => ?_, fun r' g0 g1 => ?_⟩
      · have hne : dI c' b' r' ≠ dI 0 r r := by unfold dI; omega
        rw [(a3 _ hne).1, (a3 _ hne).2]
        exact hG.1 c' b' r' g0 g1 g2 g3 g4 g5 hp
      · by_cases e : r' = r
        · rw [e]; exact ⟨a1, a2 (by omega)⟩
        · have hne : dI 0 r' r' ≠ dI 0 r r := by unfold dI; omega
          rw [(a3 _ hne).1, (a3 _ hne).2]
          exact hG.2 r' g0 (by omega)
    have i9 : ∀ z : Int, dI 0 z z = Int.toNat (9 * z) := fun z => by unfold dI; omega
    rcases hf with ⟨g1, g2⟩ | ⟨g1, g2, g3, g4⟩
    · rw [if_pos g2]
      refine T_mono (mo_60 hd hV hS k (r + 1) r M1 (mR_mD hM a4) hG1 (by omega) (by omega) (Or.inr ⟨by omega, by omega, by omega, ?_⟩)) (fun p hp => ⟨hp.1, hp.2.1, mD_trans a4 hp.2.2⟩)
      subst g1
      unfold dFst
      rw [show (vR V - 1).toNat = k by push_cast at h1; omega]
      rfl
    · have x1 := (hG1.2 r (by omega) (by omega)).1
      have x2 := (hG1.2 f (by omega) (by omega)).1
      rw [i9] at x1 x2
      unfold dF at g4
      rw [if_neg (by omega), w32_id (z := 9 * r) (by omega) (by omega), w32_id (z := 9 * f) (by omega) (by omega), if_pos (by omega), if_pos (by omega), x1, x2]
      by_cases hlt : (dA V S 0 f f).1 < (dA V S 0 r r).1
      · rw [if_pos hlt]
        rw [if_pos hlt] at g4
        exact T_mono (mo_60 hd hV hS k (r + 1) r M1 (mR_mD hM a4) hG1 (by omega) (by omega) (Or.inr ⟨by omega, by omega, by omega, g4⟩)) (fun p hp => ⟨hp.1, hp.2.1, mD_trans a4 hp.2.2⟩)
      · rw [if_neg hlt]
        rw [if_neg hlt] at g4
        exact T_mono (mo_60 hd hV hS k (r + 1) f M1 (mR_mD hM a4) hG1 (by omega) (by omega) (Or.inr ⟨by omega, by omega, by omega, g4⟩)) (fun p hp => ⟨hp.1, hp.2.1, mD_trans a4 hp.2.2⟩)
theorem mo_dPays (hd : 6 < d) (hV : vOK V) (hS : sOK V S) (hM : mR V S M) : w_T (eMo_dreamPays Lg d M) (fun p => p.1 = (dA V S 0 (dFst V S) (dFst V S)).1 ∧ (∀ j : Nat, (j : Int) < vC V → p.2 371 j = (dC V S j).2) ∧ mD M p.2) := by
  have hC := hV.2.1
  have hR := hV.2.2.1
  refine T_le (eMo_dreamPays_E (by omega)) ?_
  rw [hM.1.1.1, w32_id (by omega) (by omega)]
  refine mo_7 hd hV hS (vC V - 1).toNat (vC V - 1) M hM (fun c' b' r' g0 g1 g2 g3 g4 g5 hp => by omega) (by omega) (by omega) (fun M1 a1 a2 => ?_)
  exact T_mono (mo_60 hd hV hS (vR V).toNat 0 (-1) M1 (mR_mD hM a2) ⟨a1, fun r' g0 g1 => by omega⟩ (by omega) (by omega) (Or.inl ⟨rfl, rfl⟩)) (fun p hp => ⟨hp.1, hp.2.1, mD_trans a2 hp.2.2⟩)
theorem m_dream (hd : 7 < d) (hV : vOK V) (hS : sOK V S) (hM : mR V S M) {c : Int} : w_T (eMo_dream Lg d c M) (fun p => p.1 = qDream V S c ∧ qM M p.2) := by
  have hC := hV.2.1
  have e6 : M 319 60 = 1 := hM.1.1.2.2.2.2.trans hV.1
  refine T_le (eMo_dream_E (by omega)) ?_
  simp only [bz_b0]
  rw [e6, hM.1.1.1, w32_id (z := vC V - 1) (by omega) (by omega), if_neg (by decide)]
  unfold qDream
  by_cases h1 : c = -1
  · rw [if_pos h1, if_pos h1]
    refine T_seq (mo_dPays (by omega) hV hS hM) ?_
    rintro ⟨p1, p2⟩ ⟨a1, _, a3⟩
    rw [if_pos h1]
    exact T_some ⟨a1, mD_qM a3⟩
  · rw [if_neg h1, if_neg h1]
    by_cases h2 : 0 ≤ c ∧ c < vC V
    · rw [if_neg (fun h => h (by omega)), if_pos h2]
      refine T_seq (mo_dPays (by omega) hV hS hM) ?_
      rintro ⟨p1, p2⟩ ⟨_, a2, a3⟩
      rw [if_neg h1, if_pos (by omega)]
      exact T_some ⟨a2 c.toNat (by omega), mD_qM a3⟩
    · rw [if_pos (by omega), if_neg h2]
      exact T_some ⟨rfl, qM_refl _⟩
end DM

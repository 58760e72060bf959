/-! QUERIES: dream, the class -/
abbrev dI (c b r : Int) : Nat := Int.toNat (64 * c + 8 * b + r)
/-- filled down to column c, there up to (b, r) -/
def dG (V : bz_M) (S : Nat → Int) (A B : Nat → Int) (c b r : Int) : Prop := ∀ c' b' r', 0 ≤ c' → c' < vC V → 0 ≤ b' → b' < vR V → 0 ≤ r' → r' < vR V → (c < c' ∨ (c' = c ∧ (b' < b ∨ (b' = b ∧ r' < r)))) → A (dI c' b' r') = (dA V S c' b' r').1 ∧ (c' < vC V - 1 → B (dI c' b' r') = (dA V S c' b' r').2)
section DS
variable {Lg d v : Nat} {V M M0 M' : bz_M} {S : Nat → Int}
def dFrm (M M' : bz_M) : Prop := ∀ p, ¬ cScr p → p ≠ 296 → p ≠ 297 → p ≠ 298 → M' p = M p
theorem dFrm_refl (M : bz_M) : dFrm M M := fun _ _ _ _ _ => rfl
theorem dFrm_trans {A B C : bz_M} (h : dFrm A B) (g : dFrm B C) : dFrm A C := fun p a b c e => (g p a b c e).trans (h p a b c e)
theorem dFrm_qC (h : dFrm M M') : qC M M' := qC_of (fun p hp => h p (by omega) (by omega) (by omega) (by omega))
theorem dr_look (hd : 2 < d) (hv : bz_oV v) (hV : vOK V) (hS : sOK V S) (h9 : S 0 ≤ 999) (hM : cR V S 131 148 v M) {c b r : Int} (hc0 : 0 ≤ c) (hc : c < vC V) (hb : 0 ≤ b ∧ b < vR V) (hr : 0 ≤ r ∧ r < vR V) (hG : dG V S (M 297) (M 298) c b r) : w_T (eDr_look Lg d c b r (sPay V S c) M) (fun M' => dG V S (M' 297) (M' 298) c b (r + 1) ∧ dFrm M M') := by
  have hC := hV.2.1
  have hR := hV.2.2.1
  have wa : bz_w32 (bz_w32 (bz_w32 (bz_w32 (c * 8) + b) * 8) + r) = 64 * c + 8 * b + r := w_at (by omega) (by omega) (by omega)
  -- one more place
  have ext : ∀ M' : bz_M, M' 297 (dI c b r) = (dA V S c b r).1 → (c < vC V - 1 → M' 298 (dI c b r) = (dA V S c b r).2) → (∀ j, j ≠ dI c b r → M' 297 j = M 297 j ∧ M' 298 j = M 298 j) → dG V S (M' 297) (M' 298) c b (r + 1) := by
    intro M' z1 z2 z3 c' b' r' g0 g1 g2 g3 g4 g5 hp
    by_cases e : c' = c ∧ b' = b ∧ r' = r
    · obtain ⟨rfl, rfl, rfl⟩ := e
      exact ⟨z1, z2⟩
    · have hne : dI c' b' r' ≠ dI c b r := by unfold dI; omega
      rw [(z3 _ hne).1, (z3 _ hne).2]
      exact hG c' b' r' g0 g1 g2 g3 g4 g5 (by omega)
  refine T_le (eDr_look_E (by omega) hv) ?_
  rw [if_pos hM.1, hM.2.1.1.1, w32_id (z := vC V - 1) (by omega) (by omega), wa, if_pos (show (0 : Int) ≤ 64 * c + 8 * b + r ∧ 64 * c + 8 * b + r < 640 by omega)]
  by_cases hl : c = vC V - 1
  · rw [if_pos hl]
    have hbb := (sBendBy_is hV hS (c := c) hc0 hc hb hr hr).2
    refine T_seq (ri_bendBy (by omega) hr131 hv hV hS h9 hM hc0 hc hb hr hr) ?_
    rintro ⟨p1, p2⟩ ⟨a1, a2⟩
    dsimp only at a1 a2 ⊢
    have f7 : p2 297 = M 297 := a2 297 (by decide)
    have f8 : p2 298 = M 298 := a2 298 (by decide)
    have fin : ∀ y, y = (dA V S c b r).1 → dG V S (bz_up p2 297 (64 * c + 8 * b + r).toNat y 297) (bz_up p2 297 (64 * c + 8 * b + r).toNat y 298) c b (r + 1) ∧ dFrm M (bz_up p2 297 (64 * c + 8 * b + r).toNat y) := by
      intro y hy
      refine ⟨ext _ ?_ (fun h => by omega) (fun j hj => ⟨?_, ?_⟩), fun p g1 g2 g3 g4 => by rw [bz_up_fn g3, a2 p g1]⟩
      · rw [bz_up_eq]; exact hy
      · rw [bz_up_nk hj, f7]
      · rw [bz_up_nr (by decide), f8]
    have ed : (dA V S c b r).1 = if sBendBy V S c b r r = 0 then 0 else sPay V S c := by rw [hl]; rw [dA_last]
    rw [a1]
    rcases hbb with g | g
    · rw [if_pos g, if_pos (by omega)]; refine T_some ?_; exact fin 0 (by rw [ed, if_pos g])
    · rw [if_neg (by rw [g]; decide), if_pos (by omega)]; refine T_some ?_; exact fin _ (by rw [ed, if_neg (by rw [g]; decide)])
  · rw [if_neg hl]
    have kf : ∀ p, p ≠ 297 → bz_up M 297 (64 * c + 8 * b + r).toNat (-1) p = M p := fun p h => bz_up_fn h
    refine dr_lookL hd hv hV hS h9 hc0 (by omega) hb hr (vR V).toNat 0 (-1, -1) _ (cR_qC hv hM (qC_of (fun p hp => kf p (by omega)))) (fun x y g0 g1 g2 g3 => ?_) (by omega) (by omega) (Or.inl rfl) (bz_up_eq _ _ _ _) (fun h => absurd rfl h) ?_
    · rw [bz_up_nk (by omega)]
      exact (hG (c + 1) x y (by omega) (by omega) g0 g1 g2 g3 (by omega)).1
    · intro M' r1 r2 r3 r4
      have es := dA_step (S := S) hV (b := b) (r := r) hc0 (show c < vC V - 1 by omega)
      have hbd := (dA_bd (S := S) hV hc0 hc hb.1 hb.2 hr.1 hr.2).2 (by omega)
      rw [← es] at r1 r2
      refine ⟨ext M' r1 (fun _ => r2 (by omega)) (fun j hj => ?_), fun p g1 g2 g3 g4 => by rw [r4 p g1 g3 g4, kf p g3]⟩
      rw [(r3 j hj).1, (r3 j hj).2, bz_up_nk hj, bz_up_nr (by decide)]
      exact ⟨rfl, rfl⟩
theorem dr_38 (hd : 3 < d) (hv : bz_oV v) (hV : vOK V) (hS : sOK V S) (h9 : S 0 ≤ 999) {c b : Int} (hc0 : 0 ≤ c) (hc : c < vC V) (hb : 0 ≤ b ∧ b < vR V) {Q : Int × bz_M → Prop} : ∀ (k : Nat) (r : Int) (M : bz_M), cR V S 131 148 v M → dG V S (M 297) (M 298) c b r → 0 ≤ r → r + k = vR V → (∀ M', dG V S (M' 297) (M' 298) c (b + 1) 0 → dFrm M M' → w_T (eDr_find_26 Lg d v c (sPay V S c) (b + 1) M') Q) → w_T (eDr_find_38 Lg d v c (sPay V S c) b r M) Q
  | 0, r, M, hM, hG, h0, h1, hQ => by
    have hR := hV.2.2.1
    refine T_le (eDr_find_38_E (by omega) hv) ?_
    rw [hM.2.1.1.2.1, if_neg (by omega), w32_id (by omega) (by omega)]
    exact hQ M (fun c' b' r' g0 g1 g2 g3 g4 g5 hp => hG c' b' r' g0 g1 g2 g3 g4 g5 (by omega)) (dFrm_refl _)
  | k + 1, r, M, hM, hG, h0, h1, hQ => by
    have hR := hV.2.2.1
    refine T_le (eDr_find_38_E (by omega) hv) ?_
    rw [hM.2.1.1.2.1, if_pos (by omega), w32_id (z := r + 1) (by omega) (by omega)]
    refine T_seq (dr_look (by omega) hv hV hS h9 hM hc0 hc hb (by omega) hG) ?_
    rintro M1 ⟨a1, a2⟩
    exact dr_38 hd hv hV hS h9 hc0 hc hb k (r + 1) M1 (cR_qC hv hM (dFrm_qC a2)) a1 (by omega) (by omega) (fun M' b1 b2 => hQ M' b1 (dFrm_trans a2 b2))
theorem dr_26 (hd : 3 < d) (hv : bz_oV v) (hV : vOK V) (hS : sOK V S) (h9 : S 0 ≤ 999) {c : Int} (hc0 : 0 ≤ c) (hc : c < vC V) {Q : Int × bz_M → Prop} : ∀ (k : Nat) (b : Int) (M : bz_M), cR V S 131 148 v M → dG V S (M 297) (M 298) c b 0 → 0 ≤ b → b + k = vR V → (∀ M', dG V S (M' 297) (M' 298) (c - 1) 0 0 → dFrm M M' → w_T (eDr_find_12 Lg d v (c - 1) M') Q) → w_T (eDr_find_26 Lg d v c (sPay V S c) b M) Q
  | 0, b, M, hM, hG, h0, h1, hQ => by
    have hC := hV.2.1
    refine T_le (eDr_find_26_E hv) ?_
    rw [hM.2.1.1.2.1, if_neg (by omega), show c + (-1) = c - 1 by omega, w32_id (by omega) (by omega)]
    exact hQ M (fun c' b' r' g0 g1 g2 g3 g4 g5 hp => hG c' b' r' g0 g1 g2 g3 g4 g5 (by omega)) (dFrm_refl _)
  | k + 1, b, M, hM, hG, h0, h1, hQ => by
    have hR := hV.2.2.1
    refine T_le (eDr_find_26_E hv) ?_
    rw [hM.2.1.1.2.1, if_pos (by omega)]
    refine dr_38 hd hv hV hS h9 hc0 hc (by omega) (vR V).toNat 0 M hM hG (by omega) (by omega) (fun M1 a1 a2 => ?_)
    exact dr_26 hd hv hV hS h9 hc0 hc k (b + 1) M1 (cR_qC hv hM (dFrm_qC a2)) a1 (by omega) (by omega) (fun M' b1 b2 => hQ M' b1 (dFrm_trans a2 b2))
theorem dr_12 (hd : 3 < d) (hv : bz_oV v) (hV : vOK V) (hS : sOK V S) (h9 : S 0 ≤ 999) {Q : Int × bz_M → Prop} : ∀ (k : Nat) (c : Int) (M : bz_M), cR V S 131 148 v M → dG V S (M 297) (M 298) c 0 0 → c < vC V → c + 1 = k → (∀ M', dG V S (M' 297) (M' 298) (-1) 0 0 → dFrm M M' → w_T (eDr_find_82 Lg d v 0 1 M') Q) → w_T (eDr_find_12 Lg d v c M) Q
  | 0, c, M, hM, hG, h0, h1, hQ => by
    refine T_le (eDr_find_12_E (by omega)) ?_
    rw [if_pos (by omega)]
    have e : c = -1 := by omega
    rw [e] at hG
    exact hQ M hG (dFrm_refl _)
  | k + 1, c, M, hM, hG, h0, h1, hQ => by
    have hR := hV.2.2.1
    refine T_le (eDr_find_12_E (by omega)) ?_
    rw [if_neg (by omega)]
    refine T_run (ri_payOf (by omega) hr131 hv hV hM) ?_
    refine dr_26 hd hv hV hS h9 (by omega) h0 (vR V).toNat 0 M hM hG (by omega) (by omega) (fun M1 a1 a2 => ?_)
    exact dr_12 hd hv hV hS h9 k (c - 1) M1 (cR_qC hv hM (dFrm_qC a2)) a1 (by omega) (by omega) (fun M' b1 b2 => hQ M' b1 (dFrm_trans a2 b2))
theorem dF_rg : ∀ (k : Nat) (r f : Int), 0 ≤ r → r + k = vR V → 0 ≤ f → f < vR V → 0 ≤ dF V S k r f ∧ dF V S k r f < vR V
  | 0, _, _, _, _, h2, h3 => ⟨h2, h3⟩
  | k + 1, r, f, h0, h1, h2, h3 => by
    unfold dF
    refine dF_rg k (r + 1) _ (by omega) (by omega) ?_ ?_
    · split <;> omega
    · split <;> omega
theorem dFst_rg (hV : vOK V) : 0 ≤ dFst V S ∧ dFst V S < vR V := by
  have hR := hV.2.2.1
  exact dF_rg (vR V - 1).toNat 1 0 (by omega) (by omega) (by omega) (by omega)
theorem dC_rg (hV : vOK V) : ∀ (c : Nat), (c : Int) < vC V → (0 ≤ (dC V S c).1 ∧ (dC V S c).1 < vR V) ∧ (0 ≤ (dC V S c).2 ∧ (dC V S c).2 < vR V)
  | 0, _ => ⟨dFst_rg hV, dFst_rg hV⟩
  | c + 1, h => by
    have ih := dC_rg hV c (by omega)
    unfold dC
    exact ⟨ih.2, (dA_bd (S := S) hV (c := (c : Int)) (by omega) (by omega) ih.1.1 ih.1.2 ih.2.1 ih.2.2).2 (by push_cast at h; omega)⟩
theorem dr_137 (hd : 0 < d) (hv : bz_oV v) (hV : vOK V) : ∀ (k : Nat) (c : Nat) (M : bz_M), cR V S 131 148 v M → dG V S (M 297) (M 298) (-1) 0 0 → 1 ≤ c → (c : Int) + k = vC V → (∀ j, j < c → M 296 j = (dC V S j).2) → w_T (eDr_find_137 Lg d v (dFst V S) (c : Int) M) (fun p => p.1 = (dA V S 0 (dFst V S) (dFst V S)).1 ∧ (∀ j : Nat, (j : Int) < vC V → p.2 296 j = (dC V S j).2) ∧ dFrm M p.2)
  | 0, c, M, hM, hG, h0, h1, hc => by
    have hC := hV.2.1
    have hR := hV.2.2.1
    have hf := dFst_rg (S := S) hV
    refine T_le (eDr_find_137_E (by omega) hv) ?_
    rw [hM.2.1.1.1, if_neg (by omega), w_at (c := 0) (by omega) (by omega) (by omega), if_pos (by omega)]
    refine T_some ⟨(hG 0 (dFst V S) (dFst V S) (by omega) (by omega) hf.1 hf.2 hf.1 hf.2 (by omega)).1, fun j hj => hc j (by omega), dFrm_refl _⟩
  | k + 1, c, M, hM, hG, h0, h1, hc => by
    have hC := hV.2.1
    have hR := hV.2.2.1
    obtain ⟨a, rfl⟩ : ∃ a, c = a + 1 := ⟨c - 1, by omega⟩
    have hr := dC_rg (S := S) hV a (by push_cast at h1; omega)
    have w1 : bz_w32 (((a + 1 : Nat) : Int) - 1) = (a : Int) := by rw [w32_id (by omega) (by omega)]; omega
    have w2 : bz_w32 (((a + 1 : Nat) : Int) - 2) = (a : Int) - 1 := by rw [w32_id (by omega) (by omega)]; omega
    have w3 : bz_w32 (((a + 1 : Nat) : Int) + 1) = ((a + 2 : Nat) : Int) := by rw [w32_id (by omega) (by omega)]; omega
    have eb : M 296 (Int.toNat (max ((a : Int) - 1) 0)) = (dC V S a).1 := by
      cases a with
      | zero => rw [show Int.toNat (max (((0 : Nat) : Int) - 1) 0) = 0 by omega, hc 0 (by omega)]; rfl
      | succ a => rw [show Int.toNat (max (((a + 1 : Nat) : Int) - 1) 0) = a by omega, hc a (by omega)]; rfl
    have ea : M 296 (Int.toNat (a : Int)) = (dC V S a).2 := by rw [Int.toNat_natCast]; exact hc a (by omega)
    refine T_le (eDr_find_137_E (by omega) hv) ?_
    rw [hM.2.1.1.1, if_pos (by omega), w1, w2, w3, if_pos (by omega), if_pos (by omega), eb, ea, w_at (by omega) (by omega) (by omega), if_pos (by omega), if_pos (by omega), (hG (a : Int) (dC V S a).1 (dC V S a).2 (by omega) (by push_cast at h1; omega) hr.1.1 hr.1.2 hr.2.1 hr.2.2 (by omega)).2 (by push_cast at h1; omega), Int.toNat_natCast]
    have kf : ∀ p, p ≠ 296 → bz_up M 296 (a + 1) (dA V S (a : Int) (dC V S a).1 (dC V S a).2).2 p = M p := fun p h => bz_up_fn h
    refine T_mono (dr_137 hd hv hV k (a + 2) _ (cR_qC hv hM (qC_of (fun p hp => kf p (by omega)))) (by rw [kf 297 (by decide), kf 298 (by decide)]; exact hG) (by omega) (by push_cast at h1 ⊢; omega) (fun j hj => ?_)) (fun p hp => ⟨hp.1, hp.2.1, dFrm_trans (fun q _ g2 _ _ => kf q g2) hp.2.2⟩)
    rw [bz_up_rk]
    by_cases e : j = a + 1
    · rw [if_pos ⟨rfl, e⟩, e]; rfl
    · rw [if_neg (fun h => e h.2)]; exact hc j (by omega)
theorem dr_82 (hd : 0 < d) (hv : bz_oV v) (hV : vOK V) : ∀ (k : Nat) (r f : Int) (M : bz_M), cR V S 131 148 v M → dG V S (M 297) (M 298) (-1) 0 0 → 1 ≤ r → r + k = vR V → 0 ≤ f → f < vR V → dF V S k r f = dFst V S → w_T (eDr_find_82 Lg d v f r M) (fun p => p.1 = (dA V S 0 (dFst V S) (dFst V S)).1 ∧ (∀ j : Nat, (j : Int) < vC V → p.2 296 j = (dC V S j).2) ∧ dFrm M p.2)
  | 0, r, f, M, hM, hG, h0, h1, h2, h3, hf => by
    have hC := hV.2.1
    refine T_le (eDr_find_82_E hd hv) ?_
    rw [hM.2.1.1.2.1, if_neg (by omega)]
    have e : f = dFst V S := hf
    rw [e]
    have kf : ∀ p, p ≠ 296 → bz_up M 296 0 (dFst V S) p = M p := fun p h => bz_up_fn h
    refine T_mono (dr_137 hd hv hV (vC V - 1).toNat 1 _ (cR_qC hv hM (qC_of (fun p hp => kf p (by omega)))) (by rw [kf 297 (by decide), kf 298 (by decide)]; exact hG) (by omega) (by omega) (fun j hj => ?_)) (fun p hp => ⟨hp.1, hp.2.1, dFrm_trans (fun q _ g2 _ _ => kf q g2) hp.2.2⟩)
    rw [show j = 0 by omega, bz_up_eq]; rfl
  | k + 1, r, f, M, hM, hG, h0, h1, h2, h3, hf => by
    have hC := hV.2.1
    have hR := hV.2.2.1
    refine T_le (eDr_find_82_E hd hv) ?_
    rw [hM.2.1.1.2.1, if_pos (by omega), w_at (c := 0) (b := r) (r := r) (by omega) (by omega) (by omega), w_at (c := 0) (b := f) (r := f) (by omega) (by omega) (by omega), if_pos (by omega), if_pos (by omega), (hG 0 f f (by omega) (by omega) h2 h3 h2 h3 (by omega)).1, (hG 0 r r (by omega) (by omega) (by omega) (by omega) (by omega) (by omega) (by omega)).1, w32_id (by omega) (by omega)]
    unfold dF at hf
    by_cases hlt : (dA V S 0 f f).1 < (dA V S 0 r r).1
    · rw [if_pos hlt]
      rw [if_pos hlt] at hf
      exact dr_82 hd hv hV k (r + 1) r M hM hG (by omega) (by omega) (by omega) (by omega) hf
    · rw [if_neg hlt]
      rw [if_neg hlt] at hf
      exact dr_82 hd hv hV k (r + 1) f M hM hG (by omega) (by omega) h2 h3 hf
theorem dr_find (hd : 3 < d) (hv : bz_oV v) (hV : vOK V) (hS : sOK V S) (h9 : S 0 ≤ 999) (hM : cR V S 131 148 v M) : w_T (eDr_find Lg d M) (fun p => p.1 = (dA V S 0 (dFst V S) (dFst V S)).1 ∧ (∀ j : Nat, (j : Int) < vC V → p.2 296 j = (dC V S j).2) ∧ qC M p.2) := by
  have hC := hV.2.1
  have hR := hV.2.2.1
  refine T_le (eDr_find_E hv) ?_
  rw [if_pos hM.1, hM.2.1.1.1, w32_id (by omega) (by omega)]
  refine dr_12 hd hv hV hS h9 (vC V).toNat (vC V - 1) M hM (fun c' b' r' g0 g1 g2 g3 g4 g5 hp => by omega) (by omega) (by omega) (fun M1 a1 a2 => ?_)
  exact T_mono (dr_82 (by omega) hv hV (vR V - 1).toNat 1 0 M1 (cR_qC hv hM (dFrm_qC a2)) a1 (by omega) (by omega) (by omega) (by omega) rfl) (fun p hp => ⟨hp.1, hp.2.1, dFrm_qC (dFrm_trans a2 hp.2.2)⟩)
theorem c_dream (hd : 4 < d) (hv : bz_oV v) (hV : vOK V) (hS : sOK V S) (h9 : S 0 ≤ 999) (hM : cR V S 131 148 v M) {c : Int} : w_T (eBr_dream Lg d c M) (fun p => p.1 = qDream V S c ∧ qC M p.2) := by
  have hC := hV.2.1
  refine T_le (eBr_dream_E (by omega) hv) ?_
  simp only [bz_b0]
  rw [if_pos hM.1, hM.2.1.1.1, if_neg (by omega)]
  unfold qDream
  by_cases h1 : c = -1
  · rw [if_pos h1, if_pos h1]
    refine T_seq (dr_find (by omega) hv hV hS h9 hM) ?_
    rintro ⟨p1, p2⟩ ⟨a1, _, a3⟩
    rw [if_pos h1]
    exact T_some ⟨a1, a3⟩
  · rw [if_neg h1, if_neg h1]
    by_cases h2 : 0 ≤ c ∧ c < vC V
    · rw [if_neg (fun h => h h2), if_pos h2]
      refine T_seq (dr_find (by omega) hv hV hS h9 hM) ?_
      rintro ⟨p1, p2⟩ ⟨_, a2, a3⟩
      rw [if_neg h1, if_pos (by omega)]
      exact T_some ⟨a2 c.toNat (by omega), a3⟩
    · rw [if_pos h2, if_neg h2]
      exact T_some ⟨rfl, qC_refl _⟩
end DS

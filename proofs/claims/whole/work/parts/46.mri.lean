/-! THE REFERENCE'S RIVER -/
def mFz (M M' : bz_M) : Prop := (∀ q, q ≠ 410 → q ≠ 319 → M' q = M q) ∧ ∀ k, k ≠ 61 → k ≠ 64 → k ≠ 65 → k ≠ 66 → k ≠ 67 → k ≠ 68 → k ≠ 127 → M' 319 k = M 319 k
theorem mFz_refl (M : bz_M) : mFz M M := ⟨fun _ _ _ => rfl, fun _ _ _ _ _ _ _ _ => rfl⟩
theorem mFz_trans {A B C : bz_M} (h : mFz A B) (g : mFz B C) : mFz A C := ⟨fun q a b => (g.1 q a b).trans (h.1 q a b), fun k a b c d e f i => (g.2 k a b c d e f i).trans (h.2 k a b c d e f i)⟩
theorem mFz_up {M : bz_M} {k : Nat} {x : Int} (h : k = 61 ∨ k = 64 ∨ k = 65 ∨ k = 66 ∨ k = 67 ∨ k = 68 ∨ k = 127) : mFz M (bz_up M 319 k x) := ⟨fun q _ h2 => bz_up_fn h2, fun j a b c d e f i => bz_up_nk (by omega) _⟩
theorem mFz_fr {M M' : bz_M} (h : mFr M M') : mFz M M' := ⟨h.1, fun k _ _ _ _ _ _ i => h.2 k i⟩
def mV (V M : bz_M) : Prop := (M 355 3 = vC V ∧ M 355 4 = vR V ∧ M 355 5 = vH V ∧ M 319 47 = vL V ∧ M 319 60 = V 319 60) ∧ (∀ k, 80 ≤ k → M 358 k = V 358 k) ∧ (∀ k, 25 ≤ k → M 357 k = V 357 k) ∧ (∀ k, 2 ≤ k → M 361 k = V 361 k ∧ M 362 k = V 362 k) ∧ (∀ k, 1600 ≤ k → M 363 k = V 363 k)
def mS (S : Nat → Int) (M : bz_M) : Prop := ∀ k, k < 182 → M 364 k = S k
def mR (V : bz_M) (S : Nat → Int) (M : bz_M) : Prop := mV V M ∧ mS S M
section MRI
variable {Lg d : Nat} {V M M' : bz_M} {S : Nat → Int}
theorem mV_co (h : mV V M) (h1 : M' 355 = M 355) (h2 : M' 319 47 = M 319 47) (h3 : M' 319 60 = M 319 60) (h4 : M' 358 = M 358) (h5 : M' 357 = M 357) (h6 : M' 361 = M 361) (h7 : M' 362 = M 362) (h8 : M' 363 = M 363) : mV V M' := by
  unfold mV at h ⊢
  rw [h1, h2, h3, h4, h5, h6, h7, h8]
  exact h
theorem mV_fz (h : mV V M) (f : mFz M M') : mV V M' := mV_co h (f.1 _ (by decide) (by decide)) (f.2 _ (by decide) (by decide) (by decide) (by decide) (by decide) (by decide) (by decide)) (f.2 _ (by decide) (by decide) (by decide) (by decide) (by decide) (by decide) (by decide)) (f.1 _ (by decide) (by decide)) (f.1 _ (by decide) (by decide)) (f.1 _ (by decide) (by decide)) (f.1 _ (by decide) (by decide)) (f.1 _ (by decide) (by decide))
theorem mR_fz (h : mR V S M) (f : mFz M M') : mR V S M' := ⟨mV_fz h.1 f, fun k hk => by rw [f.1 364 (by decide) (by decide)]; exact h.2 k hk⟩
theorem mr_row (h : mR V S M) {c : Int} (h0 : 0 ≤ c) (h1 : c < 10) : M 364 (Int.toNat (2 + c)) = sRow S c := h.2 _ (by omega)
theorem mr_rowm (h : mR V S M) {c : Int} (h0 : 1 ≤ c) (h1 : c < 10) : M 364 (Int.toNat (1 + c)) = sRow S (c - 1) := (h.2 _ (by omega)).trans (sRow_m1 S c)
theorem mr_rowp (h : mR V S M) {c : Int} (h0 : 0 ≤ c) (h1 : c < 9) : M 364 (Int.toNat (3 + c)) = sRow S (c + 1) := (h.2 _ (by omega)).trans (sRow_p1 S c)
theorem mr_be (h : mR V S M) {c : Int} (h0 : 0 ≤ c) (h1 : c < 10) : (if c = 0 then M 364 (Int.toNat (2 + c)) else M 364 (Int.toNat (1 + c))) = sBe S c := by
  unfold sBe
  split
  · exact mr_row h h0 h1
  · exact mr_rowm h (by omega) h1
theorem mr_bh (hV : vOK V) (h : mR V S M) {c : Int} (h0 : 0 ≤ c) (h1 : c < vC V) : (if c = bz_w32 (M 355 3 - 1) then M 364 (Int.toNat (2 + c)) else M 364 (Int.toNat (3 + c))) = sBh V S c := by
  have hC := hV.2.1
  unfold sBh
  rw [h.1.1.1, w32_id (by omega) (by omega)]
  split
  · exact mr_row h h0 (by omega)
  · exact mr_rowp h h0 (by omega)
theorem mr_turnBy (hV : vOK V) (h : mR V S M) {c b r e : Int} (hb : 0 ≤ b ∧ b < 8) (hr : 0 ≤ r ∧ r < 8) (he : 0 ≤ e ∧ e < 8) : (if 0 < c ∧ c < bz_w32 (M 355 3 - 1) then bz_abs (bz_w32 (bz_w32 (b + e) - bz_w32 (2 * r))) else 0) = pTurn V c b r e := by
  have hC := hV.2.1
  unfold pTurn
  rw [h.1.1.1, w32_id (z := vC V - 1) (by omega) (by omega), w32_id (z := b + e) (by omega) (by omega), w32_id (z := 2 * r) (by omega) (by omega), w32_id (z := b + e - 2 * r) (by omega) (by omega), bz_abs_p (by omega) (by omega)]
theorem mo_turn (hd : 2 < d) (hV : vOK V) (hS : sOK V S) (hM : mR V S M) {c : Int} (h0 : 0 ≤ c) (h1 : c < vC V) : eMo_turnOf Lg d c M = some (sTurn V S c, M) := by
  have hC := hV.2.1
  have hR := hV.2.2.1
  have b1 := hS.2.2.1 c h0 h1
  have b2 := sBe_bd hS h0 h1
  have b3 := sBh_bd hS h0 h1
  refine eMo_turnOf_E hd _ ?_
  rw [if_pos (by omega), mr_be hM h0 (by omega), mr_bh hV hM h0 h1, w32_id (z := 2 + c) (by omega) (by omega), if_pos (by omega), mr_row hM h0 (by omega), mr_turnBy hV hM (by omega) (by omega) (by omega)]
  rfl
theorem mr_of (hM : mR V S M) {l : Int} (h0 : 0 ≤ l) (h1 : l < 5) : M 364 (Int.toNat (172 + 2 * l)) = sOf S l ∧ M 364 (Int.toNat (173 + 2 * l)) = sPu S l := ⟨hM.2 _ (by omega), hM.2 _ (by omega)⟩
theorem mr_lord (hM : mR V S M) {l : Int} (h0 : 0 ≤ l) : M 357 (Int.toNat (25 + 5 * l)) = vFr V l ∧ M 357 (Int.toNat (26 + 5 * l)) = vTo V l ∧ M 357 (Int.toNat (27 + 5 * l)) = vPa V l ∧ M 357 (Int.toNat (28 + 5 * l)) = vJo V l := ⟨hM.1.2.2.1 _ (by omega), hM.1.2.2.1 _ (by omega), hM.1.2.2.1 _ (by omega), hM.1.2.2.1 _ (by omega)⟩
theorem mo_payL (hd : 1 < d) (hV : vOK V) (hM : mR V S M) {c : Int} : ∀ (k : Nat) (l n : Int), 0 ≤ l → l + k = vL V → 0 ≤ n → n + 99 * k ≤ 1000 → eMo_payOf_4 Lg d c n l M = some (sPayL V S c k l n, M)
  | 0, l, n, h0, h1, h2, h3 => by
    refine eMo_payOf_4_E hd _ ?_
    rw [hM.1.1.2.2.2.1, if_neg (by omega)]
    rfl
  | k + 1, l, n, h0, h1, h2, h3 => by
    have hL := hV.2.2.2.2.1
    have ho := sOffer_bd (S := S) hV h0 (by omega)
    have e := mr_lord hM h0
    have e2 := mr_of hM h0 (by omega)
    refine eMo_payOf_4_E hd _ ?_
    rw [hM.1.1.2.2.2.1, if_pos (by omega), if_pos (by omega), e.1, e.2.1, e.2.2.1, e2.1, e2.2, w32_id (z := l + 1) (by omega) (by omega)]
    simp only [bz_b0]
    unfold sPayL
    by_cases hc : vFr V l ≤ c ∧ c ≤ vTo V l
    · rw [if_neg (fun h => h hc), if_pos hc]
      show eMo_payOf_4 Lg d c (bz_w32 (n + sOffer V S l)) (l + 1) M = _
      rw [w32_id (by omega) (by omega)]
      exact mo_payL hd hV hM k (l + 1) _ (by omega) (by omega) (by omega) (by omega)
    · rw [if_pos hc, if_neg hc]
      exact mo_payL hd hV hM k (l + 1) _ (by omega) (by omega) (by omega) (by omega)
theorem mo_pay (hd : 1 < d) (hV : vOK V) (hM : mR V S M) {c : Int} : eMo_payOf Lg d c M = some (sPay V S c, M) := by
  have hL := hV.2.2.2.2.1
  exact eMo_payOf_E _ (mo_payL hd hV hM (vL V).toNat 0 0 (by omega) (by omega) (by omega) (by omega))
theorem zSeg_map {A : Nat → Int} {f : Nat → Int} : ∀ (n k : Nat), (∀ i, i < n → A (k + i) = f i) → zSeg A k ((List.range n).map f)
  | 0, _, _ => trivial
  | n + 1, k, h => by
    rw [List.range_succ_eq_map, List.map_cons, List.map_map]
    refine ⟨h 0 (by omega), zSeg_map n (k + 1) (fun i hi => ?_)⟩
    have := h (i + 1) (by omega)
    rw [show k + 1 + i = k + (i + 1) by omega]
    exact this
theorem mr_codes (hV : vOK V) (hM : mR V S M) {w : Nat} (hw : w < 2) (hn : V 361 (2 + w) ≠ -1) : zSeg (M 363) (1600 + (V 361 (2 + w)).toNat) (vOps V w) ∧ M 361 (2 + w) = ((V 361 (2 + w)).toNat : Int) ∧ M 362 (2 + w) = ((V 361 (2 + w)).toNat : Int) + ((vOps V w).length : Int) ∧ (V 361 (2 + w)).toNat + (vOps V w).length ≤ 1600 := by
  have h := hV.2.2.2.2.2.2.2.2.2 w hw hn
  have e := hM.1.2.2.2.1 (2 + w) (by omega)
  have hl : (vOps V w).length = (V 362 (2 + w) - V 361 (2 + w)).toNat := by unfold vOps; simp
  refine ⟨?_, by rw [e.1]; omega, by rw [e.2, hl]; omega, by rw [hl]; omega⟩
  exact zSeg_map _ _ (fun i hi => by rw [hM.1.2.2.2.2 _ (by omega)])
/-- what a part means to the reference -/
theorem mo_partE (hd : 2 < d) (hV : vOK V) (hM : mR V S M) {c r p : Int} (h0 : 0 ≤ c) (h1 : c < vC V) (h2 : 0 ≤ r) (h3 : r < vR V) (e64 : M 319 64 = c) (e65 : M 319 65 = r) (e66 : M 319 66 = sTurn V S c) (hp : 0 ≤ p) (hp2 : p ≤ 7) : eMo_qPartOf Lg d p 0 M = some (fE V S c r p, M) := by
  have hC := hV.2.1
  have hR := hV.2.2.1
  refine eMo_qPartOf_E (by omega) _ ?_
  have ww : bz_w32 (bz_w32 (8 * c) + r) = 8 * c + r := by rw [w32_id (z := 8 * c) (by omega) (by omega), w32_id (by omega) (by omega)]
  have w8 : bz_w32 (bz_w32 (80 + bz_w32 (8 * c)) + r) = 80 + (8 * c + r) := by rw [w32_id (z := 8 * c) (by omega) (by omega), w32_id (z := 80 + 8 * c) (by omega) (by omega), w32_id (by omega) (by omega)]; omega
  have wa : bz_w32 (12 + (8 * c + r)) = 12 + (8 * c + r) := w32_id (by omega) (by omega)
  have wb : bz_w32 (92 + (8 * c + r)) = 92 + (8 * c + r) := w32_id (by omega) (by omega)
  rw [e64, e65, e66, ww, w8, wa, wb]
  have hp : p = 0 ∨ p = 1 ∨ p = 2 ∨ p = 3 ∨ p = 4 ∨ p = 5 ∨ p = 6 ∨ p = 7 := by omega
  have g4 : M 358 (Int.toNat (80 + (8 * c + r))) = vSo V (8 * c + r) := hM.1.2.1 _ (by omega)
  have g5 : M 364 (Int.toNat (12 + (8 * c + r))) = sWi S (8 * c + r) := hM.2 _ (by omega)
  have g7 : M 364 (Int.toNat (92 + (8 * c + r))) = sEv S (8 * c + r) := hM.2 _ (by omega)
  have g3 : M 364 0 = S 0 := hM.2 0 (by omega)
  rw [g3, g4, g5, g7, mo_pay (by omega) hV hM]
  unfold fE
  rcases hp with rfl | rfl | rfl | rfl | rfl | rfl | rfl | rfl <;> simp
  · omega
  · omega
  · omega
theorem mo_eats (hd : 4 < d) (hV : vOK V) (hS : sOK V S) (hM : mR V S M) {c r : Int} (h0 : 0 ≤ c) (h1 : c < vC V) (h2 : 0 ≤ r) (h3 : r < vR V) : w_T (eMo_eatsOf Lg d c r M) (fun p => p.1 = sEats V S c r ∧ mFz M p.2) := by
  have hC := hV.2.1
  have hR := hV.2.2.1
  have hx := sEats_is hV hS h0 h1 h2 h3
  have a1 := sTurn_bd hV hS h0 h1
  have a3 := hV.2.2.2.2.2.1 (8 * c + r) (by omega) (by omega)
  have a4 := hS.2.2.2.1 (8 * c + r) (by omega) (by omega)
  have a5 := sPay_bd (S := S) hV (c := c)
  refine T_le (eMo_eatsOf_E (by omega)) ?_
  rw [(hM.1.2.2.2.1 2 (by omega)).1]
  by_cases hn : V 361 2 = -1
  · rw [if_pos hn]
    refine T_run (mo_pay (by omega) hV hM) ?_
    refine T_run (mo_turn (by omega) hV hS hM h0 h1) ?_
    have ww : bz_w32 (bz_w32 (8 * c) + r) = 8 * c + r := by rw [w32_id (z := 8 * c) (by omega) (by omega), w32_id (by omega) (by omega)]
    dsimp only
    have g4 : M 358 (Int.toNat (80 + (8 * c + r))) = vSo V (8 * c + r) := hM.1.2.1 _ (by omega)
    have g5 : M 364 (Int.toNat (12 + (8 * c + r))) = sWi S (8 * c + r) := hM.2 _ (by omega)
    rw [ww, w32_id (z := 80 + (8 * c + r)) (by omega) (by omega), w32_id (z := 12 + (8 * c + r)) (by omega) (by omega), if_pos (by omega), if_pos (by omega), g4, g5, w32_id (z := sPay V S c + sTurn V S c) (by omega) (by omega), w32_id (z := sPay V S c + sTurn V S c - vSo V (8 * c + r)) (by omega) (by omega), w32_id (by omega) (by omega)]
    refine T_some ⟨?_, mFz_refl _⟩
    have e : pEv (fE V S c r) g0 (oE V) [] = [sPay V S c + sTurn V S c - vSo V (8 * c + r) - sWi S (8 * c + r)] := by
      unfold oE
      rw [if_pos hn]
      simp [pEv, pStep, pJoin, fE]
      rw [pClip_id (z := sPay V S c + sTurn V S c) (by omega) (by omega), pClip_id (z := sPay V S c + sTurn V S c - vSo V (8 * c + r)) (by omega) (by omega), pClip_id (by omega) (by omega)]
    rw [hx.1] at e
    simp at e
    rw [e]
  · rw [if_neg hn]
    have hc := mr_codes hV hM (w := 0) (by omega) hn
    have f1 : mFz M (bz_up (bz_up M 319 64 c) 319 65 r) := mFz_trans (mFz_up (by omega)) (mFz_up (by omega))
    refine T_run (mo_turn (by omega) hV hS (mR_fz hM f1) h0 h1) ?_
    dsimp only
    have f2 := mFz_trans f1 (mFz_up (k := 66) (x := sTurn V S c) (by omega))
    have hM2 := mR_fz hM f2
    have ho : oE V = vOps V 0 := by unfold oE; rw [if_neg hn]
    have hc := mr_codes hV hM2 (w := 0) (by omega) hn
    rw [← ho] at hc
    refine T_seq (mo_codes (k := (V 361 (2 + 0)).toNat) (w := 0) (Ao := aE) (F := fE V S c r) (G := g0) (by omega) (Or.inl rfl) (fE_bd hV hS h0 h1 h2 h3) g0_bd ?_ (fun op ha h => ha ⟨by omega, h.2⟩) hV.2.2.2.2.2.2.2.1.2 hV.2.2.2.2.2.2.2.1.1 hc.1 hc.2.1 hc.2.2.1 hc.2.2.2 hx.1) ?_
    · intro p M3 fr hp1 hp2 ha
      have f3 : mFz (bz_up (bz_up (bz_up M 319 64 c) 319 65 r) 319 66 (sTurn V S c)) M3 := mFz_trans (mFz_trans (mFz_up (k := 61) (by omega)) (mFz_up (k := 127) (by omega))) (mFz_fr fr)
      unfold aE at ha
      refine mo_partE (by omega) hV (mR_fz hM2 f3) h0 h1 h2 h3 ?_ ?_ ?_ hp1 (by omega)
      · rw [fr.2 64 (by decide)]; simp [bz_up_rk]
      · rw [fr.2 65 (by decide)]; simp [bz_up_rk]
      · rw [fr.2 66 (by decide)]; simp [bz_up_rk]
    · rintro ⟨p1, p2⟩ ⟨e1, e2⟩
      exact T_some ⟨e1, mFz_trans f2 (mFz_trans (mFz_trans (mFz_up (k := 61) (by omega)) (mFz_up (k := 127) (by omega))) (mFz_fr e2))⟩
theorem mo_bendBy (hd : 4 < d) (hV : vOK V) (hS : sOK V S) (hM : mR V S M) {c b r h : Int} (h0 : 0 ≤ c) (h1 : c < vC V) (hb : 0 ≤ b ∧ b < vR V) (hr : 0 ≤ r ∧ r < vR V) (hh : 0 ≤ h ∧ h < vR V) : w_T (eMo_isBendBy Lg d c b r h M) (fun p => p.1 = sBendBy V S c b r h ∧ mFz M p.2) := by
  have hC := hV.2.1
  have hR := hV.2.2.1
  have hx := sBendBy_is hV hS h0 h1 hb hr hh
  have a1 := pTurn_bd (V := V) (c := c) (b := b) (r := r) (h := h) (by omega) (by omega) (by omega)
  refine T_le (eMo_isBendBy_E (by omega)) ?_
  rw [mr_turnBy hV hM (by omega) (by omega) (by omega), (hM.1.2.2.2.1 3 (by omega)).1]
  by_cases hn : V 361 3 = -1
  · rw [if_pos hn]
    have e : pEv (fB V S c b r h) g0 (oB V) [] = [bz_b (0 < pTurn V c b r h)] := by
      unfold oB
      rw [if_pos hn]
      simp [pEv, pStep, pJoin, fB]
    rw [hx.1] at e
    simp at e
    rw [e]
    unfold bz_b
    split
    · exact T_some ⟨rfl, mFz_up (by omega)⟩
    · exact T_some ⟨rfl, mFz_up (by omega)⟩
  · rw [if_neg hn]
    have f2 : mFz M (bz_up (bz_up (bz_up (bz_up (bz_up M 319 66 (pTurn V c b r h)) 319 64 c) 319 65 r) 319 67 b) 319 68 h) := mFz_trans (mFz_up (by omega)) (mFz_trans (mFz_up (by omega)) (mFz_trans (mFz_up (by omega)) (mFz_trans (mFz_up (by omega)) (mFz_up (by omega)))))
    have hM2 := mR_fz hM f2
    have ho : oB V = vOps V 1 := by unfold oB; rw [if_neg hn]
    have hc := mr_codes hV hM2 (w := 1) (by omega) hn
    rw [← ho] at hc
    refine T_seq (mo_codes (k := (V 361 (2 + 1)).toNat) (w := 1) (Ao := aB) (F := fB V S c b r h) (G := g0) (by omega) (Or.inr rfl) (fB_bd hV hS h0 h1 hb hr hh) g0_bd ?_ (fun op ha h => ha.2 ⟨by omega, h.2⟩) hV.2.2.2.2.2.2.2.2.1.2 hV.2.2.2.2.2.2.2.2.1.1 hc.1 hc.2.1 hc.2.2.1 hc.2.2.2 hx.1) ?_
    · intro p M3 fr hp1 hp2 ha
      have f3 : mFz (bz_up (bz_up (bz_up (bz_up (bz_up M 319 66 (pTurn V c b r h)) 319 64 c) 319 65 r) 319 67 b) 319 68 h) M3 := mFz_trans (mFz_trans (mFz_up (k := 61) (by omega)) (mFz_up (k := 127) (by omega))) (mFz_fr fr)
      have hM3 := mR_fz hM2 f3
      unfold aB at ha
      have e64 : M3 319 64 = c := by rw [fr.2 64 (by decide)]; simp [bz_up_rk]
      have e65 : M3 319 65 = r := by rw [fr.2 65 (by decide)]; simp [bz_up_rk]
      have e66 : M3 319 66 = pTurn V c b r h := by rw [fr.2 66 (by decide)]; simp [bz_up_rk]
      have e67 : M3 319 67 = b := by rw [fr.2 67 (by decide)]; simp [bz_up_rk]
      have e68 : M3 319 68 = h := by rw [fr.2 68 (by decide)]; simp [bz_up_rk]
      have g3 : M3 364 0 = S 0 := hM3.2 0 (by omega)
      have hp : p = 0 ∨ p = 1 ∨ p = 2 ∨ p = 3 ∨ p = 8 ∨ p = 9 := by omega
      refine eMo_qPartOf_E (by omega) _ ?_
      unfold fB
      rcases hp with rfl | rfl | rfl | rfl | rfl | rfl <;> simp [e64, e65, e66, e67, e68, g3]
    · rintro ⟨p1, p2⟩ ⟨e1, e2⟩
      dsimp only at e1 e2 ⊢
      have f4 := mFz_trans f2 (mFz_trans (mFz_trans (mFz_up (k := 61) (x := 1) (by omega)) (mFz_up (k := 127) (x := 0) (by omega))) (mFz_fr e2))
      simp only [lcmp_eq]
      rw [e1]
      rcases hx.2 with e | e
      · rw [e, if_neg (by decide)]; exact T_some ⟨rfl, f4⟩
      · rw [e, if_pos rfl]; exact T_some ⟨rfl, f4⟩
theorem mo_bend (hd : 5 < d) (hV : vOK V) (hS : sOK V S) (hM : mR V S M) {c : Int} (h0 : 0 ≤ c) (h1 : c < vC V) : w_T (eMo_isBend Lg d c M) (fun p => p.1 = sBend V S c ∧ mFz M p.2) := by
  have hC := hV.2.1
  have hR := hV.2.2.1
  have b1 := hS.2.2.1 c h0 h1
  have b2 := sBe_bd hS h0 h1
  have b3 := sBh_bd hS h0 h1
  refine T_le (eMo_isBend_E (by omega)) ?_
  rw [if_pos (by omega), mr_be hM h0 (by omega), mr_bh hV hM h0 h1, w32_id (z := 2 + c) (by omega) (by omega), if_pos (by omega), mr_row hM h0 (by omega)]
  refine T_seq (mo_bendBy (by omega) hV hS hM h0 h1 b2 b1 b3) ?_
  rintro ⟨p1, p2⟩ ⟨e1, e2⟩
  dsimp only at e1 e2 ⊢
  rw [if_pos (by rw [e1]; exact (sBendBy_is hV hS h0 h1 b2 b1 b3).2)]
  exact T_some ⟨e1, e2⟩
end MRI

/-! THE REFERENCE'S RIVER: a season -/
def mFm (M M' : bz_M) : Prop := (∀ q, q ≠ 410 → q ≠ 319 → q ≠ 364 → M' q = M q) ∧ (∀ k, k ≠ 61 → k ≠ 64 → k ≠ 65 → k ≠ 66 → k ≠ 67 → k ≠ 68 → k ≠ 127 → M' 319 k = M 319 k) ∧ ∀ k, 182 ≤ k → M' 364 k = M 364 k
theorem mFm_refl (M : bz_M) : mFm M M := ⟨fun _ _ _ _ => rfl, fun _ _ _ _ _ _ _ _ => rfl, fun _ _ => rfl⟩
theorem mFm_trans {A B C : bz_M} (h : mFm A B) (g : mFm B C) : mFm A C := ⟨fun q a b c => (g.1 q a b c).trans (h.1 q a b c), fun k a b c d e f i => (g.2.1 k a b c d e f i).trans (h.2.1 k a b c d e f i), fun k hk => (g.2.2 k hk).trans (h.2.2 k hk)⟩
theorem mFm_fz {M M' : bz_M} (h : mFz M M') : mFm M M' := ⟨fun q a b _ => h.1 q a b, h.2, fun k _ => by rw [h.1 364 (by decide) (by decide)]⟩
theorem mFm_up {M : bz_M} {k : Nat} {x : Int} (h : k < 182) : mFm M (bz_up M 364 k x) := ⟨fun q _ _ h2 => bz_up_fn h2, fun j _ _ _ _ _ _ _ => bz_up_nr (by decide) _, fun j hj => bz_up_nk (by omega) _⟩
def gColL (V : bz_M) (c : Int) : Nat → Int → (Nat → Int) → (Nat → Int) → (Nat → Int)
  | 0, _, _, G => G
  | k + 1, l, S, G => if vFr V l ≤ c ∧ c ≤ vTo V l then gColL V c k (l + 1) (upS S (Int.toNat (173 + 2 * l)) (sPu S l - sOffer V S l)) (upS G l.toNat (bz_w32 (G l.toNat + (vJo V l - sOffer V S l)))) else gColL V c k (l + 1) S G
def gCol (V : bz_M) (S : Nat → Int) (c : Int) (G : Nat → Int) : Nat → Int := gColL V c (vL V).toNat 0 S G
def gPaidL (V : bz_M) : Nat → Int → (Nat → Int) → (Nat → Int) → (Nat → Int)
  | 0, _, _, G => G
  | k + 1, c, S, G => gPaidL V k (c + 1) (if sBend V S c = 0 then S else (sCol V S c).1) (if sBend V S c = 0 then G else gCol V S c G)
section MPS
variable {Lg d : Nat} {V M M' : bz_M} {S : Nat → Int}
theorem mV_fm (h : mV V M) (f : mFm M M') : mV V M' := mV_co h (f.1 _ (by decide) (by decide) (by decide)) (f.2.1 _ (by decide) (by decide) (by decide) (by decide) (by decide) (by decide) (by decide)) (f.2.1 _ (by decide) (by decide) (by decide) (by decide) (by decide) (by decide) (by decide)) (f.1 _ (by decide) (by decide) (by decide)) (f.1 _ (by decide) (by decide) (by decide)) (f.1 _ (by decide) (by decide) (by decide)) (f.1 _ (by decide) (by decide) (by decide)) (f.1 _ (by decide) (by decide) (by decide))
theorem mo_near (hd : 1 < d) (hV : vOK V) (hS : sOK V S) (hM : mR V S M) {c r : Int} (h0 : 0 ≤ c) (h1 : c < vC V) (h2 : 0 ≤ r) (h3 : r < 20) : eMo_isNear Lg d c r M = some (bz_b ((c = 0 ∨ (-vH V ≤ sBe S c - r ∧ sBe S c - r ≤ vH V)) ∧ (c = vC V - 1 ∨ (-vH V ≤ sBh V S c - r ∧ sBh V S c - r ≤ vH V))), M) := by
  have hC := hV.2.1
  have hR := hV.2.2.1
  have hH := hV.2.2.2.1
  have b2 := sBe_bd hS h0 h1
  have b3 := sBh_bd hS h0 h1
  have k44 : eMo_isNear_44 Lg d c (sBh V S c - r) M = some (bz_b (c = vC V - 1 ∨ (-vH V ≤ sBh V S c - r ∧ sBh V S c - r ≤ vH V)), M) := by
    refine eMo_isNear_44_E (by omega) _ ?_
    rw [hM.1.1.1, hM.1.1.2.2.1, w32_id (z := vC V - 1) (by omega) (by omega), w32_id (z := -vH V) (by omega) (by omega)]
    simp only [bz_b0]
    unfold bz_b
    repeat' split
    all_goals first | rfl | (exfalso; omega)
  refine eMo_isNear_E hd _ ?_
  rw [if_pos (by omega), mr_be hM h0 (by omega), mr_bh hV hM h0 h1, hM.1.1.2.2.1, w32_id (z := sBh V S c - r) (by omega) (by omega), w32_id (z := sBe S c - r) (by omega) (by omega), w32_id (z := -vH V) (by omega) (by omega), k44]
  simp only [bz_b0]
  unfold bz_b
  repeat' split
  all_goals first | rfl | (exfalso; omega)
theorem mo_try (hd : 5 < d) (hV : vOK V) (hS : sOK V S) (hM : mR V S M) {c w : Int} {q : Int × Int} {Q : bz_M → Prop} (h0 : 0 ≤ c) (h1 : c < vC V) (hw : w = sRow S c - 1 ∨ w = sRow S c + 1) (hQ : ∀ M', mFz M M' → w_T (eMo_columnMoves_13 Lg d c (sTry V S c w q).1 (sTry V S c w q).2 (w + 2) M') Q) : w_T (eMo_columnMoves_13 Lg d c q.1 q.2 w M) Q := by
  have hC := hV.2.1
  have hR := hV.2.2.1
  have b1 := hS.2.2.1 c h0 h1
  refine T_le (eMo_columnMoves_13_E (by omega)) ?_
  rw [w32_id (z := 2 + c) (by omega) (by omega), if_pos (by omega), mr_row hM h0 (by omega), w32_id (z := sRow S c + 1) (by omega) (by omega), if_neg (by omega), hM.1.1.2.1, w32_id (z := vR V - 1) (by omega) (by omega), w32_id (z := w + 2) (by omega) (by omega)]
  simp only [bz_b0]
  unfold sTry at hQ
  by_cases hm1 : 0 ≤ w ∧ w ≤ vR V - 1
  · rw [if_neg (fun h => h hm1)]
    refine T_run (mo_near (by omega) hV hS hM h0 h1 (by omega) (by omega)) ?_
    simp only [bz_b0]
    by_cases hm2 : (c = 0 ∨ (-vH V ≤ sBe S c - w ∧ sBe S c - w ≤ vH V)) ∧ (c = vC V - 1 ∨ (-vH V ≤ sBh V S c - w ∧ sBh V S c - w ≤ vH V))
    · rw [if_neg (fun h => h hm2)]
      simp only [if_pos (show sMay V S c w from ⟨hm1, hm2⟩)] at hQ
      refine T_seq (mo_eats (by omega) hV hS hM h0 h1 (by omega) (by omega)) ?_
      rintro ⟨p1, p2⟩ ⟨e1, e2⟩
      dsimp only at e1 e2 ⊢
      simp only [lcmp_gt]
      have hQ2 := hQ p2 e2
      rw [e1]
      by_cases hq : q.2 < sEats V S c w
      · rw [if_pos hq]
        simp only [if_pos hq] at hQ2
        exact hQ2
      · rw [if_neg hq]
        simp only [if_neg hq] at hQ2
        exact hQ2
    · rw [if_pos hm2]
      simp only [if_neg (show ¬ sMay V S c w from fun h => hm2 h.2)] at hQ
      exact hQ M (mFz_refl _)
  · rw [if_pos hm1]
    simp only [if_neg (show ¬ sMay V S c w from fun h => hm1 h.1)] at hQ
    exact hQ M (mFz_refl _)
theorem mo_move (hd : 5 < d) (hV : vOK V) (hS : sOK V S) (hM : mR V S M) {c : Int} (h0 : 0 ≤ c) (h1 : c < vC V) : w_T (eMo_columnMoves Lg d c M) (fun M' => mR V (sMove V S c) M' ∧ mFm M M') := by
  have hC := hV.2.1
  have hR := hV.2.2.1
  have b1 := hS.2.2.1 c h0 h1
  refine T_le (eMo_columnMoves_E (by omega)) ?_
  rw [w32_id (z := 2 + c) (by omega) (by omega), if_pos (by omega), mr_row hM h0 (by omega), w32_id (z := sRow S c - 1) (by omega) (by omega)]
  refine mo_try (q := (-1, 0)) hd hV hS hM h0 h1 (Or.inl rfl) ?_
  intro M1 f1
  have hM1 := mR_fz hM f1
  rw [show sRow S c - 1 + 2 = sRow S c + 1 by omega]
  refine mo_try hd hV hS hM1 h0 h1 (Or.inr rfl) ?_
  intro M2 f2
  have hM2 := mR_fz hM1 f2
  refine T_le (eMo_columnMoves_13_E (by omega)) ?_
  rw [w32_id (z := 2 + c) (by omega) (by omega), if_pos (by omega), mr_row hM2 h0 (by omega), w32_id (z := sRow S c + 1) (by omega) (by omega), if_pos (by omega)]
  have eb : sTry V S c (sRow S c + 1) (sTry V S c (sRow S c - 1) (-1, 0)) = sBest V S c := rfl
  rw [eb]
  have f12 := mFm_trans (mFm_fz f1) (mFm_fz f2)
  by_cases hb : (sBest V S c).1 = -1
  · rw [if_pos hb]
    refine T_some ⟨?_, f12⟩
    unfold sMove
    rw [if_pos hb]
    exact hM2
  · rw [if_neg hb]
    have f3 := mFm_trans f12 (mFm_up (k := Int.toNat (2 + c)) (x := (sBest V S c).1) (by omega))
    refine T_some ⟨⟨mV_fm hM.1 f3, fun k hk => ?_⟩, f3⟩
    unfold sMove
    rw [if_neg hb, bz_up_rk]
    unfold upS
    by_cases hk2 : k = Int.toNat (2 + c)
    · rw [if_pos ⟨rfl, hk2⟩, if_pos hk2]
    · rw [if_neg (fun h => hk2 h.2), if_neg hk2]
      exact hM2.2 k hk
theorem mo_moves (hd : 6 < d) (hV : vOK V) {Q : bz_M → Prop} : ∀ (k : Nat) (c : Int) (S : Nat → Int) (M : bz_M), sOK V S → mR V S M → 0 ≤ c → c + k = vC V → (∀ M', mR V (sMoves V k c S) M' → mFm M M' → w_T (eMo_seasonGoes_23 Lg d 0 M') Q) → w_T (eMo_seasonGoes_2 Lg d c M) Q
  | 0, c, S, M, hS, hM, h0, h1, hQ => by
    refine T_le (eMo_seasonGoes_2_E (by omega)) ?_
    rw [hM.1.1.1, if_neg (by omega)]
    exact hQ M hM (mFm_refl _)
  | k + 1, c, S, M, hS, hM, h0, h1, hQ => by
    have hC := hV.2.1
    refine T_le (eMo_seasonGoes_2_E (by omega)) ?_
    rw [hM.1.1.1, if_pos (by omega), w32_id (z := c + 1) (by omega) (by omega)]
    refine T_seq (mo_move (by omega) hV hS hM h0 (by omega)) ?_
    rintro M1 ⟨g1, g2⟩
    exact mo_moves hd hV k (c + 1) (sMove V S c) M1 (sMove_ok hV hS h0 (by omega)) g1 (by omega) (by omega) (fun M' e1 e2 => hQ M' e1 (mFm_trans g2 e2))
theorem mo_evers (hd : 6 < d) (hV : vOK V) {Q : bz_M → Prop} : ∀ (k : Nat) (c : Int) (S : Nat → Int) (M : bz_M), sOK V S → mR V S M → 0 ≤ c → c + k = vC V → (∀ M', mR V (sEvers k c S) M' → mFm M M' → w_T (eMo_seasonGoes_78 Lg d 0 0 0 M') Q) → w_T (eMo_seasonGoes_23 Lg d c M) Q
  | 0, c, S, M, hS, hM, h0, h1, hQ => by
    refine T_le (eMo_seasonGoes_23_E (by omega)) ?_
    rw [hM.1.1.1, if_neg (by omega)]
    exact hQ M hM (mFm_refl _)
  | k + 1, c, S, M, hS, hM, h0, h1, hQ => by
    have hC := hV.2.1
    have hR := hV.2.2.1
    have b1 := hS.2.2.1 c h0 (by omega)
    have b2 := (hS.2.2.2.1 (8 * c + sRow S c) (by omega) (by omega)).2
    refine T_le (eMo_seasonGoes_23_E (by omega)) ?_
    have wc : bz_w32 (bz_w32 (92 + bz_w32 (8 * c)) + sRow S c) = 92 + 8 * c + sRow S c := by rw [w32_id (z := 8 * c) (by omega) (by omega), w32_id (z := 92 + 8 * c) (by omega) (by omega), w32_id (by omega) (by omega)]
    have e : M 364 (Int.toNat (92 + 8 * c + sRow S c)) = S (Int.toNat (92 + 8 * c + sRow S c)) := hM.2 _ (by omega)
    have e9 : sEv S (8 * c + sRow S c) = S (Int.toNat (92 + 8 * c + sRow S c)) := by unfold sEv; congr 2; omega
    rw [hM.1.1.1, if_pos (by omega), w32_id (z := 2 + c) (by omega) (by omega), if_pos (by omega), mr_row hM h0 (by omega), wc, if_pos (by omega), e, w32_id (z := c + 1) (by omega) (by omega), w32_id (z := S (Int.toNat (92 + 8 * c + sRow S c)) + 1) (by omega) (by omega)]
    have hok := sEver_ok hV hS h0 (show c < vC V by omega)
    by_cases h9 : S (Int.toNat (92 + 8 * c + sRow S c)) < 99
    · rw [if_pos h9]
      have f1 := mFm_up (M := M) (k := Int.toNat (92 + 8 * c + sRow S c)) (x := S (Int.toNat (92 + 8 * c + sRow S c)) + 1) (by omega)
      refine mo_evers hd hV k (c + 1) (sEver S c) _ hok ⟨mV_fm hM.1 f1, fun j hj => ?_⟩ (by omega) (by omega) (fun M' e1 e2 => hQ M' e1 (mFm_trans f1 e2))
      unfold sEver
      rw [if_pos h9, bz_up_rk]
      unfold upS
      by_cases hk2 : j = Int.toNat (92 + 8 * c + sRow S c)
      · rw [if_pos ⟨rfl, hk2⟩, if_pos hk2]
      · rw [if_neg (fun h => hk2 h.2), if_neg hk2]
        exact hM.2 j hj
    · rw [if_neg h9]
      refine mo_evers hd hV k (c + 1) (sEver S c) M hok ⟨hM.1, fun j hj => ?_⟩ (by omega) (by omega) hQ
      unfold sEver
      rw [if_neg h9]
      exact hM.2 j hj
def mFg (M M' : bz_M) : Prop := (∀ q, q ≠ 410 → q ≠ 319 → q ≠ 364 → q ≠ 367 → M' q = M q) ∧ (∀ k, k ≠ 61 → k ≠ 64 → k ≠ 65 → k ≠ 66 → k ≠ 67 → k ≠ 68 → k ≠ 127 → M' 319 k = M 319 k) ∧ ∀ k, 182 ≤ k → M' 364 k = M 364 k
theorem mFg_trans {A B C : bz_M} (h : mFg A B) (g : mFg B C) : mFg A C := ⟨fun q a b c e => (g.1 q a b c e).trans (h.1 q a b c e), fun k a b c d e f i => (g.2.1 k a b c d e f i).trans (h.2.1 k a b c d e f i), fun k hk => (g.2.2 k hk).trans (h.2.2 k hk)⟩
theorem mFg_fm {M M' : bz_M} (h : mFm M M') : mFg M M' := ⟨fun q a b c _ => h.1 q a b c, h.2.1, h.2.2⟩
theorem mFg_up {M : bz_M} {k : Nat} {x : Int} : mFg M (bz_up M 367 k x) := ⟨fun q _ _ _ h2 => bz_up_fn h2, fun j _ _ _ _ _ _ _ => bz_up_nr (by decide) _, fun j hj => bz_up_nr (by decide) _⟩
theorem mV_fg (h : mV V M) (f : mFg M M') : mV V M' := mV_co h (f.1 _ (by decide) (by decide) (by decide) (by decide)) (f.2.1 _ (by decide) (by decide) (by decide) (by decide) (by decide) (by decide) (by decide)) (f.2.1 _ (by decide) (by decide) (by decide) (by decide) (by decide) (by decide) (by decide)) (f.1 _ (by decide) (by decide) (by decide) (by decide)) (f.1 _ (by decide) (by decide) (by decide) (by decide)) (f.1 _ (by decide) (by decide) (by decide) (by decide)) (f.1 _ (by decide) (by decide) (by decide) (by decide)) (f.1 _ (by decide) (by decide) (by decide) (by decide))
theorem mo_colL (hd : 1 < d) (hV : vOK V) {c : Int} : ∀ (k : Nat) (l n : Int) (S : Nat → Int) (M : bz_M), sOK V S → mR V S M → 0 ≤ l → l + k = vL V → 0 ≤ n → n + 99 * k ≤ 100000 → w_T (eMo_bendPaid_4 Lg d c n l M) (fun p => p.1 = (sColL V c k l (S, n)).2 ∧ mR V (sColL V c k l (S, n)).1 p.2 ∧ p.2 367 = gColL V c k l S (M 367) ∧ mFg M p.2)
  | 0, l, n, S, M, hS, hM, h0, h1, h2, h3 => by
    refine T_le (eMo_bendPaid_4_E hd) ?_
    rw [hM.1.1.2.2.2.1, if_neg (by omega)]
    exact T_some ⟨rfl, hM, rfl, mFg_fm (mFm_refl _)⟩
  | k + 1, l, n, S, M, hS, hM, h0, h1, h2, h3 => by
    have hL := hV.2.2.2.2.1
    have ho := sOffer_bd (S := S) hV h0 (by omega)
    have hp := hS.2.2.2.2 l h0 (by omega)
    have hj := (hV.2.2.2.2.2.2.1 l h0 (by omega)).2.2
    have hle := sOffer_le (V := V) (S := S) (l := l) (by omega)
    have e := mr_lord hM h0
    have e2 := mr_of hM h0 (by omega)
    have w1 : bz_w32 (bz_w32 (172 + bz_w32 (2 * l)) + 1) = 173 + 2 * l := by rw [w32_id (z := 2 * l) (by omega) (by omega), w32_id (z := 172 + 2 * l) (by omega) (by omega), w32_id (by omega) (by omega)]; omega
    have w2 : bz_w32 (28 + bz_w32 (5 * l)) = 28 + 5 * l := by rw [w32_id (z := 5 * l) (by omega) (by omega), w32_id (by omega) (by omega)]
    have eo : bz_of (sOf S l) (sPu S l) (vPa V l) = sOffer V S l := rfl
    refine T_le (eMo_bendPaid_4_E hd) ?_
    rw [hM.1.1.2.2.2.1, if_pos (by omega), if_pos (by omega), w1, w2, e.1, e.2.1, e.2.2.1, e.2.2.2, e2.1, e2.2, eo, w32_id (z := l + 1) (by omega) (by omega), if_pos (show (0 : Int) ≤ 173 + 2 * l ∧ 173 + 2 * l < 303 by omega), if_pos (show (0 : Int) ≤ 28 + 5 * l ∧ 28 + 5 * l < 50 by omega), w32_id (z := n + sOffer V S l) (by omega) (by omega), w32_id (z := sPu S l - sOffer V S l) (by omega) (by omega), w32_id (z := vJo V l - sOffer V S l) (by omega) (by omega)]
    simp only [bz_b0]
    unfold sColL gColL
    by_cases hc : vFr V l ≤ c ∧ c ≤ vTo V l
    · rw [if_neg (fun h => h hc), if_pos hc, if_pos hc]
      have f1 := mFg_trans (mFg_fm (mFm_up (M := M) (k := Int.toNat (173 + 2 * l)) (x := sPu S l - sOffer V S l) (by omega))) (mFg_up (k := l.toNat) (x := bz_w32 (M 367 l.toNat + (vJo V l - sOffer V S l))))
      have e7 : bz_up (bz_up M 364 (Int.toNat (173 + 2 * l)) (sPu S l - sOffer V S l)) 367 l.toNat (bz_w32 (M 367 l.toNat + (vJo V l - sOffer V S l))) 367 = upS (M 367) l.toNat (bz_w32 (M 367 l.toNat + (vJo V l - sOffer V S l))) := by
        funext j
        rw [bz_up_rk]
        unfold upS
        by_cases hj : j = l.toNat
        · rw [if_pos ⟨rfl, hj⟩, if_pos hj]
        · rw [if_neg (fun h => hj h.2), if_neg hj, bz_up_nr (by decide)]
      refine T_mono (mo_colL hd hV k (l + 1) (n + sOffer V S l) (upS S (Int.toNat (173 + 2 * l)) (sPu S l - sOffer V S l)) _ (sPur_ok hV hS h0 (by omega) (by omega)) ⟨mV_fg hM.1 f1, fun j hj => ?_⟩ (by omega) (by omega) (by omega) (by omega)) ?_
      · rw [bz_up_nr (by decide), bz_up_rk]
        unfold upS
        by_cases hk2 : j = Int.toNat (173 + 2 * l)
        · rw [if_pos ⟨rfl, hk2⟩, if_pos hk2]
        · rw [if_neg (fun h => hk2 h.2), if_neg hk2]
          exact hM.2 j hj
      · rintro ⟨p1, p2⟩ ⟨g1, g2, g3, g5⟩
        exact ⟨g1, g2, by rw [g3, e7], mFg_trans f1 g5⟩
    · rw [if_pos hc, if_neg hc, if_neg hc]
      exact mo_colL hd hV k (l + 1) n S M hS hM (by omega) (by omega) (by omega) (by omega)
end MPS

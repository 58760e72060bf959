/-! QUERIES: rest, whole -/
section RT
variable {Lg d v : Nat} {V M M0 M' : bz_M} {S : Nat → Int}
theorem fc_isR (hv : bz_oV v) (hV : vOK V) (hM : cR V S 131 148 v M) {n : Nat} {x : Int} (hx0 : 0 ≤ x) (hx : x < bz_shl 1 (vL V)) (hr : hRow V S n (M 281) (bz_shl 1 (vL V))) : ∀ (k : Nat) (l : Int), 0 ≤ l → l + k = vL V → eFc_isAtRest_2 Lg d x l M = some (qIsR V S n x k l, M)
  | 0, l, h0, h1 => by
    refine eFc_isAtRest_2_E hv _ ?_
    rw [if_pos hM.1, hM.2.1.1.2.2.2.1, if_neg (by omega)]; rfl
  | k + 1, l, h0, h1 => by
    have hL := hV.2.2.2.2.1
    have hb := pXor_bd hx0 h0 hL.1 hL.2 (show l < vL V by omega) hx
    refine eFc_isAtRest_2_E hv _ ?_
    have e : bz_xor x (bz_shl 1 l) = pXor x l := rfl
    have w1 : bz_w32 (bz_w32 (pXor x l * 5) + l) = 5 * pXor x l + l := by rw [w32_id (z := pXor x l * 5) (by omega) (by omega), w32_id (by omega) (by omega)]; omega
    have w2 : bz_w32 (bz_w32 (x * 5) + l) = 5 * x + l := by rw [w32_id (z := x * 5) (by omega) (by omega), w32_id (by omega) (by omega)]; omega
    rw [if_pos hM.1, hM.2.1.1.2.2.2.1, if_pos (by omega), e, w1, w2, if_pos (by omega), if_pos (by omega), hr _ l hb.1 hb.2.1 h0 (by omega), hr x l hx0 hx h0 (by omega), w32_id (by omega) (by omega)]
    unfold qIsR
    split
    · rfl
    · exact fc_isR hv hV hM hx0 hx hr k (l + 1) (by omega) (by omega)
theorem fc_best (hd : 0 < d) (hv : bz_oV v) (hV : vOK V) (hM : cR V S 131 148 v M) {n : Nat} (hr : hRow V S n (M 281) (bz_shl 1 (vL V))) : ∀ (k : Nat) (x best : Int), 0 ≤ x → x + k = bz_shl 1 (vL V) → eFc_setAtRest_37 Lg d (bz_shl 1 (vL V)) best x M = some (qRestL V S n k x best, M)
  | 0, x, best, h0, h1 => by
    refine eFc_setAtRest_37_E hd _ ?_
    rw [if_neg (by omega)]; rfl
  | k + 1, x, best, h0, h1 => by
    have hL := hV.2.2.2.2.1
    have hs := shl_bd hL.1 hL.2
    have e1 : eFc_isAtRest Lg (d - 1) x M = some (qIsR V S n x (vL V).toNat 0, M) := eFc_isAtRest_E _ (fc_isR hv hV hM h0 (by omega) hr (vL V).toNat 0 (by omega) (by omega))
    refine eFc_setAtRest_37_E hd _ ?_
    rw [if_pos (by omega), e1, Option.bind_some, w32_id (by omega) (by omega)]
    simp only [jd_bits, Option.bind_some]
    unfold qRestL
    rcases qIsR_01 (V := V) (S := S) (n := n) (x := x) (vL V).toNat 0 with e | e
    · rw [if_pos e, if_neg (by rw [e]; simp)]
      exact fc_best hd hv hV hM hr k (x + 1) best (by omega) (by omega)
    · rw [if_neg (by rw [e]; decide)]
      by_cases hb : best = -1
      · rw [if_pos hb, if_pos ⟨e, Or.inl hb⟩]
        exact fc_best hd hv hV hM hr k (x + 1) x (by omega) (by omega)
      · rw [if_neg hb]
        by_cases hc : pBc x < pBc best
        · rw [if_pos hc, if_pos ⟨e, Or.inr hc⟩]
          exact fc_best hd hv hV hM hr k (x + 1) x (by omega) (by omega)
        · rw [if_neg hc, if_neg (fun h => by rcases h.2 with h | h; exact hb h; exact hc h)]
          exact fc_best hd hv hV hM hr k (x + 1) best (by omega) (by omega)
theorem fc_sets (hd : 5 < d) (hv : bz_oV v) (hV : vOK V) (hS : sOK V S) {n : Int} (hn0 : 0 ≤ n) (hn : S 0 + n ≤ 999) (hn3 : n ≤ 30) : ∀ (k : Nat) (x : Int) (M : bz_M), cR V S 131 148 v M → hRow V S n.toNat (M 281) x → 0 ≤ x → x + k = bz_shl 1 (vL V) → w_T (eFc_setAtRest_15 Lg d n (bz_shl 1 (vL V)) x M) (fun p => p.1 = qRestL V S n.toNat (bz_shl 1 (vL V)).toNat 0 (-1) ∧ qC M p.2)
  | 0, x, M, hM, hr, h0, h1 => by
    have hL := hV.2.2.2.2.1
    have hs := shl_bd hL.1 hL.2
    refine T_le (eFc_setAtRest_15_E (by omega)) ?_
    rw [if_neg (by omega)]
    have hr' : hRow V S n.toNat (M 281) (bz_shl 1 (vL V)) := by
      have e : x = bz_shl 1 (vL V) := by omega
      rw [← e]; exact hr
    exact T_eq (fc_best (by omega) hv hV hM hr' (bz_shl 1 (vL V)).toNat 0 (-1) (by omega) (by omega)) ⟨rfl, qC_refl _⟩
  | k + 1, x, M, hM, hr, h0, h1 => by
    have hL := hV.2.2.2.2.1
    have hs := shl_bd hL.1 hL.2
    refine T_le (eFc_setAtRest_15_E (by omega)) ?_
    rw [if_pos (by omega), w32_id (by omega) (by omega)]
    refine T_seq (fc_ms (X := x) (by omega) hv hV hS hM hn0 hn hn3 (by omega) hr) ?_
    rintro M1 ⟨a1, a2⟩
    exact T_mono (fc_sets hd hv hV hS hn0 hn hn3 k (x + 1) M1 (cR_qC hv hM a2) a1 (by omega) (by omega)) (fun p hp => ⟨hp.1, qC_trans a2 hp.2⟩)
theorem c_rest (hd : 6 < d) (hv : bz_oV v) (hV : vOK V) (hS : sOK V S) (h9 : S 0 ≤ 999) (hM : cR V S 131 148 v M) {n : Int} : w_T (eBr_rest Lg d n M) (fun p => p.1 = qRest V S n ∧ qC M p.2) := by
  have hC := hV.2.1
  have hL := hV.2.2.2.2.1
  have hs := shl_bd hL.1 hL.2
  have s0 := hS.1
  have e0 : M 148 0 = S 0 := by rw [hM.2.2.1.1]; omega
  refine T_le (eBr_rest_E (by omega) hv) ?_
  simp only [bz_b0]
  rw [if_pos hM.1, hM.2.1.1.1, e0, w32_id (z := 999 - S 0) (by omega) (by omega), if_neg (by omega)]
  unfold qRest
  by_cases h2 : 1 ≤ n ∧ n ≤ 30 ∧ n ≤ 999 - S 0
  · rw [if_neg (fun h => h h2), if_pos (by omega)]
    refine T_seq (T_le (eFc_setAtRest_E hv) (Q := fun p => p.1 = qRestL V S n.toNat (bz_shl 1 (vL V)).toNat 0 (-1) ∧ qC M p.2) ?_) (fun p hp => T_some hp)
    rw [if_pos hM.1, hM.2.1.1.2.2.2.1]
    exact fc_sets (by omega) hv hV hS (by omega) (by omega) (by omega) (bz_shl 1 (vL V)).toNat 0 M hM (fun x l a b _ _ => by omega) (by omega) (by omega)
  · rw [if_pos h2, if_neg (by omega)]; exact T_some ⟨rfl, qC_refl _⟩
/-! the reference -/
theorem th_368 (h : th M0 M) {k : Nat} {x : Int} {q : Nat} (hq : q = 368 ∨ q = 367) : th M0 (bz_up M q k x) := by
  refine ⟨by rw [bz_up_nr (by omega)]; exact h.1, fun j hj => by rw [bz_up_nr (by omega)]; exact h.2.1 j hj, fun j hj => by rw [bz_up_nr (by omega)]; exact h.2.2.1 j hj, fun r hr h4 => by rw [bz_up_fn (by omega)]; exact h.2.2.2.1 r hr h4, fun j hj h7 => by rw [bz_up_nr (by omega)]; exact h.2.2.2.2 j hj h7⟩
theorem mR_368 (h : mR V S M) {k : Nat} {x : Int} {q : Nat} (hq : q = 368 ∨ q = 367) : mR V S (bz_up M q k x) := mR_qM h ⟨fun r hr => bz_up_fn (by omega), fun j hj => bz_up_nr (by omega) _⟩
theorem mR_up (hM : mR V S M) {k : Nat} {x : Int} (hk : k < 182) : mR V (upS S k x) (bz_up M 364 k x) := by
  refine ⟨mV_fm hM.1 (mFm_up hk), fun j hj => ?_⟩
  rw [bz_up_rk]
  unfold upS
  by_cases hk2 : j = k
  · rw [if_pos ⟨rfl, hk2⟩, if_pos hk2]
  · rw [if_neg (fun h => hk2 h.2), if_neg hk2]
    exact hM.2 j hj
theorem mo_lh1 (hd : 0 < d) (hV : vOK V) {x n : Int} {Q : bz_M → Prop} : ∀ (k : Nat) (l : Int) (S : Nat → Int) (M : bz_M), mR V S M → th M0 M → 0 ≤ l → l + k = vL V → (∀ j : Int, 0 ≤ j → j < l → M 367 j.toNat = 0) → (∀ M', mR V (sSetL x k l S) M' → th M0 M' → (∀ j : Int, 0 ≤ j → j < vL V → M' 367 j.toNat = 0) → M' 368 = M 368 → w_T ((eMo_seasonsGo Lg (d - 1) n M').bind (fun M1 => (eMo_laysHavings_63 Lg d n x 0 M1))) Q) → w_T (eMo_laysHavings_18 Lg d n x l M) Q
  | 0, l, S, M, hM, ht, h0, h1, hz, hQ => by
    refine T_le (eMo_laysHavings_18_E hd) ?_
    rw [hM.1.1.2.2.2.1, if_neg (by omega)]
    exact hQ M hM ht (fun j a b => hz j a (by omega)) rfl
  | k + 1, l, S, M, hM, ht, h0, h1, hz, hQ => by
    have hL := hV.2.2.2.2.1
    have w1 : bz_w32 (172 + bz_w32 (2 * l)) = 172 + 2 * l := by rw [w32_id (z := 2 * l) (by omega) (by omega), w32_id (by omega) (by omega)]
    refine T_le (eMo_laysHavings_18_E hd) ?_
    rw [hM.1.1.2.2.2.1, if_pos (by omega), w1, if_pos (by omega), if_pos (by omega), w32_id (by omega) (by omega)]
    refine mo_lh1 hd hV k (l + 1) _ _ (mR_368 (mR_up hM (by omega)) (Or.inr rfl)) (th_368 (th_up ht (by omega)) (Or.inr rfl)) (by omega) (by omega) (fun j a b => ?_) (fun M' a b c e => hQ M' a b c (by rw [e, bz_up_fn (by decide), bz_up_fn (by decide)]))
    rw [bz_up_rk]
    by_cases hj : j = l
    · rw [if_pos ⟨rfl, by rw [hj]⟩]
    · rw [if_neg (fun h => hj (by omega)), bz_up_nr (by decide)]; exact hz j a (by omega)
theorem mo_lh2 (hd : 0 < d) (hV : vOK V) {x n : Int} (hx : 0 ≤ x ∧ x < 32) {f : Int → Int} {Q : bz_M → Prop} : ∀ (k : Nat) (l : Int) (M : bz_M), M 319 47 = vL V → th M0 M → (∀ j, 0 ≤ j → j < vL V → M 367 j.toNat = f j) → 0 ≤ l → l + k = vL V → (∀ j, 0 ≤ j → j < l → M 368 (Int.toNat (5 * x + j)) = f j) → (∀ M', th M0 M' → (∀ j, 0 ≤ j → j < vL V → M' 368 (Int.toNat (5 * x + j)) = f j) → (∀ j, j < Int.toNat (5 * x) → M' 368 j = M 368 j) → w_T ((eMo_triesAnew Lg (d - 1) M').bind (fun M1 => (eMo_laysHavings_6 Lg d n (bz_w32 (x + 1)) M1))) Q) → w_T (eMo_laysHavings_63 Lg d n x l M) Q
  | 0, l, M, hL0, ht, hf, h0, h1, hz, hQ => by
    refine T_le (eMo_laysHavings_63_E hd) ?_
    rw [hL0, if_neg (by omega)]
    exact hQ M ht (fun j a b => hz j a (by omega)) (fun _ _ => rfl)
  | k + 1, l, M, hL0, ht, hf, h0, h1, hz, hQ => by
    have hL := hV.2.2.2.2.1
    have w1 : bz_w32 (bz_w32 (5 * x) + l) = 5 * x + l := by rw [w32_id (z := 5 * x) (by omega) (by omega), w32_id (by omega) (by omega)]
    refine T_le (eMo_laysHavings_63_E hd) ?_
    rw [hL0, if_pos (by omega), if_pos (by omega), w1, if_pos (by omega), w32_id (by omega) (by omega), hf l h0 (by omega)]
    refine mo_lh2 hd hV hx k (l + 1) _ (by rw [bz_up_nr (by decide)]; exact hL0) (th_368 ht (Or.inl rfl)) (fun j a b => by rw [bz_up_nr (by decide)]; exact hf j a b) (by omega) (by omega) (fun j a b => ?_) (fun M' a b c => hQ M' a b (fun j hj => by rw [c j hj, bz_up_nk (by omega)]))
    rw [bz_up_rk]
    by_cases hj : j = l
    · rw [if_pos ⟨rfl, by rw [hj]⟩, hj]
    · rw [if_neg (fun h => hj (by omega))]; exact hz j a (by omega)
theorem mo_lhL (hd : 8 < d) (hV : vOK V) (hS : sOK V S) (hM0 : mR V S M0) (h7 : M0 319 70 = 0) {n : Int} (hn0 : 0 ≤ n) (hn : S 0 + n ≤ 999) (hn3 : n ≤ 30) : ∀ (k : Nat) (x : Int) (M : bz_M), th M0 M → M 364 = M0 364 → hRow V S n.toNat (M 368) x → 0 ≤ x → x + k = bz_shl 1 (vL V) → w_T (eMo_laysHavings_6 Lg d n x M) (fun M' => qM M0 M' ∧ hRow V S n.toNat (M' 368) (bz_shl 1 (vL V)))
  | 0, x, M, ht, h4, hr, h0, h1 => by
    have hL := hV.2.2.2.2.1
    have hM := mR_th ht hM0 h4
    refine T_le (eMo_laysHavings_6_E (by omega)) ?_
    rw [hM.1.1.2.2.2.1, if_neg (by omega)]
    have hb := mo_back (Lg := Lg) (d := d - 1) (by omega) ht h7
    have hb3 : w_T (eMo_takesBack Lg (d - 1) M) (fun M2 => M2 368 = M 368) := by
      refine T_le (eMo_takesBack_E (by omega)) ?_
      refine T_seq (mo_anew ht) ?_
      rintro M2 ⟨_, _, c3⟩
      exact T_some (by rw [bz_up_fn (by decide), c3 368 (by decide)])
    obtain ⟨M2, em, q1⟩ := hb
    obtain ⟨M2', em', q2⟩ := hb3
    rw [em] at em'
    cases em'
    refine T_run em (T_some ⟨q1, ?_⟩)
    have e : x = bz_shl 1 (vL V) := by omega
    rw [q2, ← e]; exact hr
  | k + 1, x, M, ht, h4, hr, h0, h1 => by
    have hL := hV.2.2.2.2.1
    have hs := shl_bd hL.1 hL.2
    have hM := mR_th ht hM0 h4
    have hx : 0 ≤ x ∧ x < 32 := by omega
    have hk := sSet_ok hV hS hx
    refine T_le (eMo_laysHavings_6_E (by omega)) ?_
    rw [hM.1.1.2.2.2.1, if_pos (by omega)]
    refine mo_lh1 (by omega) hV (vL V).toNat 0 S M hM ht (by omega) (by omega) (fun j a b => by omega) (fun M1 a1 a2 a3 a4 => ?_)
    refine T_seq (mo_goT (by omega) hV hk.1 a1 a2 hn0 (by rw [hk.2.1 0 (by omega)]; omega) (by omega)) ?_
    rintro M2 ⟨b1, b2, b3, b4, _⟩
    refine mo_lh2 (f := fun l => hav V S n.toNat x l) (by omega) hV hx (vL V).toNat 0 M2 b1.1.1.2.2.2.1 b3 (fun j a b => ?_) (by omega) (by omega) (fun j a b => by omega) (fun M3 c1 c2 c3 => ?_)
    · rw [b2]
      exact hav_g hV hS (by omega) (by omega) hx a b a3
    · refine T_seq (mo_anew c1) ?_
      rintro M4 ⟨d1, d2, d3⟩
      rw [w32_id (by omega) (by omega)]
      refine mo_lhL hd hV hS hM0 h7 hn0 hn hn3 k (x + 1) M4 d1 d2 (fun x' l g0 g1 g2 g3 => ?_) (by omega) (by omega)
      rw [d3 368 (by decide)]
      by_cases e : x' = x
      · rw [e]; exact c2 l g2 g3
      · rw [c3 _ (by omega), b4, a4]; exact hr x' l g0 (by omega) g2 g3
theorem mo_isR (hd : 0 < d) (hV : vOK V) (hM : mR V S M) {n : Nat} {x : Int} (hx0 : 0 ≤ x) (hx : x < bz_shl 1 (vL V)) (hr : hRow V S n (M 368) (bz_shl 1 (vL V))) : ∀ (k : Nat) (l : Int), 0 ≤ l → l + k = vL V → eMo_isRest_2 Lg d x l M = some (qIsR V S n x k l, M)
  | 0, l, h0, h1 => by
    refine eMo_isRest_2_E hd _ ?_
    rw [hM.1.1.2.2.2.1, if_neg (by omega)]; rfl
  | k + 1, l, h0, h1 => by
    have hL := hV.2.2.2.2.1
    have hb := pXor_bd hx0 h0 hL.1 hL.2 (show l < vL V by omega) hx
    refine eMo_isRest_2_E hd _ ?_
    have e : bz_xor x (bz_shl 1 l) = pXor x l := rfl
    have w1 : bz_w32 (bz_w32 (5 * pXor x l) + l) = 5 * pXor x l + l := by rw [w32_id (z := 5 * pXor x l) (by omega) (by omega), w32_id (by omega) (by omega)]
    have w2 : bz_w32 (bz_w32 (5 * x) + l) = 5 * x + l := by rw [w32_id (z := 5 * x) (by omega) (by omega), w32_id (by omega) (by omega)]
    rw [hM.1.1.2.2.2.1, if_pos (by omega), e, w1, w2, if_pos (by omega), if_pos (by omega), hr _ l hb.1 hb.2.1 h0 (by omega), hr x l hx0 hx h0 (by omega), w32_id (by omega) (by omega)]
    unfold qIsR
    split
    · rfl
    · exact mo_isR hd hV hM hx0 hx hr k (l + 1) (by omega) (by omega)
theorem mo_best (hd : 1 < d) (hV : vOK V) (hM : mR V S M) {n : Nat} (hr : hRow V S n (M 368) (bz_shl 1 (vL V))) : ∀ (k : Nat) (x best : Int), 0 ≤ x → x + k = bz_shl 1 (vL V) → (best = -1 ∨ (0 ≤ best ∧ best < 32)) → eMo_rest_22 Lg d best x M = some (qRestL V S n k x best, M)
  | 0, x, best, h0, h1, hbs => by
    refine eMo_rest_22_E (by omega) _ ?_
    rw [hM.1.1.2.2.2.1, if_neg (by omega)]; rfl
  | k + 1, x, best, h0, h1, hbs => by
    have hL := hV.2.2.2.2.1
    have hs := shl_bd hL.1 hL.2
    have e1 : eMo_isRest Lg (d - 1) x M = some (qIsR V S n x (vL V).toNat 0, M) := eMo_isRest_E _ (mo_isR (by omega) hV hM h0 (by omega) hr (vL V).toNat 0 (by omega) (by omega))
    refine eMo_rest_22_E (by omega) _ ?_
    rw [hM.1.1.2.2.2.1, if_pos (by omega), w32_id (by omega) (by omega)]
    unfold qRestL
    have hq := qIsR_01 (V := V) (S := S) (n := n) (x := x) (vL V).toNat 0
    by_cases hb : best = -1
    · rw [if_pos hb, e1, Option.bind_some]
      rcases hq with e | e
      · rw [if_pos e, if_neg (by rw [e]; simp)]
        exact mo_best hd hV hM hr k (x + 1) best (by omega) (by omega) hbs
      · rw [if_neg (by dsimp only; rw [e]; decide), if_pos ⟨e, Or.inl hb⟩]
        exact mo_best hd hV hM hr k (x + 1) x (by omega) (by omega) (by omega)
    · rw [if_neg hb, mo_bits h0 (by omega), Option.bind_some, mo_bits (x := best) (by omega) (by omega), Option.bind_some]
      by_cases hc : pBc x < pBc best
      · rw [if_pos hc, e1, Option.bind_some]
        rcases hq with e | e
        · rw [if_pos e, if_neg (by rw [e]; simp)]
          exact mo_best hd hV hM hr k (x + 1) best (by omega) (by omega) hbs
        · rw [if_neg (by dsimp only; rw [e]; decide), if_pos ⟨e, Or.inr hc⟩]
          exact mo_best hd hV hM hr k (x + 1) x (by omega) (by omega) (by omega)
      · rw [if_neg hc, if_neg (fun h => by rcases h.2 with h | h; exact hb h; exact hc h)]
        exact mo_best hd hV hM hr k (x + 1) best (by omega) (by omega) hbs
theorem m_rest (hd : 9 < d) (hV : vOK V) (hS : sOK V S) (h9 : S 0 ≤ 999) (hM : mR V S M) (h7 : M 319 70 = 0) {n : Int} : w_T (eMo_rest Lg d n M) (fun p => p.1 = qRest V S n ∧ qM M p.2) := by
  have hL := hV.2.2.2.2.1
  have hs := shl_bd hL.1 hL.2
  have s0 := hS.1
  have e0 : M 364 0 = S 0 := hM.2 0 (by omega)
  have e6 : M 319 60 = 1 := hM.1.1.2.2.2.2.trans hV.1
  refine T_le (eMo_rest_E (by omega)) ?_
  simp only [bz_b0]
  rw [e0, e6]
  unfold qRest
  by_cases h2 : 1 ≤ n ∧ n ≤ 30
  · rw [w32_id (z := S 0 + n) (by omega) (by omega)]
    by_cases h3 : S 0 + n ≤ 999
    · rw [if_neg (fun h => h (by omega)), if_pos (by omega)]
      refine T_seq (T_le (eMo_laysHavings_E (by omega)) (Q := fun M' => qM M M' ∧ hRow V S n.toNat (M' 368) (bz_shl 1 (vL V))) ?_) ?_
      · refine T_seq mo_aside ?_
        rintro M1 ⟨a1, a2, _⟩
        exact mo_lhL (by omega) hV hS hM h7 (by omega) (by omega) (by omega) (bz_shl 1 (vL V)).toNat 0 M1 a1 a2 (fun x l a b _ _ => by omega) (by omega) (by omega)
      · rintro M1 ⟨a1, a2⟩
        exact T_eq (mo_best (by omega) hV (mR_qM hM a1) a2 (bz_shl 1 (vL V)).toNat 0 (-1) (by omega) (by omega) (Or.inl rfl)) ⟨rfl, a1⟩
    · rw [if_pos (by omega), if_neg (by omega)]; exact T_some ⟨rfl, qM_refl _⟩
  · rw [if_pos (by omega), if_neg (by omega)]; exact T_some ⟨rfl, qM_refl _⟩
end RT

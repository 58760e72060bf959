/-! THE CLASS'S RIVER -/
abbrev cScr (q : Nat) : Prop := q = 156 ∨ q = 294 ∨ q = 144 ∨ q = 147 ∨ q = 315 ∨ q = 318
def cF (M M' : bz_M) : Prop := ∀ q, ¬ cScr q → M' q = M q
theorem cF_refl (M : bz_M) : cF M M := fun _ _ => rfl
theorem cF_trans {A B C : bz_M} (h : cF A B) (g : cF B C) : cF A C := fun q hq => (g q hq).trans (h q hq)
theorem cF_up {M : bz_M} {q k : Nat} {x : Int} (h : cScr q) : cF M (bz_up M q k x) := fun q' h' => bz_up_fn (fun e => h' (by rw [e]; exact h))
def cV (V : bz_M) (v : Nat) (M : bz_M) : Prop := (M v 0 = vC V ∧ M v 1 = vR V ∧ M v 2 = vH V ∧ M v 3 = vL V ∧ M v 4 = V 319 54) ∧ (∀ k, 0 ≤ k → k < 80 → M (v + 2) (Int.toNat k) = vSo V k) ∧ (∀ l, 0 ≤ l → l < vL V → M (v + 5) (Int.toNat l) = vFr V l ∧ M (v + 6) (Int.toNat l) = vTo V l ∧ M (v + 7) (Int.toNat l) = vPa V l ∧ M (v + 8) (Int.toNat l) = vJo V l) ∧ (M (v + 10) 2 = ((oE V).length : Int) ∧ (oE V).length ≤ 1600 ∧ zSeg (M (v + 11)) 0 ((oE V).map pBk)) ∧ (M (v + 13) 2 = ((oB V).length : Int) ∧ (oB V).length ≤ 1600 ∧ zSeg (M (v + 14)) 0 ((oB V).map pBk))
def cS (s : Nat) (S : Nat → Int) (M : bz_M) : Prop := (M s 0 = min (S 0) 999 ∧ M s 1 = S 1) ∧ (∀ c, 0 ≤ c → c < 10 → M (s + 1) (Int.toNat c) = sRow S c) ∧ (∀ k, 0 ≤ k → k < 80 → M (s + 2) (Int.toNat k) = sWi S k ∧ M (s + 3) (Int.toNat k) = sEv S k) ∧ (∀ l, 0 ≤ l → l < 5 → M (s + 4) (Int.toNat l) = sOf S l ∧ M (s + 5) (Int.toNat l) = sPu S l)
def cR (V : bz_M) (S : Nat → Int) (r s v : Nat) (M : bz_M) : Prop := M r 0 = (v : Int) ∧ cV V v M ∧ cS s S M
theorem cV_co {V M M' : bz_M} {v : Nat} (h : cV V v M) (h0 : M' v = M v) (h2 : M' (v + 2) = M (v + 2)) (h5 : M' (v + 5) = M (v + 5)) (h6 : M' (v + 6) = M (v + 6)) (h7 : M' (v + 7) = M (v + 7)) (h8 : M' (v + 8) = M (v + 8)) (h10 : M' (v + 10) = M (v + 10)) (h11 : M' (v + 11) = M (v + 11)) (h13 : M' (v + 13) = M (v + 13)) (h14 : M' (v + 14) = M (v + 14)) : cV V v M' := by
  unfold cV at h ⊢
  rw [h0, h2, h5, h6, h7, h8, h10, h11, h13, h14]
  exact h
theorem cS_co {S : Nat → Int} {M M' : bz_M} {s : Nat} (h : cS s S M) (h0 : M' s = M s) (h1 : M' (s + 1) = M (s + 1)) (h2 : M' (s + 2) = M (s + 2)) (h3 : M' (s + 3) = M (s + 3)) (h4 : M' (s + 4) = M (s + 4)) (h5 : M' (s + 5) = M (s + 5)) : cS s S M' := by
  unfold cS at h ⊢
  rw [h0, h1, h2, h3, h4, h5]
  exact h
section CRI
variable {Lg d r s v : Nat} {V M M' : bz_M} {S : Nat → Int}
theorem cR_cF (hr : bz_oR r s) (hv : bz_oV v) (h : cR V S r s v M) (hf : cF M M') : cR V S r s v M' := by
  have h1 := oR_c hr
  have h2 := oV_c hv
  have k : ∀ q, ¬ cScr q → M' q = M q := hf
  refine ⟨by rw [k r (by omega)]; exact h.1, cV_co h.2.1 (k _ (by omega)) (k _ (by omega)) (k _ (by omega)) (k _ (by omega)) (k _ (by omega)) (k _ (by omega)) (k _ (by omega)) (k _ (by omega)) (k _ (by omega)) (k _ (by omega)), cS_co h.2.2 (k _ (by omega)) (k _ (by omega)) (k _ (by omega)) (k _ (by omega)) (k _ (by omega)) (k _ (by omega))⟩
theorem bz_abs_p {z : Int} (h1 : -2147483648 < z) (h2 : z < 2147483648) : bz_abs z = pAbs z := by
  unfold bz_abs pAbs
  split
  · exact w32_id (by omega) (by omega)
  · rfl
theorem ri_turnOf (hd : 0 < d) (hr : bz_oR r s) (hv : bz_oV v) (hV : vOK V) (hS : sOK V S) (hM : cR V S r s v M) {c : Int} (h0 : 0 ≤ c) (h1 : c < vC V) : eRi_turnOf Lg d r c M = some (sTurn V S c, M) := by
  have hC := hV.2.1
  have hR := hV.2.2.1
  refine eRi_turnOf_E hd hr hv _ ?_
  rw [if_pos hM.1, hM.2.1.1.1, w32_id (z := vC V - 1) (by omega) (by omega)]
  simp only [bz_b0]
  unfold sTurn pTurn
  by_cases hin : 0 < c ∧ c < vC V - 1
  · have b1 := hS.2.2.1 c h0 h1
    have b2 := hS.2.2.1 (c - 1) (by omega) (by omega)
    have b3 := hS.2.2.1 (c + 1) (by omega) (by omega)
    rw [if_neg (fun h => h hin), if_pos hin, w32_id (z := c - 1) (by omega) (by omega), w32_id (z := c + 1) (by omega) (by omega), if_pos (by omega), if_pos (by omega), if_pos (by omega), hM.2.2.2.1 _ (by omega) (by omega), hM.2.2.2.1 _ (by omega) (by omega), hM.2.2.2.1 _ h0 (by omega), w32_id (z := sRow S (c - 1) + sRow S (c + 1)) (by omega) (by omega), w32_id (z := 2 * sRow S c) (by omega) (by omega), w32_id (by omega) (by omega), bz_abs_p (by omega) (by omega)]
    unfold sBe sBh
    rw [if_neg (by omega), if_neg (by omega)]
  · rw [if_pos hin, if_neg hin]
theorem ri_payL (hd : 0 < d) (hr : bz_oR r s) (hv : bz_oV v) (hV : vOK V) (hM : cR V S r s v M) {c : Int} : ∀ (k : Nat) (l n : Int), 0 ≤ l → l + k = vL V → 0 ≤ n → n + 99 * k ≤ 1000 → eRi_payOf_4 Lg d r c n l M = some (sPayL V S c k l n, M)
  | 0, l, n, h0, h1, h2, h3 => by
    refine eRi_payOf_4_E hd hr hv _ ?_
    rw [if_pos hM.1, hM.2.1.1.2.2.2.1, if_neg (by omega)]
    rfl
  | k + 1, l, n, h0, h1, h2, h3 => by
    have hL := hV.2.2.2.2.1
    have ho := sOffer_bd (S := S) hV h0 (by omega)
    have e := hM.2.1.2.2.1 l h0 (by omega)
    have e2 := hM.2.2.2.2.2 l h0 (by omega)
    refine eRi_payOf_4_E hd hr hv _ ?_
    rw [if_pos hM.1, hM.2.1.1.2.2.2.1, if_pos (by omega), if_pos (by omega), e.1, e.2.1, e.2.2.1, e2.1, e2.2, w32_id (z := l + 1) (by omega) (by omega)]
    simp only [bz_b0]
    unfold sPayL
    by_cases hc : vFr V l ≤ c ∧ c ≤ vTo V l
    · rw [if_neg (fun h => h hc), if_pos hc]
      show eRi_payOf_4 Lg d r c (bz_w32 (n + sOffer V S l)) (l + 1) M = _
      rw [w32_id (by omega) (by omega)]
      exact ri_payL hd hr hv hV hM k (l + 1) _ (by omega) (by omega) (by omega) (by omega)
    · rw [if_pos hc, if_neg hc]
      exact ri_payL hd hr hv hV hM k (l + 1) _ (by omega) (by omega) (by omega) (by omega)
theorem ri_payOf (hd : 0 < d) (hr : bz_oR r s) (hv : bz_oV v) (hV : vOK V) (hM : cR V S r s v M) {c : Int} : eRi_payOf Lg d r c M = some (sPay V S c, M) := by
  have hL := hV.2.2.2.2.1
  exact eRi_payOf_E _ (ri_payL hd hr hv hV hM (vL V).toNat 0 0 (by omega) (by omega) (by omega) (by omega))
theorem ri_eats (hd : 1 < d) (hr : bz_oR r s) (hv : bz_oV v) (hV : vOK V) (hS : sOK V S) (h9 : S 0 ≤ 999) (hM : cR V S r s v M) {c w : Int} (h0 : 0 ≤ c) (h1 : c < vC V) (h2 : 0 ≤ w) (h3 : w < vR V) : w_T (eRi_sumOfEats Lg d r c w M) (fun p => p.1 = sEats V S c w ∧ cF M p.2) := by
  have hC := hV.2.1
  have hR := hV.2.2.1
  have hrs := oR_c hr
  have hvv := oV_c hv
  have hs8 : cScr (s + 8) := by omega
  have f1 : cF M (bz_up (bz_up M (s + 8) 0 c) (s + 8) 1 w) := cF_trans (cF_up hs8) (cF_up hs8)
  have wc : bz_w32 (bz_w32 (c * 8) + w) = 8 * c + w := by rw [w32_id (z := c * 8) (by omega) (by omega), w32_id (by omega) (by omega)]; omega
  refine T_le (eRi_sumOfEats_E (by omega) hr hv) ?_
  refine T_run (ri_turnOf (by omega) hr hv hV hS (cR_cF hr hv hM f1) h0 h1) ?_
  simp only [wc]
  have eS0 : M s 0 = S 0 := by rw [hM.2.2.1.1]; omega
  have eSo := hM.2.1.2.1 (8 * c + w) (by omega) (by omega)
  have eWi := hM.2.2.2.2.1 (8 * c + w) (by omega) (by omega)
  simp (disch := omega) only [bz_up_nr]
  rw [if_pos hM.1, if_pos (by omega)]
  have f2 : cF M (bz_up (bz_up (bz_up (bz_up (bz_up (bz_up M (s + 8) 0 c) (s + 8) 1 w) (s + 8) 2 (sTurn V S c)) (s + 8) 3 (M s 0)) (s + 8) 4 (M (v + 2) (8 * c + w).toNat)) (s + 8) 5 (M (s + 2) (8 * c + w).toNat)) := cF_trans f1 (cF_trans (cF_up hs8) (cF_trans (cF_up hs8) (cF_trans (cF_up hs8) (cF_up hs8))))
  refine T_run (ri_payOf (by omega) hr hv hV (cR_cF hr hv hM f2)) ?_
  simp (disch := omega) only [bz_up_nr]
  rw [if_pos hM.1]
  have f3 := cF_trans f2 (cF_trans (cF_up hs8 (k := 6) (x := sPay V S c)) (cF_up hs8 (k := 7) (x := M (s + 3) (8 * c + w).toNat)))
  have hM3 := cR_cF hr hv hM f3
  have hx := sEats_is hV hS h0 h1 h2 h3
  refine T_seq (cd_value (Ao := aE) (F := fE V S c w) (G := g0) (by omega) (oV_C10 hv) (by omega) (oR_a8 hr) (fE_bd hV hS h0 h1 h2 h3) g0_bd ?_ (fun q x hq ha => absurd ha (by unfold aE; omega)) hV.2.2.2.2.2.2.2.1.2 hV.2.2.2.2.2.2.2.1.1 hM3.2.1.2.2.2.1.2.2 hM3.2.1.2.2.2.1.1 hM3.2.1.2.2.2.1.2.1 hx.1) ?_
  · intro p hp1 hp2 ha
    unfold aE at ha
    have hp : p = 0 ∨ p = 1 ∨ p = 2 ∨ p = 3 ∨ p = 4 ∨ p = 5 ∨ p = 6 ∨ p = 7 := by omega
    unfold fE
    rcases hp with rfl | rfl | rfl | rfl | rfl | rfl | rfl | rfl <;> simp [bz_up_rk, eS0, eSo, eWi.1, eWi.2]
  · rintro ⟨p1, p2⟩ ⟨e1, e2⟩
    exact T_some ⟨e1, cF_trans f3 (fun q hq => e2 q (by omega))⟩
theorem ri_bendBy (hd : 1 < d) (hr : bz_oR r s) (hv : bz_oV v) (hV : vOK V) (hS : sOK V S) (h9 : S 0 ≤ 999) (hM : cR V S r s v M) {c b w h : Int} (h0 : 0 ≤ c) (h1 : c < vC V) (hb : 0 ≤ b ∧ b < vR V) (hw : 0 ≤ w ∧ w < vR V) (hh : 0 ≤ h ∧ h < vR V) : w_T (eRi_isBendBy Lg d r c b w h M) (fun p => p.1 = sBendBy V S c b w h ∧ cF M p.2) := by
  have hC := hV.2.1
  have hR := hV.2.2.1
  have hrs := oR_c hr
  have hvv := oV_c hv
  have hs8 : cScr (s + 8) := by omega
  have hx := sBendBy_is hV hS h0 h1 hb hw hh
  have eS0 : M s 0 = S 0 := by rw [hM.2.2.1.1]; omega
  have key : ∀ t, t = pTurn V c b w h → w_T (eCd_value Lg (d - 1) (v + 13) (s + 8) (bz_up (bz_up (bz_up (bz_up (bz_up (bz_up M (s + 8) 0 c) (s + 8) 1 w) (s + 8) 2 t) (s + 8) 3 (M s 0)) (s + 8) 8 b) (s + 8) 9 h)) (fun p => p.1 = sBendBy V S c b w h ∧ cF M p.2) := by
    rintro t rfl
    have f3 : cF M (bz_up (bz_up (bz_up (bz_up (bz_up (bz_up M (s + 8) 0 c) (s + 8) 1 w) (s + 8) 2 (pTurn V c b w h)) (s + 8) 3 (M s 0)) (s + 8) 8 b) (s + 8) 9 h) := cF_trans (cF_up hs8) (cF_trans (cF_up hs8) (cF_trans (cF_up hs8) (cF_trans (cF_up hs8) (cF_trans (cF_up hs8) (cF_up hs8)))))
    have hM3 := cR_cF hr hv hM f3
    refine T_mono (cd_value (Ao := aB) (F := fB V S c b w h) (G := g0) (by omega) (oV_C13 hv) (by omega) (oR_a8 hr) (fB_bd hV hS h0 h1 hb hw hh) g0_bd ?_ (fun q x hq ha => absurd ha (by unfold aB; omega)) hV.2.2.2.2.2.2.2.2.1.2 hV.2.2.2.2.2.2.2.2.1.1 hM3.2.1.2.2.2.2.2.2 hM3.2.1.2.2.2.2.1 hM3.2.1.2.2.2.2.2.1 hx.1) ?_
    · intro p hp1 hp2 ha
      unfold aB at ha
      have hp : p = 0 ∨ p = 1 ∨ p = 2 ∨ p = 3 ∨ p = 8 ∨ p = 9 := by omega
      unfold fB
      rcases hp with rfl | rfl | rfl | rfl | rfl | rfl <;> simp [bz_up_rk, eS0]
    · rintro ⟨p1, p2⟩ ⟨e1, e2⟩
      exact ⟨e1, cF_trans f3 (fun q hq => e2 q (by omega))⟩
  refine T_le (eRi_isBendBy_E (by omega) hr hv) ?_
  simp (disch := omega) only [bz_up_nr]
  rw [if_pos hM.1, hM.2.1.1.1, w32_id (z := vC V - 1) (by omega) (by omega)]
  simp only [bz_b0]
  by_cases hin : 0 < c ∧ c < vC V - 1
  · rw [if_neg (fun hh => hh hin), w32_id (z := b + h) (by omega) (by omega), w32_id (z := 2 * w) (by omega) (by omega), w32_id (by omega) (by omega), bz_abs_p (by omega) (by omega)]
    rw [if_pos hM.1]
    refine T_seq (key _ (by unfold pTurn; rw [if_pos hin])) ?_
    rintro ⟨p1, p2⟩ ⟨e1, e2⟩
    dsimp only at e1 e2 ⊢
    rw [e1]
    rcases hx.2 with e | e
    · rw [e, if_pos rfl]; exact T_some ⟨rfl, e2⟩
    · rw [e, if_neg (by decide)]; exact T_some ⟨rfl, e2⟩
  · rw [if_pos hin, if_pos hM.1]
    refine T_seq (key _ (by unfold pTurn; rw [if_neg hin])) ?_
    rintro ⟨p1, p2⟩ ⟨e1, e2⟩
    dsimp only at e1 e2 ⊢
    rw [e1]
    rcases hx.2 with e | e
    · rw [e, if_pos rfl]; exact T_some ⟨rfl, e2⟩
    · rw [e, if_neg (by decide)]; exact T_some ⟨rfl, e2⟩
theorem ri_bend (hd : 2 < d) (hr : bz_oR r s) (hv : bz_oV v) (hV : vOK V) (hS : sOK V S) (h9 : S 0 ≤ 999) (hM : cR V S r s v M) {c : Int} (h0 : 0 ≤ c) (h1 : c < vC V) : w_T (eRi_isBend Lg d r c M) (fun p => p.1 = sBend V S c ∧ cF M p.2) := by
  have hC := hV.2.1
  have hR := hV.2.2.1
  have b1 := hS.2.2.1 c h0 h1
  have b2 := sBe_bd hS h0 h1
  have b3 := sBh_bd hS h0 h1
  have key : w_T (eRi_isBend_29 Lg d r c (sRow S c) (sBe S c) M) (fun p => p.1 = sBend V S c ∧ cF M p.2) := by
    refine T_le (eRi_isBend_29_E (by omega) hr hv) ?_
    rw [if_pos hM.1, hM.2.1.1.1, w32_id (z := vC V - 1) (by omega) (by omega)]
    have go : w_T ((eRi_isBendBy Lg (d - 1) r c (sBe S c) (sRow S c) (sBh V S c) M).bind (fun p1 => (if p1.1 = 0 ∨ p1.1 = 1 then (some (p1.1, p1.2)) else none))) (fun p => p.1 = sBend V S c ∧ cF M p.2) := by
      refine T_seq (ri_bendBy (by omega) hr hv hV hS h9 hM h0 h1 b2 b1 b3) ?_
      rintro ⟨p1, p2⟩ ⟨e1, e2⟩
      dsimp only at e1 e2 ⊢
      rw [if_pos (by rw [e1]; exact (sBendBy_is hV hS h0 h1 b2 b1 b3).2)]
      exact T_some ⟨e1, e2⟩
    by_cases hl : c < vC V - 1
    · rw [if_pos hl, w32_id (z := c + 1) (by omega) (by omega), if_pos (by omega), hM.2.2.2.1 _ (by omega) (by omega)]
      have e : sBh V S c = sRow S (c + 1) := by unfold sBh; rw [if_neg (by omega)]
      rw [e] at go
      exact go
    · rw [if_neg hl]
      have e : sBh V S c = sRow S c := by unfold sBh; rw [if_pos (by omega)]
      rw [e] at go
      exact go
  refine T_le (eRi_isBend_E hr) ?_
  rw [if_pos (by omega), hM.2.2.2.1 c h0 (by omega)]
  by_cases hp : 0 < c
  · rw [if_pos hp, w32_id (z := c - 1) (by omega) (by omega), if_pos (by omega), hM.2.2.2.1 _ (by omega) (by omega)]
    have e : sBe S c = sRow S (c - 1) := by unfold sBe; rw [if_neg (by omega)]
    rw [e] at key
    exact key
  · rw [if_neg hp]
    have e : sBe S c = sRow S c := by unfold sBe; rw [if_pos (by omega)]
    rw [e] at key
    exact key
theorem ri_bendsL (hd : 3 < d) (hr : bz_oR r s) (hv : bz_oV v) (hV : vOK V) (hS : sOK V S) (h9 : S 0 ≤ 999) {b : Int} (hb : b < vC V) : ∀ (k : Nat) (c n : Int) (M : bz_M), cR V S r s v M → 0 ≤ c → c + k = b + 1 → 0 ≤ n → n + k ≤ 100 → w_T (eRi_countBends_5 Lg d r b n c M) (fun p => p.1 = sBendsL V S k c n ∧ cF M p.2)
  | 0, c, n, M, hM, h0, h1, h2, h3 => by
    refine T_le (eRi_countBends_5_E (by omega) hr) ?_
    rw [if_pos (by omega)]
    exact T_some ⟨rfl, cF_refl _⟩
  | k + 1, c, n, M, hM, h0, h1, h2, h3 => by
    have hC := hV.2.1
    refine T_le (eRi_countBends_5_E (by omega) hr) ?_
    rw [if_neg (by omega), w32_id (z := c + 1) (by omega) (by omega), w32_id (z := n + 1) (by omega) (by omega)]
    refine T_seq (ri_bend (by omega) hr hv hV hS h9 hM h0 (by omega)) ?_
    rintro ⟨p1, p2⟩ ⟨e1, e2⟩
    dsimp only at e1 e2 ⊢
    rw [e1]
    unfold sBendsL
    have hM2 := cR_cF hr hv hM e2
    split <;> rename_i hc
    · exact T_mono (ri_bendsL hd hr hv hV hS h9 hb k (c + 1) n p2 hM2 (by omega) (by omega) (by omega) (by omega)) (fun p hp => ⟨hp.1, cF_trans e2 hp.2⟩)
    · exact T_mono (ri_bendsL hd hr hv hV hS h9 hb k (c + 1) (n + 1) p2 hM2 (by omega) (by omega) (by omega) (by omega)) (fun p hp => ⟨hp.1, cF_trans e2 hp.2⟩)
theorem ri_bends (hd : 3 < d) (hr : bz_oR r s) (hv : bz_oV v) (hV : vOK V) (hS : sOK V S) (h9 : S 0 ≤ 999) (hM : cR V S r s v M) {a b : Int} (ha : 0 ≤ a) (hab : a ≤ b + 1) (hb : b < vC V) : w_T (eRi_countBends Lg d r a b M) (fun p => p.1 = sBends V S a b ∧ cF M p.2) := by
  have hC := hV.2.1
  exact T_le eRi_countBends_E (ri_bendsL hd hr hv hV hS h9 hb (b + 1 - a).toNat a 0 M hM ha (by omega) (by omega) (by omega))
end CRI

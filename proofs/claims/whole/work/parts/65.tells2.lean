/-! QUERIES: tells, whole -/
section TM
variable {Lg d v : Nat} {V M M0 M' : bz_M} {S : Nat → Int} {K : Int} {A : Nat → Int}
/-- rows ahead, laid by the class: n seasons on, from row x -/
def wRow (V : bz_M) (S : Nat → Int) (c L : Int) (B : Nat → Int) (X : Int) : Prop := ∀ x, 0 ≤ x → x < X → ∀ m : Nat, 1 ≤ m → (m : Int) ≤ L → B (Int.toNat (8 * (m : Int) + x)) = way V S c x m
theorem fc_fol (hd : 5 < d) (hv : bz_oV v) (hV : vOK V) (hS : sOK V S) (hM : cR V S 131 148 v M) {c x L : Int} (h0 : 0 ≤ c) (h1 : c < vC V) (hx : 0 ≤ x ∧ x < vR V) (hL0 : 1 ≤ L) (hL : L ≤ 30) (h9 : S 0 + L ≤ 999) (hB : wRow V S c L (M 283) x) : w_T (eFc_followRow Lg d c x L M) (fun M' => wRow V S c L (M' 283) (x + 1) ∧ qC M M' ∧ M' 279 = M 279) := by
  have hC := hV.2.1
  have hR := hV.2.2.1
  refine T_le (eFc_followRow_E (by omega)) ?_
  refine T_seq (ri_follow (by omega) hv hM) ?_
  rintro M1 ⟨a1, _, _, a4⟩
  rw [if_pos (by omega)]
  have hc := cR_row hr285 hv a1 (c := c) (x := x) h0 (by omega)
  refine fc_fr (by omega) hv hV hS h0 h1 hx hL h9 L.toNat 0 _ hc (by omega) (fun m a b => by omega) (fun M' q1 q2 q3 => ⟨fun y a b m b1 b2 => ?_, qC_of (fun q hq => ?_), ?_⟩)
  · by_cases e : y = x
    · rw [e]; exact q1 m b1 b2
    · have hy : y ≠ x := e
      rw [q2 (m : Int) y (by omega) a (by omega) hy, bz_up_fn (by decide), a4 283 (by decide)]
      exact hB y a (by omega) m b1 b2
  · rw [q3 q (by omega) (by omega), bz_up_fn (by omega), a4 q (by omega)]
  · rw [q3 279 (by decide) (by decide), bz_up_fn (by decide), a4 279 (by decide)]
theorem cN_succ {f w : Int → Int} {t : Int} {k : Nat} (hf : f (k : Int) ≠ 0) : cN f w t (k + 1) = if w (k : Int) = t then cN f w t k + 1 else cN f w t k := by
  show cN f w t k + (if f (k : Int) = 0 then 0 else if w (k : Int) = t then 1 else 0) = _
  rw [if_neg hf]
  by_cases h : w (k : Int) = t
  · rw [if_pos h, if_pos h]
  · rw [if_neg h, if_neg h]; omega
theorem cN_skip {f w : Int → Int} {t : Int} {k : Nat} (hf : f (k : Int) = 0) : cN f w t (k + 1) = cN f w t k := by
  show cN f w t k + _ = _
  rw [if_pos hf]; omega
theorem fc_mlL (hd : 0 < d) (hv : bz_oV v) (hV : vOK V) {f w : Int → Int} {n : Nat} (hn : 1 ≤ n ∧ n ≤ 30) (hw : ∀ x, 0 ≤ x → x < vR V → 0 ≤ w x ∧ w x < vR V) {X : Int} (hX : X = qRanL f (vR V).toNat 0 0) : ∀ (k : Nat) (r : Nat) (m : Int) (M : bz_M), cR V S 131 148 v M → (∀ x, 0 ≤ x → x < vR V → M 283 (Int.toNat (8 * (n : Int) + x)) = w x) → (r : Int) + k = vR V → (∀ t : Int, 0 ≤ t → t < 8 → M 284 t.toNat = cN f w t r) → (∀ t : Int, 0 ≤ t → t < 8 → cN f w t r ≤ m) → (m = 0 ∨ ∃ a : Int, 0 ≤ a ∧ a < r ∧ f a ≠ 0 ∧ cN f w (w a) r = m) → w_T (eFc_mostLeft_26 Lg d X (n : Int) m (r : Int) M) (fun p => p.1 = mst f w (vR V).toNat ∧ ∀ q, q ≠ 284 → p.2 q = M q)
  | 0, r, m, M, hM, h3, hk, h4, h5, h6 => by
    have hR := hV.2.2.1
    refine T_le (eFc_mostLeft_26_E (by omega) hv) ?_
    rw [if_pos hM.1, hM.2.1.1.2.1, if_neg (by omega)]
    refine T_some ⟨isMx_u ⟨fun a a0 a1 a2 => ?_, ?_⟩ mst_mx, fun _ _ => rfl⟩
    · have hb := hw a a0 (by omega)
      have := h5 (w a) hb.1 (by omega)
      rw [show (vR V).toNat = r by omega]; exact this
    · rw [show (vR V).toNat = r by omega]; exact h6
  | k + 1, r, m, M, hM, h3, hk, h4, h5, h6 => by
    have hR := hV.2.2.1
    have hr : (0 : Int) ≤ r ∧ (r : Int) < vR V := by push_cast at hk; omega
    have hwr := hw r hr.1 hr.2
    have hcb := cN_bd (f := f) (w := w) (t := w r) r
    have hix : (0 : Int) ≤ 8 * (n : Int) + (r : Int) ∧ 8 * (n : Int) + (r : Int) < 248 := by omega
    have hw8 : (0 : Int) ≤ w r ∧ w r < 8 := by omega
    have hc2 : -2147483648 ≤ cN f w (w r) r + 1 ∧ cN f w (w r) r + 1 < 2147483648 := by omega
    have hbit := ran_bit (f := f) (R := (vR V).toNat) (by omega) (r := (r : Int)) hr.1 (by omega)
    rw [← hX] at hbit
    have wc : bz_w32 (bz_w32 ((n : Int) * 8) + (r : Int)) = 8 * (n : Int) + (r : Int) := by rw [w32_id (z := (n : Int) * 8) (by omega) (by omega), w32_id (by omega) (by omega)]; omega
    have w1 : bz_w32 ((r : Int) + 1) = ((r + 1 : Nat) : Int) := by rw [w32_id (by omega) (by omega)]; omega
    refine T_le (eFc_mostLeft_26_E (by omega) hv) ?_
    rw [if_pos hM.1, hM.2.1.1.2.1, if_pos hr.2, wc, if_pos hix, h3 r hr.1 hr.2, if_pos hw8, bz_up_eq, h4 (w r) hw8.1 hw8.2, w1, w32_id (z := cN f w (w r) r + 1) hc2.1 hc2.2]
    clear wc w1
    by_cases hf : f (r : Int) = 0
    · rw [if_neg (fun h => hbit.mp h hf)]
      refine fc_mlL hd hv hV hn hw hX k (r + 1) m M hM h3 (by push_cast at hk ⊢; omega) (fun t a b => by rw [cN_skip hf]; exact h4 t a b) (fun t a b => by rw [cN_skip hf]; exact h5 t a b) ?_
      rcases h6 with e | ⟨a, a0, a1, a2, e⟩
      · exact Or.inl e
      · exact Or.inr ⟨a, a0, by push_cast; omega, a2, by rw [cN_skip hf]; exact e⟩
    · rw [if_pos (hbit.mpr hf)]
      have kf : ∀ q, q ≠ 284 → bz_up M 284 (w r).toNat (cN f w (w r) r + 1) q = M q := fun q h => bz_up_fn h
      have h5r := h5 (w r) hw8.1 hw8.2
      have hne : ∀ t : Int, 0 ≤ t → ¬ w r = t → t.toNat ≠ (w r).toNat := by intro t a b; omega
      refine T_mono (fc_mlL hd hv hV hn hw hX k (r + 1) (max m (cN f w (w r) r + 1)) _ (cR_qC hv hM (qC_of (fun q hq => kf q (by omega)))) (fun x a b => by rw [kf 283 (by decide)]; exact h3 x a b) (by push_cast at hk ⊢; omega) (fun t a b => ?_) (fun t a b => ?_) ?_) (fun p hp => ⟨hp.1, fun q hq => (hp.2 q hq).trans (kf q hq)⟩)
      · rw [cN_succ hf, bz_up_rk]
        by_cases e : w r = t
        · rw [if_pos ⟨rfl, by rw [e]⟩, if_pos e, e]
        · rw [if_neg (fun h => hne t a e h.2), if_neg e]; exact h4 t a b
      · rw [cN_succ hf]
        have := h5 t a b
        split
        · rename_i e; rw [← e]; omega
        · omega
      · by_cases hl : m ≤ cN f w (w r) r + 1
        · refine Or.inr ⟨r, hr.1, by push_cast; omega, hf, ?_⟩
          rw [cN_succ hf, if_pos rfl]; omega
        · rcases h6 with e | ⟨a, a0, a1, a2, e⟩
          · exfalso; omega
          · refine Or.inr ⟨a, a0, by push_cast; omega, a2, ?_⟩
            rw [cN_succ hf]
            by_cases ew : w r = w a
            · exfalso; rw [ew] at hl; omega
            · rw [if_neg ew, e]; omega
theorem fc_ml0 {X n : Int} {Q : Int × bz_M → Prop} : ∀ (k : Nat) (i : Int) (M : bz_M), 0 ≤ i → i + k = 8 → (∀ j : Nat, (j : Int) < i → M 284 j = 0) → (∀ M', (∀ j, j < 8 → M' 284 j = 0) → (∀ q, q ≠ 284 → M' q = M q) → w_T (eFc_mostLeft_26 Lg d X n 0 0 M') Q) → w_T (eFc_mostLeft_2 Lg d X n i M) Q
  | 0, i, M, h0, h1, hz, hQ => by
    refine T_le eFc_mostLeft_2_E ?_
    rw [if_neg (by omega)]
    exact hQ M (fun j hj => hz j (by omega)) (fun _ _ => rfl)
  | k + 1, i, M, h0, h1, hz, hQ => by
    refine T_le eFc_mostLeft_2_E ?_
    rw [if_pos (by omega), if_pos (by omega), w32_id (by omega) (by omega)]
    refine fc_ml0 k (i + 1) _ (by omega) (by omega) (fun j hj => ?_) (fun M' a b => hQ M' a (fun q hq => by rw [b q hq, bz_up_fn hq]))
    rw [bz_up_rk]
    split
    · rfl
    · exact hz j (by omega)
theorem fc_ml (hd : 0 < d) (hv : bz_oV v) (hV : vOK V) (hM : cR V S 131 148 v M) {f w : Int → Int} {n : Nat} (hn : 1 ≤ n ∧ n ≤ 30) (hw : ∀ x, 0 ≤ x → x < vR V → 0 ≤ w x ∧ w x < vR V) (h3 : ∀ x, 0 ≤ x → x < vR V → M 283 (Int.toNat (8 * (n : Int) + x)) = w x) : w_T (eFc_mostLeft Lg d (qRanL f (vR V).toNat 0 0) (n : Int) M) (fun p => p.1 = mst f w (vR V).toNat ∧ ∀ q, q ≠ 284 → p.2 q = M q) := by
  have hR := hV.2.2.1
  refine T_le eFc_mostLeft_E ?_
  refine fc_ml0 8 0 M (by omega) (by omega) (fun j hj => by omega) (fun M1 a b => ?_)
  refine T_mono (fc_mlL (f := f) (w := w) hd hv hV hn hw rfl (vR V).toNat 0 0 M1 (cR_qC hv hM (qC_of (fun q hq => b q (by omega)))) (fun x c e => by rw [b 283 (by decide)]; exact h3 x c e) (by omega) (fun t c e => by rw [a t.toNat (by omega)]; rfl) (fun t c e => Int.le_refl _) (Or.inl rfl)) (fun p hp => ⟨hp.1, fun q hq => (hp.2 q hq).trans (b q hq)⟩)
theorem fc_72 (hd : 1 < d) (hv : bz_oV v) (hV : vOK V) (hS : sOK V S) (h9 : S 0 ≤ 999) {f : Int → Int} {c L : Int} (h0 : 0 ≤ c) (h1 : c < vC V) (hL : L ≤ 30) : ∀ (k : Nat) (n : Nat) (q : Int × Int) (M : bz_M), cR V S 131 148 v M → wRow V S c L (M 283) (vR V) → 1 ≤ n → (n : Int) + k = L + 1 → ((q.1 = -1 ∧ M 279 5 = 9) ∨ (0 ≤ q.1 ∧ M 279 4 = q.1 ∧ M 279 5 = q.2)) → w_T (eFc_findTelling_72 Lg d (qRanL f (vR V).toNat 0 0) L (n : Int) M) (fun p => p.1 = 1 ∧ (((qTeL (fun n => mst f (fun x => way V S c x n) (vR V).toNat) k n q).1 = -1 ∧ k = 0) ∨ (0 ≤ (qTeL (fun n => mst f (fun x => way V S c x n) (vR V).toNat) k n q).1 ∧ p.2 279 4 = (qTeL (fun n => mst f (fun x => way V S c x n) (vR V).toNat) k n q).1 ∧ p.2 279 5 = (qTeL (fun n => mst f (fun x => way V S c x n) (vR V).toNat) k n q).2)) ∧ qC M p.2)
  | 0, n, q, M, hM, hB, hn, hk, hq => by
    refine T_le (eFc_findTelling_72_E (by omega)) ?_
    rw [if_pos (by omega)]
    refine T_some ⟨rfl, ?_, qC_refl _⟩
    rcases hq with g | g
    · exact Or.inl ⟨g.1, rfl⟩
    · exact Or.inr g
  | k + 1, n, q, M, hM, hB, hn, hk, hq => by
    have hR := hV.2.2.1
    have hn30 : n ≤ 30 := by push_cast at hk; omega
    have hmb := mst_bd (f := f) (w := fun x => way V S c x n) (R := (vR V).toNat)
    refine T_le (eFc_findTelling_72_E (by omega)) ?_
    rw [if_neg (by push_cast at hk; omega), show bz_w32 ((n : Int) + 1) = ((n + 1 : Nat) : Int) by rw [w32_id (by omega) (by omega)]; omega]
    refine T_seq (fc_ml (f := f) (w := fun x => way V S c x n) (by omega) hv hV hM ⟨hn, hn30⟩ (fun x a b => way_bd hV hS h9 h0 h1 ⟨a, b⟩ hn30) (fun x a b => hB x a b n hn (by push_cast at hk; omega))) ?_
    rintro ⟨p1, p2⟩ ⟨a1, a2⟩
    dsimp only at a1 a2 ⊢
    have q2 : qC M p2 := qC_of (fun p hp => a2 p (by omega))
    have e9 : p2 279 = M 279 := a2 279 (by decide)
    rw [a1]
    unfold qTeL
    have step : ∀ (q' : Int × Int) (M1 : bz_M), qC M M1 → M1 283 = M 283 → ((q'.1 = -1 ∧ M1 279 5 = 9) ∨ (0 ≤ q'.1 ∧ M1 279 4 = q'.1 ∧ M1 279 5 = q'.2)) → 0 ≤ q'.1 → w_T (eFc_findTelling_72 Lg d (qRanL f (vR V).toNat 0 0) L ((n + 1 : Nat) : Int) M1) (fun p => p.1 = 1 ∧ (((qTeL (fun n => mst f (fun x => way V S c x n) (vR V).toNat) k (n + 1) q').1 = -1 ∧ k + 1 = 0) ∨ (0 ≤ (qTeL (fun n => mst f (fun x => way V S c x n) (vR V).toNat) k (n + 1) q').1 ∧ p.2 279 4 = (qTeL (fun n => mst f (fun x => way V S c x n) (vR V).toNat) k (n + 1) q').1 ∧ p.2 279 5 = (qTeL (fun n => mst f (fun x => way V S c x n) (vR V).toNat) k (n + 1) q').2)) ∧ qC M p.2) := by
      intro q' M1 z1 z2 z3 z4
      refine T_mono (fc_72 hd hv hV hS h9 h0 h1 hL k (n + 1) q' M1 (cR_qC hv hM z1) (by rw [z2]; exact hB) (by omega) (by push_cast at hk ⊢; omega) z3) ?_
      rintro ⟨r1, r2⟩ ⟨s1, s2, s3⟩
      refine ⟨s1, ?_, qC_trans z1 s3⟩
      rcases s2 with ⟨g1, g2⟩ | g
      · exfalso
        subst g2
        have : q'.1 = -1 := g1
        omega
      · exact Or.inr g
    have hq1 : q.1 = -1 ∨ 0 ≤ q.1 := by rcases hq with g | g; exact Or.inl g.1; exact Or.inr g.1
    have e83 : p2 283 = M 283 := a2 283 (by decide)
    have up : qC M (bz_up (bz_up p2 279 5 (mst f (fun x => way V S c x n) (vR V).toNat)) 279 4 (n : Int)) := qC_trans q2 (qC_trans (qC_282 (by decide)) (qC_282 (by decide)))
    have setq := step ((n : Int), mst f (fun x => way V S c x n) (vR V).toNat) _ up (by rw [bz_up_fn (by decide), bz_up_fn (by decide), e83]) (Or.inr ⟨by dsimp only; omega, bz_up_eq _ _ _ _, by rw [bz_up_nk (by decide), bz_up_eq]⟩) (by dsimp only; omega)
    rcases hq with ⟨g1, g2⟩ | ⟨g0, g1, g2⟩
    · have hlt : mst f (fun x => way V S c x n) (vR V).toNat < p2 279 5 := by rw [e9, g2]; omega
      rw [if_pos hlt, if_pos g1]
      exact setq
    · have e95 : p2 279 5 = q.2 := by rw [e9]; exact g2
      rw [if_neg (show ¬ q.1 = -1 by omega)]
      by_cases hl : mst f (fun x => way V S c x n) (vR V).toNat < q.2
      · rw [if_pos (show mst f (fun x => way V S c x n) (vR V).toNat < p2 279 5 by rw [e95]; exact hl), if_pos hl]; exact setq
      · rw [if_neg (show ¬ mst f (fun x => way V S c x n) (vR V).toNat < p2 279 5 by rw [e95]; exact hl), if_neg hl]
        exact step q p2 q2 e83 (Or.inr ⟨g0, by rw [e9]; exact g1, by rw [e9]; exact g2⟩) g0
theorem fc_34 (hd : 6 < d) (hv : bz_oV v) (hV : vOK V) (hS : sOK V S) (h9 : S 0 ≤ 999) {f : Int → Int} {c L : Int} (h0 : 0 ≤ c) (h1 : c < vC V) (hL0 : 1 ≤ L) (hL : L ≤ 30) (hL9 : S 0 + L ≤ 999) {Q : Int × bz_M → Prop} : ∀ (k : Nat) (x : Int) (M : bz_M), cR V S 131 148 v M → wRow V S c L (M 283) x → 0 ≤ x → x + k = vR V → (∀ M', qC M M' → wRow V S c L (M' 283) (vR V) → w_T (eFc_findTelling_72 Lg d (qRanL f (vR V).toNat 0 0) L 1 (bz_up M' 279 5 9)) Q) → w_T (eFc_findTelling_34 Lg d c (qRanL f (vR V).toNat 0 0) L x M) Q
  | 0, x, M, hM, hB, g0, g1, hQ => by
    refine T_le (eFc_findTelling_34_E (by omega) hv) ?_
    rw [if_pos hM.1, hM.2.1.1.2.1, if_neg (by omega)]
    have e : x = vR V := by omega
    rw [e] at hB
    exact hQ M (qC_refl _) hB
  | k + 1, x, M, hM, hB, g0, g1, hQ => by
    have hR := hV.2.2.1
    refine T_le (eFc_findTelling_34_E (by omega) hv) ?_
    rw [if_pos hM.1, hM.2.1.1.2.1, if_pos (by omega), w32_id (by omega) (by omega)]
    refine T_seq (fc_fol (by omega) hv hV hS hM h0 h1 (by omega) hL0 hL hL9 hB) ?_
    rintro M1 ⟨a1, a2, _⟩
    exact fc_34 hd hv hV hS h9 h0 h1 hL0 hL hL9 k (x + 1) M1 (cR_qC hv hM a2) a1 (by omega) (by omega) (fun M' b1 b2 => hQ M' (qC_trans a2 b1) b2)
theorem c_tells (hd : 8 < d) (hv : bz_oV v) (hV : vOK V) (hS : sOK V S) (h9 : S 0 ≤ 999) (hK : snOK V K A) (hM : cR V S 131 148 v M) (e1 : M 279 1 = K) (e2 : ∀ j : Nat, (j : Int) < 3 * K → M 280 j = A j) {c w : Int} : w_T (eBr_tells Lg d c w M) (fun p => p.1 = qTells V S K A c w ∧ qC M p.2) := by
  have s0 := hS.1
  have hR := hV.2.2.1
  refine T_le (eBr_tells_E (by omega) hv) ?_
  simp only [bz_b0]
  rw [if_pos hM.1, hM.2.1.1.1]
  unfold qTells
  by_cases h1 : 0 ≤ c ∧ c < vC V
  · rw [if_neg (fun h => h h1)]
    by_cases h2 : w < 0
    · rw [if_pos h2, if_neg (fun h => by omega)]; exact T_some ⟨rfl, qC_refl _⟩
    · rw [if_neg h2]
      by_cases h3 : 1 < w
      · rw [if_pos h3, if_neg (fun h => by omega)]; exact T_some ⟨rfl, qC_refl _⟩
      · rw [if_neg h3, if_pos (show (0 ≤ c ∧ c < vC V) ∧ (0 ≤ w ∧ w ≤ 1) from ⟨h1, by omega⟩)]
        refine T_seq (fc_rbs (by omega) hv hV hS h9 hK hM e1 e2 h1.1 h1.2) ?_
        rintro ⟨p1, p2⟩ ⟨a1, a2⟩
        dsimp only at a1 a2 ⊢
        have q1 := qC_fA a2
        have hM2 := cR_qC hv hM q1
        have e0 : p2 148 0 = S 0 := by rw [hM2.2.2.1.1]; omega
        rw [a1]
        refine T_bind (T_le (eFc_findTelling_E (by omega)) ?_)
        rw [e0, w32_id (z := 999 - S 0) (by omega) (by omega)]
        by_cases hz : qRanL (fb V S K A c) (vR V).toNat 0 0 = 0
        · rw [if_pos hz, if_pos hz]
          exact T_some (T_some ⟨rfl, q1⟩)
        · rw [if_neg hz, if_neg hz]
          by_cases hl : min 30 (999 - S 0) < 1
          · rw [if_pos hl]
            have et : (qTe V S K A c).1 = -1 := by unfold qTe; rw [show (min 30 (999 - S 0)).toNat = 0 by omega]; rfl
            rw [if_pos et]
            exact T_some (T_some ⟨rfl, q1⟩)
          · rw [if_neg hl]
            refine fc_34 (by omega) hv hV hS h9 h1.1 h1.2 (by omega) (by omega) (by omega) (vR V).toNat 0 p2 hM2 (fun x a b => by omega) (by omega) (by omega) (fun M3 b1 b2 => ?_)
            have q3 : qC M (bz_up M3 279 5 9) := qC_trans q1 (qC_trans b1 (qC_282 (by decide)))
            refine T_mono (fc_72 (by omega) hv hV hS h9 h1.1 h1.2 (by omega) (min 30 (999 - S 0)).toNat 1 (-1, 0) _ (cR_qC hv hM q3) (by rw [bz_up_fn (by decide)]; exact b2) (by omega) (by omega) (Or.inl ⟨rfl, bz_up_eq _ _ _ _⟩)) ?_
            rintro ⟨r1, r2⟩ ⟨s1, s2, s3⟩
            dsimp only at s1 s2 s3 ⊢
            have q4 := qC_trans q3 s3
            rcases s2 with g | ⟨g0, g1, g2⟩
            · exfalso; omega
            · have et : ¬ (qTe V S K A c).1 = -1 := by
                have : 0 ≤ (qTe V S K A c).1 := g0
                omega
              rw [s1, if_neg (by decide), if_neg et]
              by_cases hw : w = 0
              · rw [if_pos hw, if_pos hw]; exact T_some ⟨g1, q4⟩
              · rw [if_neg hw, if_neg hw]; exact T_some ⟨g2, q4⟩
  · rw [if_pos h1, if_neg (fun h => h1 h.1)]; exact T_some ⟨rfl, qC_refl _⟩
end TM

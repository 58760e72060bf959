/-! QUERIES: tells, the reference -/
section TN
variable {Lg d : Nat} {V M M0 M' : bz_M} {S : Nat → Int} {K : Int} {A : Nat → Int}
theorem mo_al30 (hd : 0 < d) (hV : vOK V) (hM : mR V S M) {f w : Int → Int} {n : Nat} (hn : n ≤ 30) (hf : ∀ x, 0 ≤ x → x < vR V → M 374 x.toNat = f x) (hw : ∀ x, 0 ≤ x → x < vR V → M 373 (Int.toNat (31 * x) + n) = w x) {m a : Int} (ha : 0 ≤ a ∧ a < vR V) {Q : Int × bz_M → Prop} (hQ : w_T (if m < cN f w (w a) (vR V).toNat then eMo_mostAlike_4 Lg d (n : Int) (cN f w (w a) (vR V).toNat) (bz_w32 (a + 1)) M else eMo_mostAlike_4 Lg d (n : Int) m (bz_w32 (a + 1)) M) Q) : ∀ (k : Nat) (b : Nat), (b : Int) + k = vR V → w_T (eMo_mostAlike_30 Lg d (n : Int) m a (cN f w (w a) b) (b : Int) M) Q
  | 0, b, hk => by
    refine T_le (eMo_mostAlike_30_E hd) ?_
    rw [hM.1.1.2.1, if_neg (by omega)]
    rw [show (vR V).toNat = b by omega] at hQ
    exact hQ
  | k + 1, b, hk => by
    have hR := hV.2.2.1
    have hb : (0 : Int) ≤ b ∧ (b : Int) < vR V := by push_cast at hk; omega
    have hb8 : (0 : Int) ≤ b ∧ (b : Int) < 8 := by omega
    have hcb := cN_bd (f := f) (w := w) (t := w a) b
    have hc2 : -2147483648 ≤ cN f w (w a) b + 1 ∧ cN f w (w a) b + 1 < 2147483648 := by omega
    have i1 : (0 : Int) ≤ 31 * a + (n : Int) ∧ 31 * a + (n : Int) < 248 := by omega
    have i2 : (0 : Int) ≤ 31 * (b : Int) + (n : Int) ∧ 31 * (b : Int) + (n : Int) < 248 := by omega
    have t1 : Int.toNat (31 * a + (n : Int)) = Int.toNat (31 * a) + n := by omega
    have t2 : Int.toNat (31 * (b : Int) + (n : Int)) = Int.toNat (31 * (b : Int)) + n := by omega
    have w1 : bz_w32 (bz_w32 (31 * a) + (n : Int)) = 31 * a + (n : Int) := by rw [w32_id (z := 31 * a) (by omega) (by omega), w32_id (by omega) (by omega)]
    have w2 : bz_w32 (bz_w32 (31 * (b : Int)) + (n : Int)) = 31 * (b : Int) + (n : Int) := by rw [w32_id (z := 31 * (b : Int)) (by omega) (by omega), w32_id (by omega) (by omega)]
    have w3 : bz_w32 ((b : Int) + 1) = ((b + 1 : Nat) : Int) := by rw [w32_id (by omega) (by omega)]; omega
    have ih := mo_al30 hd hV hM hn hf hw ha hQ k (b + 1) (by push_cast at hk ⊢; omega)
    refine T_le (eMo_mostAlike_30_E hd) ?_
    rw [hM.1.1.2.1, if_pos hb.2, if_pos hb8, hf b hb.1 hb.2, w1, w2, w3, if_pos i1, if_pos i2, t1, t2, hw a ha.1 ha.2, hw b hb.1 hb.2, w32_id (z := cN f w (w a) b + 1) hc2.1 hc2.2]
    by_cases hz : f (b : Int) = 0
    · rw [if_pos hz]
      rw [cN_skip hz] at ih
      exact ih
    · rw [if_neg hz]
      rw [cN_succ hz] at ih
      by_cases he : w a = w b
      · rw [if_pos he]
        rw [if_pos he.symm] at ih
        exact ih
      · rw [if_neg he]
        rw [if_neg (fun h => he h.symm)] at ih
        exact ih
theorem mo_al4 (hd : 0 < d) (hV : vOK V) (hM : mR V S M) {f w : Int → Int} {n : Nat} (hn : n ≤ 30) (hf : ∀ x, 0 ≤ x → x < vR V → M 374 x.toNat = f x) (hw : ∀ x, 0 ≤ x → x < vR V → M 373 (Int.toNat (31 * x) + n) = w x) : ∀ (k : Nat) (a m : Int), 0 ≤ a → a + k = vR V → w_T (eMo_mostAlike_4 Lg d (n : Int) m a M) (fun p => p = (aL f w (vR V).toNat k a m, M))
  | 0, a, m, h0, h1 => by
    refine T_le (eMo_mostAlike_4_E hd) ?_
    rw [hM.1.1.2.1, if_neg (by omega)]
    exact T_some rfl
  | k + 1, a, m, h0, h1 => by
    have hR := hV.2.2.1
    have ha8 : (0 : Int) ≤ a ∧ a < 8 := by omega
    have ha : (0 : Int) ≤ a ∧ a < vR V := by omega
    have w1 : bz_w32 (a + 1) = a + 1 := w32_id (by omega) (by omega)
    refine T_le (eMo_mostAlike_4_E hd) ?_
    rw [hM.1.1.2.1, if_pos ha.2, if_pos ha8, hf a ha.1 ha.2]
    unfold aL
    have ih := fun m' => mo_al4 hd hV hM hn hf hw k (a + 1) m' (by omega) (by omega)
    by_cases hz : f a = 0
    · rw [if_pos hz, if_pos hz, w1]
      exact ih m
    · rw [if_neg hz, if_neg hz]
      refine mo_al30 hd hV hM hn hf hw ha ?_ (vR V).toNat 0 (by omega)
      rw [w1]
      by_cases hl : m < cN f w (w a) (vR V).toNat
      · rw [if_pos hl, if_pos hl]; exact ih _
      · rw [if_neg hl, if_neg hl]; exact ih _
theorem mo_al (hd : 0 < d) (hV : vOK V) (hM : mR V S M) {f w : Int → Int} {n : Nat} (hn : n ≤ 30) (hf : ∀ x, 0 ≤ x → x < vR V → M 374 x.toNat = f x) (hw : ∀ x, 0 ≤ x → x < vR V → M 373 (Int.toNat (31 * x) + n) = w x) : w_T (eMo_mostAlike Lg d (n : Int) M) (fun p => p = (mst f w (vR V).toNat, M)) := by
  have hR := hV.2.2.1
  exact T_le eMo_mostAlike_E (mo_al4 hd hV hM hn hf hw (vR V).toNat 0 0 (by omega) (by omega))
theorem mo_te34 (hd : 1 < d) (hV : vOK V) (hS : sOK V S) (h9 : S 0 ≤ 999) (hM : mR V S M) {f : Int → Int} {c z : Int} (hf : ∀ x, 0 ≤ x → x < vR V → M 374 x.toNat = f x) (hw : ∀ x, 0 ≤ x → x < vR V → ∀ m, m < 31 → M 373 (Int.toNat (31 * x) + m) = way V S c x m) (h83 : 0 < M 319 83) : ∀ (k : Nat) (n : Nat) (q : Int × Int), 1 ≤ n → (n : Int) + k = min 30 (999 - S 0) + 1 → w_T (eMo_tells_34 Lg d z q.1 q.2 (n : Int) M) (fun p => p = (if (qTeL (fun n => mst f (fun x => way V S c x n) (vR V).toNat) k n q).1 = -1 then -1 else if z = 0 then (qTeL (fun n => mst f (fun x => way V S c x n) (vR V).toNat) k n q).1 else (qTeL (fun n => mst f (fun x => way V S c x n) (vR V).toNat) k n q).2, M))
  | 0, n, q, hn, hk => by
    have s0 := hS.1
    have e0 : M 364 0 = S 0 := hM.2 0 (by omega)
    have e6 : M 319 60 = 1 := hM.1.1.2.2.2.2.trans hV.1
    have hno : ¬ (¬ (1 : Int) = 0 ∧ (1 ≤ (n : Int) ∧ (n : Int) ≤ 30) ∧ bz_w32 (S 0 + (n : Int)) ≤ 999) := by
      rintro ⟨_, g1, g2⟩
      have : S 0 + (n : Int) ≤ 999 := by rw [w32_id (by omega) (by omega)] at g2; exact g2
      omega
    refine T_le (eMo_tells_34_E (by omega)) ?_
    simp only [bz_b0]
    rw [if_pos h83, e0, e6, if_pos hno]
    unfold qTeL
    by_cases g1 : q.1 = -1
    · rw [if_pos g1, if_pos g1]; exact T_some rfl
    · rw [if_neg g1, if_neg g1]
      by_cases g2 : z = 0
      · rw [if_pos g2, if_pos g2]; exact T_some rfl
      · rw [if_neg g2, if_neg g2]; exact T_some rfl
  | k + 1, n, q, hn, hk => by
    have s0 := hS.1
    have e0 : M 364 0 = S 0 := hM.2 0 (by omega)
    have e6 : M 319 60 = 1 := hM.1.1.2.2.2.2.trans hV.1
    have hn30 : n ≤ 30 := by push_cast at hk; omega
    have hyes : (¬ (1 : Int) = 0 ∧ (1 ≤ (n : Int) ∧ (n : Int) ≤ 30) ∧ bz_w32 (S 0 + (n : Int)) ≤ 999) := by
      refine ⟨by decide, by omega, ?_⟩
      rw [w32_id (by omega) (by omega)]; push_cast at hk; omega
    have ih := fun q' => mo_te34 hd hV hS h9 hM (z := z) hf hw h83 k (n + 1) q' (by omega) (by push_cast at hk ⊢; omega)
    have w1 : bz_w32 ((n : Int) + 1) = ((n + 1 : Nat) : Int) := by rw [w32_id (by omega) (by omega)]; omega
    refine T_le (eMo_tells_34_E (by omega)) ?_
    simp only [bz_b0]
    rw [if_pos h83, e0, e6, if_neg (fun h => h hyes)]
    refine T_seq (mo_al (by omega) hV hM (f := f) (w := fun x => way V S c x n) hn30 hf (fun x a b => hw x a b n (by omega))) ?_
    rintro p rfl
    dsimp only
    unfold qTeL
    rw [w1]
    by_cases g1 : q.1 = -1
    · rw [if_pos g1, if_pos g1]; exact ih ((n : Int), mst f (fun x => way V S c x n) (vR V).toNat)
    · rw [if_neg g1, if_neg g1]
      by_cases g2 : mst f (fun x => way V S c x n) (vR V).toNat < q.2
      · rw [if_pos g2, if_pos g2]; exact ih ((n : Int), mst f (fun x => way V S c x n) (vR V).toNat)
      · rw [if_neg g2, if_neg g2]; exact ih q
theorem m_tells (hd : 9 < d) (hV : vOK V) (hS : sOK V S) (h9 : S 0 ≤ 999) (hK : snOK V K A) (hM : mR V S M) (h7 : M 319 70 = 0) (e1 : M 319 79 = K) (e2 : ∀ j : Nat, (j : Int) < 3 * K → M 372 j = A j) {c w : Int} : w_T (eMo_tells Lg d c w M) (fun p => p.1 = qTells V S K A c w ∧ qM M p.2) := by
  have hC := hV.2.1
  have hR := hV.2.2.1
  have s0 := hS.1
  have e6 : M 319 60 = 1 := hM.1.1.2.2.2.2.trans hV.1
  refine T_le (eMo_tells_E (by omega)) ?_
  simp only [bz_b0]
  rw [hM.1.1.1, e6, w32_id (z := vC V - 1) (by omega) (by omega)]
  unfold qTells
  by_cases h1 : 0 ≤ c ∧ c < vC V
  · rw [if_neg (fun h => h (by omega))]
    by_cases h2 : 0 ≤ w ∧ w ≤ 1
    · rw [if_neg (fun h => h h2), if_pos (show (0 ≤ c ∧ c < vC V) ∧ (0 ≤ w ∧ w ≤ 1) from ⟨h1, h2⟩)]
      refine T_seq (mo_fits (by omega) hV hS h9 hK hM h7 e1 e2 h1.1 h1.2) ?_
      rintro M1 ⟨a1, a2⟩
      have hM1 := mR_qM hM a1
      have hz := ran_zero (f := fb V S K A c) (R := (vR V).toNat) (by omega)
      have hp := fC_pos (f := fb V S K A c) (vR V).toNat 0 0 (by omega)
      by_cases h83 : 0 < M1 319 83
      · have hnz : ¬ qRanL (fb V S K A c) (vR V).toNat 0 0 = 0 := by
          intro h
          have g := hz.mp h
          have := hp.mpr ⟨rfl, fun y a b => g y a (by omega)⟩
          rw [a2.2.2] at h83
          omega
        rw [if_neg hnz]
        by_cases hl : 1 ≤ min 30 (999 - S 0)
        · refine T_mono (mo_te34 (f := fb V S K A c) (c := c) (z := w) (by omega) hV hS h9 hM1 a2.1 (fun x a b m hm => a2.2.1 x a b m hm) h83 (min 30 (999 - S 0)).toNat 1 (-1, 0) (by omega) (by omega)) ?_
          rintro p rfl
          exact ⟨rfl, a1⟩
        · have et : (qTe V S K A c).1 = -1 := by unfold qTe; rw [show (min 30 (999 - S 0)).toNat = 0 by omega]; rfl
          rw [if_pos et]
          refine T_mono (mo_te34 (f := fb V S K A c) (c := c) (z := w) (by omega) hV hS h9 hM1 a2.1 (fun x a b m hm => a2.2.1 x a b m hm) h83 0 1 (-1, 0) (by omega) (by omega)) ?_
          rintro p rfl
          exact ⟨rfl, a1⟩
      · have hz0 : qRanL (fb V S K A c) (vR V).toNat 0 0 = 0 := by
          rw [a2.2.2] at h83
          have g := hp.mp (by omega)
          exact hz.mpr (fun r a b => g.2 r a (by omega))
        rw [if_pos hz0]
        refine T_le (eMo_tells_34_E (by omega)) ?_
        rw [if_neg h83, if_pos rfl]
        exact T_some ⟨rfl, a1⟩
    · rw [if_pos h2, if_neg (fun h => h2 h.2)]; exact T_some ⟨rfl, qM_refl _⟩
  · rw [if_pos (by omega), if_neg (fun h => h1 h.1)]; exact T_some ⟨rfl, qM_refl _⟩
end TN

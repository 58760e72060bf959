/-! THE CLASS READS SUMS AND TESTS: parts, truths, all -/
section CI
variable {Lg n c : Nat} {T : Nat → Int} {w : Int} {M M' : bz_M} {q : pL} {cs : List Int}
theorem pBk_n {v : Int} (h : 0 ≤ v) : pBk (1000 + v) = v := by unfold pBk; rw [if_pos (by omega)]; omega
theorem pBk_f {v : Int} (h : 0 ≤ v ∧ v ≤ 17) : pBk (40 + v) = 10000 + v := by unfold pBk; rw [if_neg (by omega), if_neg (by omega), if_pos (by omega)]; omega
theorem wFa_rg (hw : w = 2 ∨ w = 4 ∨ w = 8) {i : Nat} (hi : i < 39) (h : bz_and (wPl i) w ≠ 0) : 0 ≤ wFa i ∧ wFa i ≤ 17 := by
  have hf := wF_all i hi
  rcases hw with rfl | rfl | rfl
  · have := hf.1 h; omega
  · have := hf.2.1 h; omega
  · have := hf.2.2 h; omega
theorem cg_ofc {f : Nat} (hw : w = 2 ∨ w = 4 ∨ w = 8) (hc : bz_oC c) (hS : cgX T n w c f 0 6 (eGr_part Lg)) {d o : Nat} {out : pO} {k : Int} (hd : 4 * (6 - o) + 5 ≤ d) (ho : o ≤ 6) (hk4 : tD T n q ≠ 4) (hk0 : tK T n q.1 ≠ 0) (hP : cPre T n w c cs q M) (h : (if o < 6 then rB (rd T n w f 0 (o + 1) (nx T n q)) (fun q1 c => some (.inr (q1, c ++ [k]))) else rE 4 q) = some out) : w_T (eGr_ofColumn Lg d (o : Int) (pBk k) M) (cPost T n c cs M out) := by
  refine T_le (eGr_ofColumn_E (c := c) (by omega) hc) ?_
  by_cases o6 : o < 6
  · rw [if_pos o6] at h
    have gt0 := nx_gt hP.2.2.2.1 hk0
    have hl := hP.2.2.1
    refine T_seq (gr_op1 hc (by omega) o6 hP hk4) ?_
    rintro ⟨p1, p2⟩ ⟨e1, hP1, f1⟩
    dsimp only at e1 hP1 f1 ⊢
    rw [e1, if_neg (by decide), w32_id (by omega) (by omega)]
    rcases rB_inv h with ⟨e, e1', rfl⟩ | ⟨q1, c1, e1', h1⟩
    · refine T_seq (hS (d - 1) (o + 1) _ p2 cs _ (by omega) (by omega) hP1 e1') ?_
      rintro M1 ⟨a, b⟩
      rw [if_pos b.2.2]
      refine T_seq (fx_put hc b) ?_
      rintro M5 ⟨a5, b5⟩
      exact T_some ⟨cFr_trans (cFr_fT f1) (cFr_trans a b5), a5⟩
    · cases h1
      have g1 := rd_good hw f 0 (o + 1) _ q1 c1 (by omega) (by omega) hP1.2.2.2.1 e1'
      refine T_seq (hS (d - 1) (o + 1) _ p2 cs _ (by omega) (by omega) hP1 e1') ?_
      rintro M1 ⟨a, b1, b2⟩
      have hP2 : cPre T n w c (cs ++ c1) q1 M1 := pre_next hc hP1 a b1 b2 g1.2.1 g1.1
      have hg := g1.2.1
      rw [if_pos hP2.2.2.2.2.2.2.1]
      refine T_seq (ok_put hc hP2 (op := k) (by rw [List.length_append]; omega)) ?_
      rintro M5 ⟨hP6, f6⟩
      refine T_some (out_ok (w := w) (cFr_trans (cFr_fT f1) (cFr_trans a f6)) ?_)
      rw [← List.append_assoc]
      exact hP6
  · rw [if_neg o6] at h
    cases h
    refine T_seq (gr_op0 hc (by omega) o6 hP) ?_
    rintro ⟨p1, p2⟩ ⟨e1, x, f1⟩
    dsimp only at e1 x f1 ⊢
    rw [e1, if_pos rfl]
    exact T_some ⟨cFr_fT f1, x⟩
theorem cg_part {f : Nat} (hw : w = 2 ∨ w = 4 ∨ w = 8) (hc : bz_oC c) (hS : cgX T n w c f 3 8 (eGr_sum Lg)) (hO : cgX T n w c f 0 6 (eGr_part Lg)) : cgX T n w c (f + 1) 0 6 (eGr_part Lg) := by
  intro d o q M cs out hd ho hP h
  change rPart T n w (rd T n w f) o q = some out at h
  have hl := hP.2.2.1
  have hcc := oC_c hc
  unfold rPart at h
  refine T_le (eGr_part_E (c := c) (by omega) hc) ?_
  rw [hP.1.2.2.2.1]
  by_cases k2 : tD T n q = 2
  · rw [if_pos k2] at h ⊢
    rw [if_pos hP.2.2.2.2.2.2.1]
    have gt0 := nx_gt hP.2.2.2.1 (by rw [(tD_k (Or.inr rfl) k2).1]; decide)
    refine T_seq (tx_num (by omega) hP.2.2.2.2.1 hP.2.2.2.2.2.1 hP.2.2.2.1 hP.1) ?_
    rintro ⟨p1, p2⟩ ⟨e1, f1⟩
    dsimp only at e1 f1 ⊢
    unfold rNum at h
    cases hv : tNum T n 0 9999 q with
    | inl e =>
      rw [hv] at h e1
      cases h
      have x1 : cFx n c e.1 (e.2 : Int) p2 := fx_of hc hP f1 e1.2
      refine T_seq (fx_put hc x1) ?_
      rintro M5 ⟨a5, b5⟩
      exact T_some ⟨cFr_trans (cFr_fT f1) b5, a5⟩
    | inr v =>
      rw [hv] at h e1
      cases h
      have ev : p1 = v := e1.1
      have hP1 := pre_nx hc hP f1 e1.2
      have hput := ok_put (Lg := Lg) (d := d - 1) hc hP1 (op := 1000 + v) (by omega)
      rw [pBk_n (tNum_in hv).1.1] at hput
      rw [ev]
      refine T_seq hput ?_
      rintro M5 ⟨hP6, f6⟩
      exact T_some (out_ok (w := w) (cFr_trans (cFr_fT f1) f6) hP6)
  rw [if_neg k2] at h ⊢
  refine T_run (tx_isSign hP.2.2.2.2.2.1 hP.1 (by decide)) ?_
  dsimp only
  by_cases s1 : isS T n 40 q
  · rw [if_pos s1] at h
    rw [bz_b1.mpr s1, if_neg (by decide)]
    by_cases o6 : o < 6
    · rw [if_pos o6] at h
      have gt0 := nx_gt hP.2.2.2.1 (by rw [s1.1]; decide)
      refine T_seq (gr_op1 hc (by omega) o6 hP (by rw [tD_3.mpr s1.1]; decide)) ?_
      rintro ⟨p1, p2⟩ ⟨e1, hP1, f1⟩
      dsimp only at e1 hP1 f1 ⊢
      rw [e1, if_neg (by decide), w32_id (by omega) (by omega)]
      rcases rB_inv h with ⟨e, e1', rfl⟩ | ⟨q1, c1, e1', h1⟩
      · refine T_seq (hS (d - 1) (o + 1) _ p2 cs _ (by omega) (by omega) hP1 e1') ?_
        rintro M1 ⟨a, b⟩
        refine T_seq (tx_ns_f (by omega) b.1) ?_
        rintro M2 ⟨a2, b2⟩
        exact T_some ⟨cFr_trans (cFr_fT f1) (cFr_trans a (cFr_fT b2)), fx_T hc b b2 a2⟩
      · have g1 := rd_good hw f 3 (o + 1) _ q1 c1 (by omega) (by omega) hP1.2.2.2.1 e1'
        refine T_seq (hS (d - 1) (o + 1) _ p2 cs _ (by omega) (by omega) hP1 e1') ?_
        rintro M1 ⟨a, b1, b2⟩
        have hP2 : cPre T n w c (cs ++ c1) q1 M1 := pre_next hc hP1 a b1 b2 g1.2.1 g1.1
        refine T_seq (gr_close hc (by omega) (s := 41) (by decide) hP2) ?_
        rintro M2 ⟨f2, y2, n2⟩
        by_cases s2 : isS T n 41 q1
        · rw [if_pos s2] at h1
          cases h1
          exact T_some (out_ok (w := w) (cFr_trans (cFr_fT f1) (cFr_trans a (cFr_fT f2))) (y2 s2))
        · rw [if_neg s2] at h1
          cases h1
          exact T_some ⟨cFr_trans (cFr_fT f1) (cFr_trans a (cFr_fT f2)), n2 s2⟩
    · rw [if_neg o6] at h
      cases h
      refine T_seq (gr_op0 hc (by omega) o6 hP) ?_
      rintro ⟨p1, p2⟩ ⟨e1, x, f1⟩
      dsimp only at e1 x f1 ⊢
      rw [e1, if_pos rfl]
      exact T_some ⟨cFr_fT f1, x⟩
  rw [if_neg s1] at h
  rw [bz_b0.mpr s1, if_pos rfl]
  by_cases w1 : isW T n 31 q
  · rw [if_pos w1] at h
    have gt0 := nx_gt hP.2.2.2.1 (isW_k w1)
    refine T_seq (tx_tw1 (i := 31) (by omega) hP.2.2.2.2.1 hP.2.2.2.2.2.1 hP.2.2.2.1 hP.1 (by decide) w1) ?_
    rintro ⟨p1, p2⟩ ⟨e1, e2, f1⟩
    dsimp only at e1 e2 f1 ⊢
    rw [e1, if_neg (by decide)]
    refine T_seq (cg_pair hw hc hS (k := 5) (by omega) ho (pre_nx hc hP f1 e2) (by omega) h) ?_
    rintro M1 ⟨a, b⟩
    exact T_some ⟨cFr_trans (cFr_fT f1) a, b⟩
  rw [if_neg w1] at h
  refine T_run (tx_tw0 (i := 31) (by omega) hP.1 (by decide) w1) ?_
  dsimp only
  rw [if_pos rfl]
  by_cases w2 : isW T n 32 q
  · rw [if_pos w2] at h
    have gt0 := nx_gt hP.2.2.2.1 (isW_k w2)
    refine T_seq (tx_tw1 (i := 32) (by omega) hP.2.2.2.2.1 hP.2.2.2.2.2.1 hP.2.2.2.1 hP.1 (by decide) w2) ?_
    rintro ⟨p1, p2⟩ ⟨e1, e2, f1⟩
    dsimp only at e1 e2 f1 ⊢
    rw [e1, if_neg (by decide)]
    refine T_seq (cg_pair hw hc hS (k := 6) (by omega) ho (pre_nx hc hP f1 e2) (by omega) h) ?_
    rintro M1 ⟨a, b⟩
    exact T_some ⟨cFr_trans (cFr_fT f1) a, b⟩
  rw [if_neg w2] at h
  refine T_run (tx_tw0 (i := 32) (by omega) hP.1 (by decide) w2) ?_
  dsimp only
  rw [if_pos rfl, hP.2.2.2.2.2.2.2]
  have hfa := tx_fact (Lg := Lg) (d := d - 1) (by omega) hP.2.2.2.2.1 hP.1 (w := w)
  by_cases w3 : isF T n w q
  · rw [if_pos w3] at h
    cases h
    have gt0 := nx_gt hP.2.2.2.1 (by rw [(tD_k (Or.inl rfl) w3.1).1]; decide)
    have hq1 := (nx_ok hP.2.2.2.1).1
    have hn := hP.2.2.2.2.2.1.1
    have hfr := wFa_rg hw w3.2.1 w3.2.2
    refine T_run (hfa.1 w3) ?_
    dsimp only
    have e5 : M 123 5 = ((5 + wd T n q.1 : Nat) : Int) := by rw [hP.1.2.2.2.2.1, tW_is w3.1, if_pos w3.2.1]
    rw [if_neg (by decide), if_pos hP.2.2.2.2.2.2.1, if_pos (show bz_kd Lg (M 123 5).toNat = some (.inl 12) by rw [e5, Int.toNat_natCast]; exact kd5 w3.2.1), e5, Int.toNat_natCast, show M (5 + wd T n q.1) 2 = wFa (wd T n q.1) from hP.2.2.2.2.1 _ 2 (by omega) (by omega), w32_id (by omega) (by omega)]
    have hput := cd_put (Lg := Lg) (d := d - 1) (op := 40 + wFa (wd T n q.1)) hc hP.2.1 (by omega)
    rw [pBk_f hfr] at hput
    refine T_seq hput ?_
    rintro M1 ⟨a1, a2⟩
    have hX1 := cX_co hP.1 (a2 123 (by omega) (by omega))
    have hs1 : stC M1 := fun r k h1 h2 => by rw [a2 r (by omega) (by omega)]; exact hP.2.2.2.2.1 r k h1 h2
    have ht1 : tb T n M1 := tb_co hP.2.2.2.2.2.1 (a2 124 (by omega) (by omega))
    refine T_seq (tx_step (by omega) hs1 ht1 hP.2.2.2.1 hX1 (by rw [w3.1]; decide)) ?_
    rintro M2 ⟨b1, b2⟩
    refine T_some ⟨cFr_trans (cFr_put a2) (cFr_fT b2), b1, ?_⟩
    unfold cC
    rw [b2 c (by omega), b2 (c + 1) (by omega)]
    exact a1
  rw [if_neg w3] at h
  refine T_run (hfa.2 w3) ?_
  dsimp only
  rw [if_pos rfl]
  have bad : some (.inl (1, q.1)) = some out → w_T ((eTx_fail Lg (d - 1) 1 (M 123 3) M).bind (fun M2 => some M2)) (cPost T n c cs M out) := by
    intro h
    cases h
    rw [hP.1.2.1]
    refine T_seq (tx_fail hP.1 (by decide)) ?_
    rintro M1 ⟨a, b⟩
    exact T_some ⟨cFr_fT b, fx_of hc hP b a⟩
  by_cases w8 : w = 8
  · rw [if_pos (show M 130 2 = 8 by rw [hP.2.2.2.2.2.2.2]; exact w8)]
    refine T_run (tx_isWord hP.1 (i := 16) (by decide)) ?_
    dsimp only
    by_cases r1 : isW T n 16 q
    · rw [bz_b1.mpr r1, if_neg (by decide)]
      rw [if_pos ⟨w8, Or.inl r1⟩, if_pos r1] at h
      refine T_run (tx_isWord hP.1 (i := 16) (by decide)) ?_
      dsimp only
      rw [bz_b1.mpr r1, if_neg (by decide)]
      refine T_seq (cg_ofc hw hc hO (k := 60) (by omega) ho (by rw [r1.1]; decide) (isW_k r1) hP h) ?_
      rintro M1 h1
      exact T_some h1
    · rw [bz_b0.mpr r1, if_pos rfl]
      refine T_run (tx_isWord hP.1 (i := 17) (by decide)) ?_
      dsimp only
      by_cases r2 : isW T n 17 q
      · rw [bz_b1.mpr r2, if_neg (by decide)]
        rw [if_pos ⟨w8, Or.inr r2⟩, if_neg r1] at h
        refine T_run (tx_isWord hP.1 (i := 16) (by decide)) ?_
        dsimp only
        rw [bz_b0.mpr r1, if_pos rfl]
        refine T_seq (cg_ofc hw hc hO (k := 61) (by omega) ho (by rw [r2.1]; decide) (isW_k r2) hP h) ?_
        rintro M1 h1
        exact T_some h1
      · rw [bz_b0.mpr r2, if_pos rfl]
        rw [if_neg (fun h => by rcases h.2 with h | h; exact r1 h; exact r2 h)] at h
        exact bad h
  · rw [if_neg (show ¬ M 130 2 = 8 by rw [hP.2.2.2.2.2.2.2]; exact w8)]
    rw [if_neg (fun h => w8 h.1)] at h
    exact bad h
theorem cg_cmp {f : Nat} (hw : w = 2 ∨ w = 4 ∨ w = 8) (hc : bz_oC c) (hS : cgX T n w c f 3 8 (eGr_sum Lg)) : cgX T n w c (f + 1) 5 9 (eGr_comparison Lg) := by
  intro d o q M cs out hd ho hP h
  change rCmp T n (rd T n w f) o q = some out at h
  refine T_le (eGr_comparison_E (by omega)) ?_
  rcases rB_inv h with ⟨e, e1, rfl⟩ | ⟨q1, c1, e1, h1⟩
  · refine T_seq (hS (d - 1) o q M cs _ (by omega) ho hP e1) ?_
    rintro M1 ⟨a, b⟩
    refine T_run (tx_isSign_f b.1) ?_
    dsimp only
    rw [if_pos rfl]
    refine T_run (tx_isSign_f b.1) ?_
    dsimp only
    rw [if_pos rfl]
    refine T_run (tx_isSign_f b.1) ?_
    dsimp only
    rw [if_pos rfl]
    refine T_le (eGr_comparison_57_E (c := c) (by omega) hc) ?_
    rw [if_pos rfl]
    refine T_seq (tx_fail_f b.1) ?_
    rintro M2 ⟨a2, b2⟩
    exact T_some ⟨cFr_trans a (cFr_fT b2), fx_T hc b b2 a2⟩
  · have g1 := rd_good hw f 3 o q q1 c1 (by omega) ho hP.2.2.2.1 e1
    refine T_seq (hS (d - 1) o q M cs _ (by omega) ho hP e1) ?_
    rintro M1 ⟨a, b1, b2⟩
    have hP1 : cPre T n w c (cs ++ c1) q1 M1 := pre_next hc hP a b1 b2 g1.2.1 g1.1
    have go : ∀ k : Int, k ≠ 0 → pBk k ≠ 0 → opC T n q1 = some k → w_T (eGr_comparison_57 Lg d (o : Int) (pBk k) M1) (cPost T n c cs M out) := by
      intro k hk0 hk1 hk
      rw [hk] at h1
      have ko := opC_in hk
      have gt1 := nx_gt g1.1 (by rw [ko.2]; decide)
      refine T_le (eGr_comparison_57_E (c := c) (by omega) hc) ?_
      rw [if_neg hk1]
      refine T_seq (tx_step (by omega) hP1.2.2.2.2.1 hP1.2.2.2.2.2.1 hP1.2.2.2.1 hP1.1 (by rw [tD_3.mpr ko.2]; decide)) ?_
      rintro M2 ⟨a2, f2⟩
      have hP2 := pre_nx hc hP1 f2 a2
      rcases rB_inv h1 with ⟨e, e2, rfl⟩ | ⟨q2, c2, e2, h2⟩
      · refine T_seq (hS (d - 1) o _ M2 _ _ (by omega) ho hP2 e2) ?_
        rintro M3 ⟨a3, b3⟩
        rw [if_pos b3.2.2]
        refine T_seq (fx_put hc b3) ?_
        rintro M5 ⟨a5, b5⟩
        exact T_some ⟨cFr_trans a (cFr_trans (cFr_fT f2) (cFr_trans a3 b5)), a5⟩
      · cases h2
        have g2 := rd_good hw f 3 o _ q2 c2 (by omega) ho hP2.2.2.2.1 e2
        refine T_seq (hS (d - 1) o _ M2 _ _ (by omega) ho hP2 e2) ?_
        rintro M3 ⟨a3, b3, b3'⟩
        have hP3 : cPre T n w c (cs ++ c1 ++ c2) q2 M3 := pre_next hc hP2 a3 b3 b3' g2.2.1 g2.1
        rw [if_pos hP3.2.2.2.2.2.2.1]
        have := hP.2.2.1
        have := g1.2.1
        have := g2.2.1
        refine T_seq (ok_put hc hP3 (op := k) (by rw [List.length_append, List.length_append]; omega)) ?_
        rintro M5 ⟨hP6, f6⟩
        refine T_some (out_ok (w := w) (cFr_trans a (cFr_trans (cFr_fT f2) (cFr_trans a3 f6))) ?_)
        rw [show cs ++ (c1 ++ c2 ++ [k]) = cs ++ c1 ++ c2 ++ [k] by simp]
        exact hP6
    refine T_run (tx_isSign hP1.2.2.2.2.2.1 hP1.1 (by decide)) ?_
    dsimp only
    by_cases s1 : isS T n 60 q1
    · rw [bz_b1.mpr s1, if_neg (by decide)]
      exact go 7 (by decide) (by decide) (by unfold opC; rw [if_pos s1])
    rw [bz_b0.mpr s1, if_pos rfl]
    refine T_run (tx_isSign hP1.2.2.2.2.2.1 hP1.1 (by decide)) ?_
    dsimp only
    by_cases s2 : isS T n 62 q1
    · rw [bz_b1.mpr s2, if_neg (by decide)]
      exact go 8 (by decide) (by decide) (by unfold opC; rw [if_neg s1, if_pos s2])
    rw [bz_b0.mpr s2, if_pos rfl]
    refine T_run (tx_isSign hP1.2.2.2.2.2.1 hP1.1 (by decide)) ?_
    dsimp only
    by_cases s3 : isS T n 61 q1
    · rw [bz_b1.mpr s3, if_neg (by decide)]
      exact go 9 (by decide) (by decide) (by unfold opC; rw [if_neg s1, if_neg s2, if_pos s3])
    rw [bz_b0.mpr s3, if_pos rfl]
    rw [show opC T n q1 = none by unfold opC; rw [if_neg s1, if_neg s2, if_neg s3]] at h1
    cases h1
    refine T_le (eGr_comparison_57_E (c := c) (by omega) hc) ?_
    rw [if_pos rfl, hP1.1.2.1]
    refine T_seq (tx_fail hP1.1 (by decide)) ?_
    rintro M2 ⟨a2, f2⟩
    exact T_some ⟨cFr_trans a (cFr_fT f2), fx_of hc hP1 f2 a2⟩
theorem cg_truth {f : Nat} (hw : w = 2 ∨ w = 4 ∨ w = 8) (hc : bz_oC c) (hC : cgX T n w c f 5 9 (eGr_comparison Lg)) (hT : cgX T n w c f 6 10 (eGr_truth Lg)) (hA : cgX T n w c f 9 12 (eGr_test Lg)) : cgX T n w c (f + 1) 6 10 (eGr_truth Lg) := by
  intro d o q M cs out hd ho hP h
  change rTruth T n (rd T n w f) o q = some out at h
  unfold rTruth at h
  have hl := hP.2.2.1
  refine T_le (eGr_truth_E (c := c) (by omega) hc) ?_
  refine T_run (tx_isWord hP.1 (i := 29) (by decide)) ?_
  dsimp only
  by_cases w1 : isW T n 29 q
  · rw [if_pos w1] at h
    rw [bz_b1.mpr w1, if_neg (by decide)]
    by_cases o6 : o < 6
    · rw [if_pos o6] at h
      have gt0 := nx_gt hP.2.2.2.1 (isW_k w1)
      refine T_seq (gr_op1 hc (by omega) o6 hP (by rw [w1.1]; decide)) ?_
      rintro ⟨p1, p2⟩ ⟨e1, hP1, f1⟩
      dsimp only at e1 hP1 f1 ⊢
      rw [e1, if_neg (by decide), w32_id (by omega) (by omega)]
      rcases rB_inv h with ⟨e, e1', rfl⟩ | ⟨q1, c1, e1', h1⟩
      · refine T_seq (hT (d - 1) (o + 1) _ p2 cs _ (by omega) (by omega) hP1 e1') ?_
        rintro M1 ⟨a, b⟩
        rw [if_pos b.2.2]
        refine T_seq (fx_put hc b) ?_
        rintro M5 ⟨a5, b5⟩
        exact T_some ⟨cFr_trans (cFr_fT f1) (cFr_trans a b5), a5⟩
      · cases h1
        have g1 := rd_good hw f 6 (o + 1) _ q1 c1 (by omega) (by omega) hP1.2.2.2.1 e1'
        refine T_seq (hT (d - 1) (o + 1) _ p2 cs _ (by omega) (by omega) hP1 e1') ?_
        rintro M1 ⟨a, b1, b2⟩
        have hP2 : cPre T n w c (cs ++ c1) q1 M1 := pre_next hc hP1 a b1 b2 g1.2.1 g1.1
        have hg := g1.2.1
        rw [if_pos hP2.2.2.2.2.2.2.1]
        refine T_seq (ok_put hc hP2 (op := 12) (by rw [List.length_append]; omega)) ?_
        rintro M5 ⟨hP6, f6⟩
        refine T_some (out_ok (w := w) (cFr_trans (cFr_fT f1) (cFr_trans a f6)) ?_)
        rw [← List.append_assoc]
        exact hP6
    · rw [if_neg o6] at h
      cases h
      refine T_seq (gr_op0 hc (by omega) o6 hP) ?_
      rintro ⟨p1, p2⟩ ⟨e1, x, f1⟩
      dsimp only at e1 x f1 ⊢
      rw [e1, if_pos rfl]
      exact T_some ⟨cFr_fT f1, x⟩
  rw [if_neg w1] at h
  rw [bz_b0.mpr w1, if_pos rfl]
  refine T_run (tx_isSign hP.2.2.2.2.2.1 hP.1 (by decide)) ?_
  dsimp only
  by_cases s1 : isS T n 91 q
  · rw [if_pos s1] at h
    rw [bz_b1.mpr s1, if_neg (by decide)]
    by_cases o6 : o < 6
    · rw [if_pos o6] at h
      have gt0 := nx_gt hP.2.2.2.1 (by rw [s1.1]; decide)
      refine T_seq (gr_op1 hc (by omega) o6 hP (by rw [tD_3.mpr s1.1]; decide)) ?_
      rintro ⟨p1, p2⟩ ⟨e1, hP1, f1⟩
      dsimp only at e1 hP1 f1 ⊢
      rw [e1, if_neg (by decide), w32_id (by omega) (by omega)]
      rcases rB_inv h with ⟨e, e1', rfl⟩ | ⟨q1, c1, e1', h1⟩
      · refine T_seq (hA (d - 1) (o + 1) _ p2 cs _ (by omega) (by omega) hP1 e1') ?_
        rintro M1 ⟨a, b⟩
        refine T_seq (tx_ns_f (by omega) b.1) ?_
        rintro M2 ⟨a2, b2⟩
        exact T_some ⟨cFr_trans (cFr_fT f1) (cFr_trans a (cFr_fT b2)), fx_T hc b b2 a2⟩
      · have g1 := rd_good hw f 9 (o + 1) _ q1 c1 (by omega) (by omega) hP1.2.2.2.1 e1'
        refine T_seq (hA (d - 1) (o + 1) _ p2 cs _ (by omega) (by omega) hP1 e1') ?_
        rintro M1 ⟨a, b1, b2⟩
        have hP2 : cPre T n w c (cs ++ c1) q1 M1 := pre_next hc hP1 a b1 b2 g1.2.1 g1.1
        refine T_seq (gr_close hc (by omega) (s := 93) (by decide) hP2) ?_
        rintro M2 ⟨f2, y2, n2⟩
        by_cases s2 : isS T n 93 q1
        · rw [if_pos s2] at h1
          cases h1
          exact T_some (out_ok (w := w) (cFr_trans (cFr_fT f1) (cFr_trans a (cFr_fT f2))) (y2 s2))
        · rw [if_neg s2] at h1
          cases h1
          exact T_some ⟨cFr_trans (cFr_fT f1) (cFr_trans a (cFr_fT f2)), n2 s2⟩
    · rw [if_neg o6] at h
      cases h
      refine T_seq (gr_op0 hc (by omega) o6 hP) ?_
      rintro ⟨p1, p2⟩ ⟨e1, x, f1⟩
      dsimp only at e1 x f1 ⊢
      rw [e1, if_pos rfl]
      exact T_some ⟨cFr_fT f1, x⟩
  rw [if_neg s1] at h
  rw [bz_b0.mpr s1, if_pos rfl]
  by_cases w2 : isW T n 30 q
  · rw [if_pos w2] at h
    cases h
    have gt0 := nx_gt hP.2.2.2.1 (isW_k w2)
    refine T_seq (tx_tw1 (i := 30) (by omega) hP.2.2.2.2.1 hP.2.2.2.2.2.1 hP.2.2.2.1 hP.1 (by decide) w2) ?_
    rintro ⟨p1, p2⟩ ⟨e1, e2, f1⟩
    dsimp only at e1 e2 f1 ⊢
    have hP1 := pre_nx hc hP f1 e2
    rw [e1, if_neg (by decide), if_pos hP1.2.2.2.2.2.2.1]
    refine T_seq (ok_put hc hP1 (op := 13) (by omega)) ?_
    rintro M5 ⟨hP6, f6⟩
    exact T_some (out_ok (w := w) (cFr_trans (cFr_fT f1) f6) hP6)
  rw [if_neg w2] at h
  refine T_run (tx_tw0 (i := 30) (by omega) hP.1 (by decide) w2) ?_
  dsimp only
  rw [if_pos rfl]
  refine T_seq (hC (d - 1) o q M cs _ (by omega) ho hP h) ?_
  rintro M1 h1
  exact T_some h1
theorem cg_all (hw : w = 2 ∨ w = 4 ∨ w = 8) (hc : bz_oC c) : ∀ f : Nat, (cgX T n w c f 0 6 (eGr_part Lg) ∧ cgX T n w c f 1 7 (eGr_product Lg) ∧ cgL T n w c f 2 7 (eGr_product_7 Lg) ∧ cgX T n w c f 3 8 (eGr_sum Lg) ∧ cgL T n w c f 4 8 (eGr_sum_7 Lg)) ∧ cgX T n w c f 5 9 (eGr_comparison Lg) ∧ cgX T n w c f 6 10 (eGr_truth Lg) ∧ cgX T n w c f 7 11 (eGr_both Lg) ∧ cgL T n w c f 8 11 (eGr_both_7 Lg) ∧ cgX T n w c f 9 12 (eGr_test Lg) ∧ cgL T n w c f 10 12 (eGr_test_7 Lg)
  | 0 => by
    exact ⟨⟨(fun d o q M cs out _ _ _ h => by cases h), (fun d o q M cs out _ _ _ h => by cases h), (fun d o i q M cs out _ _ _ _ _ h => by cases h), (fun d o q M cs out _ _ _ h => by cases h), (fun d o i q M cs out _ _ _ _ _ h => by cases h)⟩, (fun d o q M cs out _ _ _ h => by cases h), (fun d o q M cs out _ _ _ h => by cases h), (fun d o q M cs out _ _ _ h => by cases h), (fun d o i q M cs out _ _ _ _ _ h => by cases h), (fun d o q M cs out _ _ _ h => by cases h), (fun d o i q M cs out _ _ _ _ _ h => by cases h)⟩
  | f + 1 => by
    obtain ⟨⟨a0, a1, a2, a3, a4⟩, a5, a6, a7, a8, a9, a10⟩ := cg_all hw hc f
    refine ⟨⟨cg_part hw hc a3 a0, ?_, ?_, ?_, ?_⟩, cg_cmp hw hc a3, cg_truth hw hc a5 a6 a9, ?_, ?_, ?_, ?_⟩
    · exact cg_seq hw hc (by decide) (by decide) a0 a2 (fun d o M hd => eGr_product_E hd) (fun d o i k pl M hd h => fx_p7 (by omega) h) (fun o q => rfl)
    · exact cg_sloop (s1 := 42) (s2 := 47) (k1 := 3) (k2 := 4) (B := eGr_product_57 Lg) hw hc (by decide) (by decide) (by decide) a0 a2 (by decide) (by decide) (by decide) (fun d o i M hd => eGr_product_7_E hd) (fun d o i y M hd => eGr_product_57_E hd hc) (fun d o i k pl M hd h => fx_p7 (by omega) h) (fun o q => rfl)
    · exact cg_seq hw hc (by decide) (by decide) a1 a4 (fun d o M hd => eGr_sum_E hd) (fun d o i k pl M hd h => fx_s7 (by omega) h) (fun o q => rfl)
    · exact cg_sloop (s1 := 43) (s2 := 45) (k1 := 1) (k2 := 2) (B := eGr_sum_56 Lg) hw hc (by decide) (by decide) (by decide) a1 a4 (by decide) (by decide) (by decide) (fun d o i M hd => eGr_sum_7_E hd) (fun d o i y M hd => eGr_sum_56_E hd hc) (fun d o i k pl M hd h => fx_s7 (by omega) h) (fun o q => rfl)
    · exact cg_seq hw hc (by decide) (by decide) a6 a8 (fun d o M hd => eGr_both_E hd) (fun d o i k pl M hd h => fx_b7 hd hc h) (fun o q => rfl)
    · exact cg_wloop (i0 := 28) (k := 10) hw hc (by decide) (by decide) (by decide) a6 a8 (by decide) (fun d o i M hd => eGr_both_7_E hd hc) (fun d o i k pl M hd h => fx_b7 hd hc h) (fun o q => rfl)
    · exact cg_seq hw hc (by decide) (by decide) a7 a10 (fun d o M hd => eGr_test_E hd) (fun d o i k pl M hd h => fx_t7 hd hc h) (fun o q => rfl)
    · exact cg_wloop (i0 := 27) (k := 11) hw hc (by decide) (by decide) (by decide) a7 a10 (by decide) (fun d o i M hd => eGr_test_7_E hd hc) (fun d o i k pl M hd h => fx_t7 hd hc h) (fun o q => rfl)
end CI

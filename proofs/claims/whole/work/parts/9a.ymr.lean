/-! A VALLEY IS TOLD: the reference reads all -/
def vG (M M' : bz_M) : Prop := vF (bz_up M 319 59 0) (bz_up M' 319 59 0)
theorem vG_trans {A B C : bz_M} (h : vG A B) (g : vG B C) : vG A C := vF_trans h g
theorem vG_F {M M' : bz_M} (h : vF M M') : vG M M' := by
  obtain ⟨a1, a2, a3, a4, a5, a6, a7, a8⟩ := h
  have k : ∀ (A : bz_M) r, r ≠ 319 → bz_up A 319 59 0 r = A r := fun A r hr => bz_up_fn hr
  refine ⟨fun r hr => ?_, fun j hj => ?_, fun j hj => ?_, fun j hj => ?_, fun j hj => ?_, fun j hj => ?_, fun j hj => ?_, fun j hj => ?_⟩
  · rw [k M' r (by omega), k M r (by omega)]; exact a1 r hr
  · rw [bz_up_rk, bz_up_rk, a2 j hj]
  · rw [k M' 355 (by decide), k M 355 (by decide)]; exact a3 j hj
  · rw [k M' 356 (by decide), k M 356 (by decide)]; exact a4 j hj
  · rw [k M' 357 (by decide), k M 357 (by decide)]; exact a5 j hj
  · rw [k M' 358 (by decide), k M 358 (by decide)]; exact a6 j hj
  · rw [k M' 361 (by decide), k M 361 (by decide), k M' 362 (by decide), k M 362 (by decide)]; exact a7 j hj
  · rw [k M' 363 (by decide), k M 363 (by decide)]; exact a8 j hj
theorem vG_59 {M : bz_M} {x : Int} : vG M (bz_up M 319 59 x) := by
  unfold vG
  rw [show bz_up (bz_up M 319 59 x) 319 59 0 = bz_up M 319 59 0 by
    funext r k
    rw [bz_up_rk, bz_up_rk, bz_up_rk]
    split <;> rfl]
  exact vF_refl _
theorem vG_r {M M' : bz_M} (h : vG M M') {r : Nat} (hr : ¬ vFq r) : M' r = M r := by
  have := h.1 r hr
  rw [bz_up_fn (by omega), bz_up_fn (by omega)] at this
  exact this
section YS
variable {Lg d n : Nat} {T : Nat → Int} {Y M M' : bz_M} {s : sT}
theorem vG_st (f : vG M M') (h : stM M) : stM M' := fun r k h1 h2 => by rw [vG_r f (by omega)]; exact h r k h1 h2
theorem vG_mt (f : vG M M') (h : mt T n M) : mt T n M' := mt_co h (vG_r f (by decide))
theorem mYv_59 {x : Int} (h : mYv Y M) : mYv Y (bz_up M 319 59 x) := by
  unfold mYv at h ⊢
  rw [bz_up_fn (show 355 ≠ 319 by decide), bz_up_fn (show 356 ≠ 319 by decide), bz_up_fn (show 357 ≠ 319 by decide), bz_up_fn (show 358 ≠ 319 by decide), bz_up_fn (show 359 ≠ 319 by decide), bz_up_fn (show 360 ≠ 319 by decide), bz_up_fn (show 361 ≠ 319 by decide), bz_up_fn (show 362 ≠ 319 by decide), bz_up_fn (show 363 ≠ 319 by decide), bz_up_nk (show 46 ≠ 59 by decide), bz_up_nk (show 53 ≠ 59 by decide), bz_up_nk (show 58 ≠ 59 by decide)]
  exact h
theorem my_153 (hd : 2 < d) {k : Int} {r : sT × bz_M} (hk : 0 ≤ k ∧ k ≤ 100) (h59 : M 319 59 = k) (ht : mt T n M) (h : mPo T n M r M') : w_T (eMo_statementTold_153 Lg d M') (fun M2 => mSt2 T n (oS T n 59 r.1) M2 ∧ vG M M2 ∧ (isOk r.1 → mYv r.2 M2) ∧ M2 319 59 = k + 1) := by
  refine T_le (eMo_statementTold_153_E (by omega)) ?_
  refine T_seq (ms_S (by omega) (vF_mt h.2.1 ht) (c := 59) (by decide) (by decide) (by decide) h.1) ?_
  rintro M1 ⟨a1, b1⟩
  have e59 : M1 319 59 = k := by rw [b1.2 59 (by decide) (by decide) (by decide) (by decide) (by decide) (by decide), h.2.1.2.1 59 (by decide)]; exact h59
  rw [e59, w32_id (by omega) (by omega)]
  exact T_some ⟨mSt_co a1 (fun j hj => bz_up_nk (by omega) _), vG_trans (vG_F (vF_trans h.2.1 (vF_X b1))) vG_59, fun ok => mYv_59 (mYv_X (h.2.2 ok) b1), bz_up_eq _ _ _ _⟩
theorem my_stm (hd : 20 < d) {q : pL} {k : Int} (hk : 0 ≤ k ∧ k < 80) (h59 : M 319 59 = k) (hI : yInv Y q.1) (hs : stM M) (ht : mt T n M) (hY : mYv Y M) (h : mY T n q M) : w_T (eMo_statementTold Lg d M) (fun M' => mSt2 T n (oS T n 59 (yStm T n Y q).1) M' ∧ vG M M' ∧ (isOk (yStm T n Y q).1 → mYv (yStm T n Y q).2 M') ∧ M' 319 59 = k + 1) := by
  have hq := mX_qOK h.1
  have hO := hI.1
  have go : ∀ (r : sT × bz_M) (M1 M2 : bz_M), gX M M1 → mPo T n M1 r M2 → w_T (eMo_statementTold_153 Lg d M2) (fun M' => mSt2 T n (oS T n 59 r.1) M' ∧ vG M M' ∧ (isOk r.1 → mYv r.2 M') ∧ M' 319 59 = k + 1) := fun r M1 M2 g hp => my_153 (by omega) (by omega) h59 ht ⟨hp.1, vF_trans (vF_X g) hp.2.1, hp.2.2⟩
  refine T_le (eMo_statementTold_E (by omega)) ?_
  rw [if_neg (by rw [h59]; omega), h.2]
  unfold yStm
  by_cases w1 : isW T n 3 q
  · rw [if_pos w1]
    refine T_seq (mo_tk1 (r := 325) (by omega) (by decide) hs ht h.1 w1) ?_
    rintro ⟨p1, M1⟩ ⟨e1, a1, b1⟩
    dsimp only at e1 a1 b1 ⊢
    rw [e1, if_neg (by decide)]
    exact T_seq (m_runs (by omega) (mt_g ht b1) hO (mYv_X hY b1) (s := .inr (nx T n q)) a1) (fun M2 h2 => go _ M1 M2 b1 h2)
  rw [if_neg w1]
  refine T_seq (mo_tk0 (r := 325) (by omega) (by decide) hs ht h.1 w1) ?_
  rintro ⟨p1, M1⟩ ⟨e1, a1, b1⟩
  dsimp only at e1 a1 b1 ⊢
  rw [e1, if_pos rfl]
  have g1 := gX_2 b1
  by_cases w2 : isW T n 4 q
  · rw [if_pos w2]
    refine T_seq (mo_tk1 (r := 326) (by omega) (by decide) (stM_g hs g1) (mt_g ht g1) a1.1 w2) ?_
    rintro ⟨p2, M2⟩ ⟨e2, a2, b2⟩
    dsimp only at e2 a2 b2 ⊢
    rw [e2, if_neg (by decide)]
    have g2 := gX_trans g1 b2
    exact T_seq (m_soil (by omega) (mt_g ht g2) hO (mYv_X hY g2) (s := .inr (nx T n q)) a2) (fun M3 h3 => go _ M2 M3 g2 h3)
  rw [if_neg w2]
  refine T_seq (mo_tk0 (r := 326) (by omega) (by decide) (stM_g hs g1) (mt_g ht g1) a1.1 w2) ?_
  rintro ⟨p2, M2⟩ ⟨e2, a2, b2⟩
  dsimp only at e2 a2 b2 ⊢
  rw [e2, if_pos rfl]
  have g2 := gX_trans g1 (gX_2 b2)
  by_cases w3 : isW T n 5 q
  · rw [if_pos w3]
    refine T_seq (mo_tk1 (r := 327) (by omega) (by decide) (stM_g hs g2) (mt_g ht g2) a2.1 w3) ?_
    rintro ⟨p3, M3⟩ ⟨e3, a3, b3⟩
    dsimp only at e3 a3 b3 ⊢
    rw [e3, if_neg (by decide)]
    have g3 := gX_trans g2 b3
    exact T_seq (m_willow (by omega) (mt_g ht g3) hO hI.2.2.1 (mYv_X hY g3) (s := .inr (nx T n q)) a3) (fun M4 h4 => go _ M3 M4 g3 h4)
  rw [if_neg w3]
  refine T_seq (mo_tk0 (r := 327) (by omega) (by decide) (stM_g hs g2) (mt_g ht g2) a2.1 w3) ?_
  rintro ⟨p3, M3⟩ ⟨e3, a3, b3⟩
  dsimp only at e3 a3 b3 ⊢
  rw [e3, if_pos rfl]
  have g3 := gX_trans g2 (gX_2 b3)
  by_cases w4 : isW T n 6 q
  · rw [if_neg (fun e => by have := e.2; have := w4.2; omega), if_pos w4]
    refine T_seq (mo_tk1 (r := 328) (by omega) (by decide) (stM_g hs g3) (mt_g ht g3) a3.1 w4) ?_
    rintro ⟨p4, M4⟩ ⟨e4, a4, b4⟩
    dsimp only at e4 a4 b4 ⊢
    rw [e4, if_neg (by decide)]
    have g4 := gX_trans g3 b4
    exact T_seq (my_lord (by omega) hI.2.2.2.2.2.2.2.1 hO (stM_g hs g4) (mt_g ht g4) (mYv_X hY g4) a4 rfl) (fun M5 h5 => go _ M4 M5 g4 h5)
  refine T_seq (mo_tk0 (r := 328) (by omega) (by decide) (stM_g hs g3) (mt_g ht g3) a3.1 w4) ?_
  rintro ⟨p4, M4⟩ ⟨e4, a4, b4⟩
  dsimp only at e4 a4 b4 ⊢
  rw [e4, if_pos rfl]
  have g4 := gX_trans g3 (gX_2 b4)
  by_cases w5 : isW T n 12 q
  · rw [if_neg (fun e => by have := e.2; have := w5.2; omega), if_neg w4, if_pos w5]
    refine T_seq (mo_tk1 (r := 334) (by omega) (by decide) (stM_g hs g4) (mt_g ht g4) a4.1 w5) ?_
    rintro ⟨p5, M5⟩ ⟨e5, a5, b5⟩
    dsimp only at e5 a5 b5 ⊢
    rw [e5, if_neg (by decide)]
    have g5 := gX_trans g4 b5
    exact T_seq (my_code (w := 0) (by omega) (by decide) hq hI (stM_g hs g5) (mt_g ht g5) (mYv_X hY g5) a5) (fun M6 h6 => go _ M5 M6 g5 h6)
  refine T_seq (mo_tk0 (r := 334) (by omega) (by decide) (stM_g hs g4) (mt_g ht g4) a4.1 w5) ?_
  rintro ⟨p5, M5⟩ ⟨e5, a5, b5⟩
  dsimp only at e5 a5 b5 ⊢
  rw [e5, if_pos rfl]
  have g5 := gX_trans g4 (gX_2 b5)
  by_cases w6 : isW T n 13 q
  · rw [if_neg (fun e => by have := e.2; have := w6.2; omega), if_neg w4, if_neg w5, if_pos w6]
    refine T_seq (mo_tk1 (r := 335) (by omega) (by decide) (stM_g hs g5) (mt_g ht g5) a5.1 w6) ?_
    rintro ⟨p6, M6⟩ ⟨e6, a6, b6⟩
    dsimp only at e6 a6 b6 ⊢
    rw [e6, if_neg (by decide)]
    have g6 := gX_trans g5 b6
    exact T_seq (my_code (w := 1) (by omega) (by decide) hq hI (stM_g hs g6) (mt_g ht g6) (mYv_X hY g6) a6) (fun M7 h7 => go _ M6 M7 g6 h7)
  refine T_seq (mo_tk0 (r := 335) (by omega) (by decide) (stM_g hs g5) (mt_g ht g5) a5.1 w6) ?_
  rintro ⟨p6, M6⟩ ⟨e6, a6, b6⟩
  dsimp only at e6 a6 b6 ⊢
  rw [e6, if_pos rfl]
  have g6 := gX_trans g5 (gX_2 b6)
  have sp : ∀ (s' : sT) (M7 : bz_M), gX M M7 → mSt2 T n s' M7 → w_T ((eMo_number Lg (d - 1) 0 100 M7).bind (fun p7 => eMo_statementTold_153 Lg d (bz_up p7.2 319 53 p7.1))) (fun M' => mSt2 T n (oS T n 59 (ySp T n Y s').1) M' ∧ vG M M' ∧ (isOk (ySp T n Y s').1 → mYv (ySp T n Y s').2 M') ∧ M' 319 59 = k + 1) := fun s' M7 g7 h7 => m_spate (F := fun M' => eMo_statementTold_153 Lg d M') (by omega) (mt_g ht g7) (mYv_X hY g7) h7 (fun M8 h8 => go _ M7 M8 g7 h8)
  by_cases w7 : isW T n 14 q
  · rw [if_pos w7]
    refine T_seq (mo_as1 (r := 336) (by omega) (by decide) (stM_g hs g6) (mt_g ht g6) a6.1 w7) ?_
    rintro M7 ⟨a7, b7⟩
    exact sp (.inr (nx T n q)) M7 (gX_trans g6 b7) a7
  · rw [if_neg w7, if_neg w4, if_neg w5, if_neg w6]
    refine T_seq (mo_as0 (r := 336) (by omega) (by decide) (stM_g hs g6) (mt_g ht g6) a6.1 w7) ?_
    rintro M7 ⟨a7, b7⟩
    refine T_mono (sp (.inl (1, q.1)) M7 (gX_trans g6 b7) a7) (fun M8 h8 => ⟨h8.1, h8.2.1, fun h => absurd h (fun h => h), h8.2.2.2⟩)
theorem my_loop (hd : 22 < d) {Q : Int × bz_M → Prop} : ∀ (f : Nat) (k : Int) (Y : bz_M) (s : sT) (M : bz_M), 1 ≤ k → k + f = 82 → M 319 59 = k → stM M → mt T n M → mSt2 T n s M → (∀ q, s = .inr q → yInv Y q.1 ∧ mYv Y M) → (isOk s → k ≤ 80) → (∀ M', mSt2 T n (yLp T n f k Y s).1 M' → vG M M' → (isOk (yLp T n f k Y s).1 → mYv (yLp T n f k Y s).2.1 M' ∧ M' 319 59 = (yLp T n f k Y s).2.2) → w_T (eMo_valley_142 Lg d M') Q) → w_T (eMo_valley_120 Lg d M) Q
  | 0, k, Y, s, M, hk, hf, h59, hs, ht, h, hI, hok, hQ => by
    have hb : ¬ isOk s := fun e => by have := hok e; omega
    refine T_le (eMo_valley_120_E (by omega)) ?_
    rw [if_neg (fun e => hb ((mSt_bad h).mp e))]
    exact hQ M h (vG_F (vF_refl M)) (fun e => absurd e hb)
  | f + 1, k, Y, s, M, hk, hf, h59, hs, ht, h, hI, hok, hQ => by
    refine T_le (eMo_valley_120_E (by omega)) ?_
    cases s with
    | inl e =>
      rw [if_neg (fun e' => (mSt_bad h).mp e')]
      exact hQ M h (vG_F (vF_refl M)) (fun e => absurd e (fun h => h))
    | inr q =>
      have hX : mX T n q M := h
      have hk80 := hok trivial
      have hq := mX_qOK hX
      obtain ⟨hIq, hY⟩ := hI q rfl
      rw [if_pos hX.2.2.2.2.2.1]
      refine T_seq (mo_look ht hX) ?_
      rintro ⟨p1, M1⟩ ⟨e1, a1, b1⟩
      dsimp only at e1 a1 b1 ⊢
      have g1 := gX_2 b1
      have h59' : M1 319 59 = k := by rw [b1.2 59 (by decide)]; exact h59
      rw [show yLp T n (f + 1) k Y (.inr q) = (if n ≤ q.1 then (.inr q, Y, k) else if k = 80 then (.inl (5, q.1), Y, k) else yLp T n f (k + 1) (yStm T n Y q).2 (oS T n 59 (yStm T n Y q).1)) from rfl] at hQ
      rw [e1]
      by_cases c0 : n ≤ q.1
      · rw [if_pos c0] at hQ
        rw [if_pos (lk_end c0)]
        exact hQ M1 a1.1 (vG_F (vF_X g1)) (fun _ => ⟨mYv_X hY g1, h59'⟩)
      · rw [if_neg c0] at hQ
        rw [if_neg (fun e => c0 (lk_no e (fun j hj => (ht.2 j hj).2.1)))]
        by_cases c8 : k = 80
        · rw [if_pos c8] at hQ
          refine T_seq (T_le (eMo_statementTold_E (by omega)) (Q := fun M' => mXf 5 (q.1 : Int) M' ∧ gX M1 M') ?_) ?_
          · rw [if_pos (by rw [h59']; exact c8), a1.2]
            refine T_seq (mo_fail a1.1.2.2.2.2.2.1 (by decide)) ?_
            rintro M2 ⟨a2, b2, _⟩
            exact T_some ⟨a2, b2⟩
          rintro M2 ⟨a2, b2⟩
          refine T_le (eMo_valley_120_E (by omega)) ?_
          rw [if_neg (by rw [a2.1]; exact a2.2.1)]
          exact hQ M2 a2 (vG_F (vF_X (gX_trans g1 b2))) (fun h => absurd h (fun h => h))
        · rw [if_neg c8] at hQ
          refine T_seq (my_stm (by omega) (by omega) h59' hIq (stM_g hs g1) (mt_g ht g1) (mYv_X hY g1) a1) ?_
          rintro M2 ⟨a2, b2, y2, n2⟩
          have f2 := vG_trans (vG_F (vF_X g1)) b2
          refine my_loop hd f (k + 1) (yStm T n Y q).2 (oS T n 59 (yStm T n Y q).1) M2 (by omega) (by omega) n2 (vG_st f2 hs) (vG_mt f2 ht) a2 (fun q2 e2 => ?_) (fun _ => by omega) (fun M' x1 x2 x3 => hQ M' x1 (vG_trans f2 x2) x3)
          have ok1 : isOk (yStm T n Y q).1 := ok_S (c := 59) (by rw [e2]; trivial)
          cases hst : (yStm T n Y q).1 with
          | inl e => rw [hst] at ok1; exact absurd ok1 (fun h => h)
          | inr q1 =>
            have so := stm_ok hq hIq hst
            have pp := ps_S (c := 59) (ps_r so.2.1 (Nat.le_refl _)) q2 (by rw [← hst]; exact e2)
            exact ⟨inv_z so.2.2 pp.1, y2 ok1⟩
end YS

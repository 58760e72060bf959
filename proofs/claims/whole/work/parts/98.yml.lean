/-! A VALLEY IS TOLD: the reference's lords -/
theorem nmV_inj {f g : Nat → Int} : ∀ (m m' : Nat), (∀ k, k < m → 1 ≤ f k ∧ f k ≤ 26) → (∀ k, k < m' → 1 ≤ g k ∧ g k ≤ 26) → nmV f m = nmV g m' → m = m' ∧ ∀ k, k < m → f k = g k
  | 0, 0, _, _, _ => ⟨rfl, fun k hk => by omega⟩
  | 0, m' + 1, hf, hg, h => by
    have h1 := hg m' (by omega)
    have h2 : 0 ≤ nmV g m' := by
      have : ∀ j, j ≤ m' → 0 ≤ nmV g j := by
        intro j
        induction j with
        | zero => intro _; exact Int.le_refl 0
        | succ j ih => intro hj; have := ih (by omega); have := hg j (by omega); show 0 ≤ 27 * nmV g j + g j; omega
      exact this m' (by omega)
    have h3 : (0 : Int) = 27 * nmV g m' + g m' := h
    omega
  | m + 1, 0, hf, hg, h => by
    have h1 := hf m (by omega)
    have h2 : 0 ≤ nmV f m := by
      have : ∀ j, j ≤ m → 0 ≤ nmV f j := by
        intro j
        induction j with
        | zero => intro _; exact Int.le_refl 0
        | succ j ih => intro hj; have := ih (by omega); have := hf j (by omega); show 0 ≤ 27 * nmV f j + f j; omega
      exact this m (by omega)
    have h3 : 27 * nmV f m + f m = (0 : Int) := h
    omega
  | m + 1, m' + 1, hf, hg, h => by
    have h1 := hf m (by omega)
    have h2 := hg m' (by omega)
    have h3 : 27 * nmV f m + f m = 27 * nmV g m' + g m' := h
    have h4 : nmV f m = nmV g m' := by omega
    have h5 : f m = g m' := by omega
    obtain ⟨e, hh⟩ := nmV_inj m m' (fun k hk => hf k (by omega)) (fun k hk => hg k (by omega)) h4
    refine ⟨by omega, fun k hk => ?_⟩
    by_cases ek : k = m
    · rw [ek, h5, e]
    · exact hh k (by omega)
theorem nm_inj {f g : Nat → Int} {v w : Int} (hf : nmO f v) (hg : nmO g w) : v = w ↔ ∀ k, k < 6 → f k = g k := by
  obtain ⟨m, m1, m2, m3, m4, m5⟩ := hf
  obtain ⟨m', k1, k2, k3, k4, k5⟩ := hg
  constructor
  · intro h
    rw [m5, k5] at h
    obtain ⟨e, hh⟩ := nmV_inj m m' m3 k3 h
    intro k hk
    by_cases c : k < m
    · exact hh k c
    · rw [m4 k (by omega) hk, k4 k (by omega) hk]
  · intro h
    have e : m = m' := by
      by_cases c : m < m'
      · have a := k3 m c
        have b := m4 m (by omega) (by omega)
        have := h m (by omega)
        omega
      · by_cases c2 : m' < m
        · have a := m3 m' c2
          have b := k4 m' (by omega) (by omega)
          have := h m' (by omega)
          omega
        · omega
    rw [m5, k5, ← e]
    exact nmV_co m (fun k hk => h k (by omega))
section YQ
variable {Lg d n : Nat} {T : Nat → Int} {Y M M' : bz_M} {s : sT}
theorem d37_f {x : Int} {e pl : Int} {L : Nat} {Q : bz_M → Prop} (hd : 0 < d) (hX : mXf e pl M) (h46 : M 319 46 = (L : Int)) (hL : L ≤ 5) (hQ : w_T (eMo_lordTold_37 Lg d x (L : Int) M) Q) : ∀ (f k : Nat), k + f = L → w_T (eMo_lordTold_37 Lg d x (k : Int) M) Q
  | 0, k, h => by rw [show k = L by omega]; exact hQ
  | f + 1, k, h => by
    refine T_le (eMo_lordTold_37_E hd) ?_
    rw [h46, if_pos (by omega), if_neg (by rw [hX.1]; exact hX.2.1), w32_id (by omega) (by omega)]
    exact d37_f hd hX h46 hL hQ f (k + 1) (by omega)
theorem d37_o {x : Int} {L : Nat} {pl : Int} {Q : bz_M → Prop} (hd : 0 < d) (h5 : M 319 5 = 0) (h46 : M 319 46 = (L : Int)) (hL : L ≤ 5) (h44 : M 319 44 = pl) (h1 : (∃ j, j < L ∧ M 356 j = x) → ∀ M', mXf 3 pl M' → gX M M' → w_T (eMo_lordTold_37 Lg d x (L : Int) M') Q) (h0 : (¬ ∃ j, j < L ∧ M 356 j = x) → w_T (eMo_lordTold_37 Lg d x (L : Int) M) Q) : ∀ (f k : Nat), k + f = L → (∀ j, j < k → M 356 j ≠ x) → w_T (eMo_lordTold_37 Lg d x (k : Int) M) Q
  | 0, k, h, hn => by
    rw [show k = L by omega]
    exact h0 (fun ⟨j, a, b⟩ => hn j (by omega) b)
  | f + 1, k, h, hn => by
    refine T_le (eMo_lordTold_37_E hd) ?_
    rw [h46, if_pos (by omega), if_pos h5, if_pos (by omega), Int.toNat_natCast, w32_id (by omega) (by omega)]
    by_cases c : M 356 k = x
    · rw [if_pos (lcmp_eq.mpr c), h44]
      refine T_seq (mo_fail h5 (by decide)) ?_
      rintro M1 ⟨a1, b1, _⟩
      exact d37_f hd a1 (by rw [b1.2 46 (by decide) (by decide) (by decide) (by decide) (by decide) (by decide)]; exact h46) hL (h1 ⟨k, by omega, c⟩ M1 a1 b1) f (k + 1) (by omega)
    · rw [if_neg (fun e => c (lcmp_eq.mp e))]
      exact d37_o hd h5 h46 hL h44 h1 h0 f (k + 1) (by omega) (fun j hj => by
        by_cases e : j = k
        · rw [e]; exact c
        · exact hn j (by omega))
theorem oN_lo {a a' b : Int} (h : isOk s → a = a') : (oN T n a b s).1 = (oN T n a' b s).1 ∧ (isOk s → (oN T n a b s).2 = (oN T n a' b s).2) := by
  cases s with
  | inl e => exact ⟨rfl, fun h => absurd h (fun h => h)⟩
  | inr q => rw [h trivial]; exact ⟨rfl, fun _ => rfl⟩
theorem my_rowY {L : Nat} (hL : L < 5) (hYL : Y 319 46 = (L : Int)) (hY : mYv Y M) {q : pL} {z1 z2 z3 z4 z5 : Int} : mYv (yRow T n Y L q z1 z2 z3 z4 z5) (bz_up (bz_up (bz_up (bz_up (bz_up (bz_up (bz_up M 356 L (tNv T (te T n q.1 - q.1) q.1 0)) 357 (5 * L) z1) 357 (5 * L + 1) z2) 357 (5 * L + 2) z3) 357 (5 * L + 3) z4) 357 (5 * L + 4) z5) 319 46 ((L : Int) + 1)) := by
  obtain ⟨c1, c2, c3, c4, c5, c6, c7⟩ := hY
  have yo : ∀ r, r ≠ 356 → r ≠ 357 → r ≠ 1000 → r ≠ 319 → yRow T n Y L q z1 z2 z3 z4 z5 r = Y r := fun r x1 x2 x3 x4 => by
    funext k
    exact yRow_o x1 x2 x3 (fun h => x4 h.1)
  have mo : ∀ r, r ≠ 356 → r ≠ 357 → r ≠ 319 → (bz_up (bz_up (bz_up (bz_up (bz_up (bz_up (bz_up M 356 L (tNv T (te T n q.1 - q.1) q.1 0)) 357 (5 * L) z1) 357 (5 * L + 1) z2) 357 (5 * L + 2) z3) 357 (5 * L + 3) z4) 357 (5 * L + 4) z5) 319 46 ((L : Int) + 1)) r = M r := fun r x1 x2 x3 => by
    rw [bz_up_fn x3, bz_up_fn x2, bz_up_fn x2, bz_up_fn x2, bz_up_fn x2, bz_up_fn x2, bz_up_fn x1]
  have m9 : ∀ k, k ≠ 46 → (bz_up (bz_up (bz_up (bz_up (bz_up (bz_up (bz_up M 356 L (tNv T (te T n q.1 - q.1) q.1 0)) 357 (5 * L) z1) 357 (5 * L + 1) z2) 357 (5 * L + 2) z3) 357 (5 * L + 3) z4) 357 (5 * L + 4) z5) 319 46 ((L : Int) + 1)) 319 k = M 319 k := fun k hk => by
    rw [bz_up_nk hk, bz_up_nr (by decide), bz_up_nr (by decide), bz_up_nr (by decide), bz_up_nr (by decide), bz_up_nr (by decide), bz_up_nr (by decide)]
  have m7 : ∀ j k, k < 5 → (bz_up (bz_up (bz_up (bz_up (bz_up (bz_up (bz_up M 356 L (tNv T (te T n q.1 - q.1) q.1 0)) 357 (5 * L) z1) 357 (5 * L + 1) z2) 357 (5 * L + 2) z3) 357 (5 * L + 3) z4) 357 (5 * L + 4) z5) 319 46 ((L : Int) + 1)) 357 (5 * j + k) = if j = L then (if k = 0 then z1 else if k = 1 then z2 else if k = 2 then z3 else if k = 3 then z4 else z5) else M 357 (5 * j + k) := fun j k hk => by
    rw [bz_up_nr (by decide)]
    simp only [bz_up_rk]
    by_cases ej : j = L
    · subst ej
      rw [if_pos rfl]
      rcases (show k = 0 ∨ k = 1 ∨ k = 2 ∨ k = 3 ∨ k = 4 by omega) with rfl | rfl | rfl | rfl | rfl <;> simp
    · rw [if_neg ej, if_neg (by omega), if_neg (by omega), if_neg (by omega), if_neg (by omega), if_neg (by omega), if_neg (by omega)]
  refine ⟨⟨?_, ?_, ?_, ?_, ?_, ?_⟩, ?_, ?_, ?_, fun l hl => ⟨?_, fun k hk => ?_⟩, ?_, ?_⟩
  · rw [mo 355 (by decide) (by decide) (by decide), yo 355 (by decide) (by decide) (by decide) (by decide)]; exact c1.1
  · rw [mo 355 (by decide) (by decide) (by decide), yo 355 (by decide) (by decide) (by decide) (by decide)]; exact c1.2.1
  · rw [mo 355 (by decide) (by decide) (by decide), yo 355 (by decide) (by decide) (by decide) (by decide)]; exact c1.2.2.1
  · rw [yRow_46, bz_up_eq]
  · rw [m9 53 (by decide), yRow_o (by decide) (by decide) (by decide) (by decide)]; exact c1.2.2.2.2.1
  · rw [m9 58 (by decide), yRow_o (by decide) (by decide) (by decide) (by decide)]; exact c1.2.2.2.2.2
  · rw [mo 359 (by decide) (by decide) (by decide), yo 359 (by decide) (by decide) (by decide) (by decide)]; exact c2
  · rw [mo 358 (by decide) (by decide) (by decide), yo 358 (by decide) (by decide) (by decide) (by decide)]; exact c3
  · rw [mo 360 (by decide) (by decide) (by decide), yo 360 (by decide) (by decide) (by decide) (by decide)]; exact c4
  · rw [yRow_46] at hl
    rw [bz_up_nr (by decide), bz_up_nr (by decide), bz_up_nr (by decide), bz_up_nr (by decide), bz_up_nr (by decide), bz_up_nr (by decide), bz_up_rk, yRow_356]
    by_cases el : l = L
    · rw [if_pos ⟨rfl, el⟩, if_pos el]
    · rw [if_neg (fun h => el h.2), if_neg el]
      exact (c5 l (by omega)).1
  · rw [yRow_46] at hl
    rw [m7 l k hk, yRow_357 hk]
    by_cases el : l = L
    · rw [if_pos el, if_pos el]
    · rw [if_neg el, if_neg el]
      exact (c5 l (by omega)).2 k hk
  · rw [mo 361 (by decide) (by decide) (by decide), mo 362 (by decide) (by decide) (by decide), yo 361 (by decide) (by decide) (by decide) (by decide), yo 362 (by decide) (by decide) (by decide) (by decide)]; exact c6
  · rw [mo 363 (by decide) (by decide) (by decide), yo 363 (by decide) (by decide) (by decide) (by decide), yRow_o (by decide) (by decide) (by decide) (by decide)]; exact c7
/-- a lord's numbers, behind the name -/
theorem my_rest (hd : 4 < d) {L : Nat} (hL : L < 5) (hYL : Y 319 46 = (L : Int)) (hO : yOK Y) {q : pL} (hs : stM M) (ht : mt T n M) (hY : mYv Y M) (h : mSt2 T n (oNm T n Y (.inr q)) M) {x : Int} (hx : isOk (oNm T n Y (.inr q)) → x = tNv T (te T n q.1 - q.1) q.1 0) : w_T (eMo_lordTold_37 Lg d x (L : Int) M) (mPo T n M (yLo T n Y q)) := by
  have hC := hO.1
  have y46 : M 319 46 = (L : Int) := by rw [hY.1.2.2.2.1]; exact hYL
  refine T_le (eMo_lordTold_37_E (by omega)) ?_
  rw [if_neg (by omega)]
  refine T_seq (ms_W (r := 329) (by omega) (by decide) hs ht h) ?_
  rintro M1 ⟨a1, b1⟩
  refine T_seq (m_col (by omega) (mt_g ht b1) hO (mYv_X hY b1) a1) ?_
  rintro ⟨n1, M2⟩ ⟨e2, a2, b2⟩
  dsimp only at e2 a2 b2 ⊢
  have g2 := gX_trans b1 b2
  refine T_seq (ms_W (r := 330) (by omega) (by decide) (stM_g hs g2) (mt_g ht g2) a2) ?_
  rintro M3 ⟨a3, b3⟩
  have g3 := gX_trans g2 b3
  rw [(mYv_X hY g3).1.1, w32_id (by omega) (by omega)]
  refine T_seq (ms_N (by omega) (mt_g ht g3) a3) ?_
  rintro ⟨n2, M4⟩ ⟨e4, _, a4, b4⟩
  dsimp only at e4 a4 b4 ⊢
  have lo := oN_lo (T := T) (n := n) (s := oW T n 8 (oN T n 0 (Y 355 0 - 1) (oW T n 7 (oNm T n Y (.inr q)))).1) (a := n1) (a' := (oN T n 0 (Y 355 0 - 1) (oW T n 7 (oNm T n Y (.inr q)))).2) (b := Y 355 0 - 1) (fun ok => e2 (ok_W ok))
  rw [show rI 330 = 8 from rfl, show rI 329 = 7 from rfl] at *
  rw [lo.1] at e4 a4
  have g4 := gX_trans g3 b4
  refine T_seq (ms_W (r := 331) (by omega) (by decide) (stM_g hs g4) (mt_g ht g4) a4) ?_
  rintro M5 ⟨a5, b5⟩
  have g5 := gX_trans g4 b5
  refine T_seq (ms_N (by omega) (mt_g ht g5) a5) ?_
  rintro ⟨n3, M6⟩ ⟨e6, _, a6, b6⟩
  dsimp only at e6 a6 b6 ⊢
  have g6 := gX_trans g5 b6
  refine T_seq (ms_W (r := 332) (by omega) (by decide) (stM_g hs g6) (mt_g ht g6) a6) ?_
  rintro M7 ⟨a7, b7⟩
  have g7 := gX_trans g6 b7
  refine T_seq (ms_N (by omega) (mt_g ht g7) a7) ?_
  rintro ⟨n4, M8⟩ ⟨e8, _, a8, b8⟩
  dsimp only at e8 a8 b8 ⊢
  have g8 := gX_trans g7 b8
  refine T_seq (ms_W (r := 333) (by omega) (by decide) (stM_g hs g8) (mt_g ht g8) a8) ?_
  rintro M9 ⟨a9, b9⟩
  have g9 := gX_trans g8 b9
  refine T_seq (ms_N (by omega) (mt_g ht g9) a9) ?_
  rintro ⟨n5, M10⟩ ⟨e10, _, a10, b10⟩
  dsimp only at e10 a10 b10 ⊢
  have g10 := gX_trans g9 b10
  have hY10 := mYv_X hY g10
  have a10' : mSt2 T n (yLo T n Y q).1 M10 := a10
  by_cases ok : isOk (yLo T n Y q).1
  · rw [if_pos ((mSt_bad a10').mpr ok)]
    have o5 : isOk (oN T n 0 999 (oW T n 11 (oN T n 0 99 (oW T n 10 (oN T n 0 99 (oW T n 9 (oN T n (oN T n 0 (Y 355 0 - 1) (oW T n 7 (oNm T n Y (.inr q)))).2 (Y 355 0 - 1) (oW T n 8 (oN T n 0 (Y 355 0 - 1) (oW T n 7 (oNm T n Y (.inr q)))).1)).1)).1)).1)).1 := ok
    have o4 := ok_W (ok_N o5)
    have o3 := ok_W (ok_N o4)
    have o2 := ok_W (ok_N o3)
    have o1 := ok_W (ok_N o2)
    have o0 := ok_W (ok_N o1)
    have v46 : M10 319 46 = (L : Int) := by rw [hY10.1.2.2.2.1]; exact hYL
    have w0 : bz_w32 (5 * M10 319 46) = 5 * (L : Int) := by rw [v46, w32_id (by omega) (by omega)]
    have w1 : bz_w32 (bz_w32 (5 * M10 319 46) + 1) = 5 * (L : Int) + 1 := by rw [w0, w32_id (by omega) (by omega)]
    have w2 : bz_w32 (bz_w32 (5 * M10 319 46) + 2) = 5 * (L : Int) + 2 := by rw [w0, w32_id (by omega) (by omega)]
    have w3 : bz_w32 (bz_w32 (5 * M10 319 46) + 3) = 5 * (L : Int) + 3 := by rw [w0, w32_id (by omega) (by omega)]
    have w4 : bz_w32 (bz_w32 (5 * M10 319 46) + 4) = 5 * (L : Int) + 4 := by rw [w0, w32_id (by omega) (by omega)]
    rw [if_pos (by rw [v46]; omega), if_pos (by rw [w0]; omega), if_pos (by rw [w1]; omega), if_pos (by rw [w2]; omega), if_pos (by rw [w3]; omega), if_pos (by rw [w4]; omega), w1, w2, w3, w4, w0, v46, w32_id (z := (L : Int) + 1) (by omega) (by omega), Int.toNat_natCast, show (5 * (L : Int)).toNat = 5 * L by omega, show (5 * (L : Int) + 1).toNat = 5 * L + 1 by omega, show (5 * (L : Int) + 2).toNat = 5 * L + 2 by omega, show (5 * (L : Int) + 3).toNat = 5 * L + 3 by omega, show (5 * (L : Int) + 4).toNat = 5 * L + 4 by omega, hx o0, e2 o1, (e4 o2).1, lo.2 (ok_N (by rw [lo.1]; exact o2)), (e6 o3).1, (e8 o4).1, (e10 o5).1]
    refine T_some ⟨?_, ?_, fun _ => ?_⟩
    · refine mSt_co a10' (fun k hk => ?_)
      rw [bz_up_nk (by omega), bz_up_nr (by decide), bz_up_nr (by decide), bz_up_nr (by decide), bz_up_nr (by decide), bz_up_nr (by decide), bz_up_nr (by decide)]
    · refine vF_trans (vF_X g10) (vF_trans (vF_up (r := 356) (k := L) (by omega)) (vF_trans (vF_up (by omega)) (vF_trans (vF_up (by omega)) (vF_trans (vF_up (by omega)) (vF_trans (vF_up (by omega)) (vF_trans (vF_up (by omega)) (vF_k (by decide))))))))
    · show mYv (yRow T n Y (Y 319 46).toNat q _ _ _ _ _) _
      rw [show (Y 319 46).toNat = L by omega]
      exact my_rowY hL hYL hY10
  · rw [if_neg (fun e => ok ((mSt_bad a10').mp e))]
    exact T_some ⟨a10', vF_X g10, fun h => absurd h ok⟩
theorem my_lord (hd : 6 < d) (hI : ∀ l : Nat, (l : Int) < Y 319 46 → yLd Y l) (hO : yOK Y) {q : pL} {bg : Int} {z : Nat} (hs : stM M) (ht : mt T n M) (hY : mYv Y M) (h : mX T n q M) (hbg : bg = (z : Int)) : w_T (eMo_lordTold Lg d bg M) (mPo T n M (if Y 319 46 < 5 then yLo T n Y q else (.inl (5, z), Y))) := by
  have h46 := hO.2.2.2.1
  have h5 : M 319 5 = 0 := h.2.2.2.2.2.1
  have hq := mX_qOK h
  have y46 : M 319 46 = Y 319 46 := hY.1.2.2.2.1
  refine T_le (eMo_lordTold_E (by omega)) ?_
  rw [if_pos h5]
  by_cases c5 : Y 319 46 < 5
  · rw [if_pos c5, if_neg (by rw [y46]; omega), if_pos h5]
    obtain ⟨L, hL⟩ : ∃ L : Nat, Y 319 46 = (L : Int) := ⟨(Y 319 46).toNat, by omega⟩
    refine T_seq (mo_name (by omega) hs ht h) ?_
    rintro ⟨v, M1⟩ ⟨a1, e1, b1⟩
    dsimp only at a1 e1 b1 ⊢
    have hY1 := mYv_X hY b1
    have l46 : M1 319 46 = (L : Int) := by rw [hY1.1.2.2.2.1]; exact hL
    have wk : ∀ M2, gX M1 M2 → w_T (eMo_lordTold_37 Lg d v (L : Int) M2) (mPo T n M2 (yLo T n Y q)) → w_T (eMo_lordTold_37 Lg d v (L : Int) M2) (mPo T n M (yLo T n Y q)) := fun M2 g h => T_mono h (fun M3 h3 => ⟨h3.1, vF_trans (vF_X (gX_trans b1 g)) h3.2.1, h3.2.2⟩)
    by_cases ok1 : isOk (oNm1 T n q)
    · have c : tD T n q = 1 ∧ ¬ isF T n 1 q := by
        unfold oNm1 at ok1
        by_cases c : tD T n q = 1 ∧ ¬ isF T n 1 q
        · exact c
        · rw [if_neg c] at ok1; exact absurd ok1 (fun h => h)
      have c6 : ¬ 6 < te T n q.1 - q.1 := by
        unfold oNm1 at ok1
        rw [if_pos c] at ok1
        intro h6
        rw [if_pos h6] at ok1; exact absurd ok1 (fun h => h)
      have eN1 : oNm1 T n q = .inr (nx T n q) := by unfold oNm1; rw [if_pos c, if_neg c6]
      rw [eN1] at a1
      have a1' : mX T n (nx T n q) M1 := a1
      obtain ⟨ev, e44⟩ := e1 ok1
      have nmn := nm_new hq c.1 (by omega)
      have tk : (∃ j, j < L ∧ M1 356 j = v) ↔ tkB Y (tLt T n q) = true := by
        rw [tkB_iff, show (Y 319 46).toNat = L by omega]
        constructor
        · rintro ⟨j, hj, hv⟩
          rw [(hY1.2.2.2.2.1 j (by omega)).1, ev] at hv
          exact ⟨j, hj, (nm_inj (hI j (by omega)).2.2.2.2 nmn).mp hv⟩
        · rintro ⟨j, hj, hv⟩
          refine ⟨j, hj, ?_⟩
          rw [(hY1.2.2.2.2.1 j (by omega)).1, ev]
          exact (nm_inj (hI j (by omega)).2.2.2.2 nmn).mpr hv
      refine d37_o (by omega) a1'.2.2.2.2.2.1 l46 (by omega) e44 (fun hex M2 a2 b2 => ?_) (fun hno => ?_) L 0 (by omega) (fun j hj => by omega)
      · refine wk M2 b2 (my_rest (by omega) (by omega) hL hO (stM_g hs (gX_trans b1 b2)) (mt_g ht (gX_trans b1 b2)) (mYv_X hY1 b2) ?_ (fun ok => ?_))
        · unfold oNm
          dsimp only
          rw [if_pos c, if_neg c6, if_pos (tk.mp hex)]
          exact a2
        · exact ev
      · refine wk M1 (gX_refl M1) (my_rest (by omega) (by omega) hL hO (stM_g hs b1) (mt_g ht b1) hY1 ?_ (fun _ => ev))
        unfold oNm
        dsimp only
        rw [if_pos c, if_neg c6, if_neg (fun e => hno (tk.mpr e))]
        exact a1'
    · have eN : oNm T n Y (.inr q) = oNm1 T n q := by
        unfold oNm oNm1 at *
        dsimp only
        by_cases c : tD T n q = 1 ∧ ¬ isF T n 1 q
        · rw [if_pos c] at ok1 ⊢
          rw [if_pos c]
          by_cases c6 : 6 < te T n q.1 - q.1
          · rw [if_pos c6, if_pos c6]
          · rw [if_neg c6] at ok1; exact absurd trivial ok1
        · rw [if_neg c, if_neg c]
      cases hN : oNm1 T n q with
      | inr q' => rw [hN] at ok1; exact absurd trivial ok1
      | inl e =>
        rw [hN] at a1
        have a1' : mXf e.1 (e.2 : Int) M1 := a1
        refine d37_f (by omega) a1' l46 (by omega) (wk M1 (gX_refl M1) (my_rest (by omega) (by omega) hL hO (stM_g hs b1) (mt_g ht b1) hY1 ?_ (fun ok => ?_))) L 0 (by omega)
        · rw [eN, hN]; exact a1'
        · rw [eN, hN] at ok; exact absurd ok (fun h => h)
  · rw [if_neg c5, if_pos (by rw [y46]; omega), hbg]
    refine T_seq (mo_fail h5 (by decide)) ?_
    rintro M1 ⟨a1, b1, _⟩
    rw [if_neg (by rw [a1.1]; exact a1.2.1)]
    exact T_some ⟨a1, vF_X b1, fun h => absurd h (fun h => h)⟩
end YQ

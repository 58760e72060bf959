/-! A VALLEY IS TOLD: the class's plain statements -/
section YE
variable {Lg d n v : Nat} {T : Nat → Int} {Y Y' M M' : bz_M} {s : sT}
theorem yE_co (h : ∀ r, r = 361 ∨ r = 362 ∨ r = 363 → Y' r = Y r) : yE Y' = yE Y ∧ yB Y' = yB Y := by
  unfold yE yB yOps
  rw [h 361 (by decide), h 362 (by decide), h 363 (by decide)]
  exact ⟨rfl, rfl⟩
theorem cY_mk (h : cY v Y M) (hM : ∀ r, v ≤ r → r ≤ v + 15 → r ≠ v + 1 → r ≠ v + 2 → r ≠ v + 3 → M' r = M r) (hY : ∀ r, r ≠ 358 → r ≠ 359 → r ≠ 360 → Y' r = Y r) (h1 : ∀ k, k < 10 → M' (v + 1) k = Y' 359 k) (h2 : ∀ k, k < 80 → M' (v + 2) k = Y' 358 k) (h3 : ∀ k, k < 80 → M' (v + 3) k = Y' 360 k) : cY v Y' M' := by
  obtain ⟨c0, c1, c2, c3, c4, c5, c6, c7⟩ := h
  have e := yE_co (Y := Y) (Y' := Y') (fun r hr => hY r (by omega) (by omega) (by omega))
  refine ⟨?_, h1, h2, h3, ?_, ?_, ?_, ?_⟩
  · unfold cY0 at c0 ⊢
    rw [hM v (by omega) (by omega) (by omega) (by omega) (by omega), hY 355 (by decide) (by decide) (by decide), hY 319 (by decide) (by decide) (by decide), hY 361 (by decide) (by decide) (by decide)]
    exact c0
  · unfold cY4 at c4 ⊢
    rw [hM (v + 4) (by omega) (by omega) (by omega) (by omega) (by omega), hM (v + 5) (by omega) (by omega) (by omega) (by omega) (by omega), hM (v + 6) (by omega) (by omega) (by omega) (by omega) (by omega), hM (v + 7) (by omega) (by omega) (by omega) (by omega) (by omega), hM (v + 8) (by omega) (by omega) (by omega) (by omega) (by omega), hM (v + 9) (by omega) (by omega) (by omega) (by omega) (by omega), hY 319 (by decide) (by decide) (by decide), hY 357 (by decide) (by decide) (by decide), hY 1000 (by decide) (by decide) (by decide)]
    exact c4
  · rw [hM (v + 9) (by omega) (by omega) (by omega) (by omega) (by omega), hY 319 (by decide) (by decide) (by decide)]
    exact c5
  · rw [e.1]; unfold cC at c6 ⊢
    rw [hM (v + 10) (by omega) (by omega) (by omega) (by omega) (by omega), hM (v + 10 + 1) (by omega) (by omega) (by omega) (by omega) (by omega)]; exact c6
  · rw [e.2]; unfold cC at c7 ⊢
    rw [hM (v + 13) (by omega) (by omega) (by omega) (by omega) (by omega), hM (v + 13 + 1) (by omega) (by omega) (by omega) (by omega) (by omega)]; exact c7
theorem cY_row {j R k : Nat} {x : Int} (hj : (j = 1 ∧ R = 359) ∨ (j = 2 ∧ R = 358) ∨ (j = 3 ∧ R = 360)) (h : cY v Y M) : cY v (bz_up Y R k x) (bz_up M (v + j) k x) := by
  have h1 := h.2.1
  have h2 := h.2.2.1
  have h3 := h.2.2.2.1
  refine cY_mk h (fun r a1 a2 a3 a4 a5 => bz_up_fn (by omega)) (fun r a1 a2 a3 => bz_up_fn (by omega)) (fun i hi => ?_) (fun i hi => ?_) (fun i hi => ?_)
  · rw [bz_up_rk, bz_up_rk, h1 i hi]
    by_cases e : j = 1
    · by_cases e2 : i = k
      · rw [if_pos (by omega), if_pos (by omega)]
      · rw [if_neg (by omega), if_neg (by omega)]
    · rw [if_neg (by omega), if_neg (by omega)]
  · rw [bz_up_rk, bz_up_rk, h2 i hi]
    by_cases e : j = 2
    · by_cases e2 : i = k
      · rw [if_pos (by omega), if_pos (by omega)]
      · rw [if_neg (by omega), if_neg (by omega)]
    · rw [if_neg (by omega), if_neg (by omega)]
  · rw [bz_up_rk, bz_up_rk, h3 i hi]
    by_cases e : j = 3
    · by_cases e2 : i = k
      · rw [if_pos (by omega), if_pos (by omega)]
      · rw [if_neg (by omega), if_neg (by omega)]
    · rw [if_neg (by omega), if_neg (by omega)]
/-- two numbers: a column and a row -/
theorem c_two (hd : 4 < d) (hv : bz_oV v) (hs : stC M) (ht : tb T n M) (hO : yOK Y) (hY : cY v Y M) (h : cSt T n s M) {α : Type} {F : Int × bz_M → Int × bz_M → Option α} {Q : α → Prop} (hF : ∀ M1 M2, fT M M1 → fT M1 M2 → cSt T n (oN T n 0 (Y 355 0 - 1) s).1 M1 → cSt T n (oN T n 0 (Y 355 1 - 1) (oN T n 0 (Y 355 0 - 1) s).1).1 M2 → w_T (F ((oN T n 0 (Y 355 0 - 1) s).2, M1) ((oN T n 0 (Y 355 1 - 1) (oN T n 0 (Y 355 0 - 1) s).1).2, M2)) Q) : w_T ((eTx_takesNumber Lg (d - 1) 0 (bz_w32 ((M v 0) - 1)) M).bind (fun p1 => (eTx_takesNumber Lg (d - 1) 0 (bz_w32 ((p1.2 v 1) - 1)) p1.2).bind (fun p2 => F p1 p2))) Q := by
  have hvv := oV_c hv
  obtain ⟨o1, o2, o3, o4, o5⟩ := hO
  rw [hY.1.1, w32_id (by omega) (by omega)]
  refine T_seq (cs_N (by omega) hs ht h) ?_
  rintro ⟨n1, M1⟩ ⟨e1, a1, b1⟩
  dsimp only at e1 a1 b1 ⊢
  rw [b1 v (by omega), hY.1.2.1, w32_id (by omega) (by omega)]
  refine T_seq (cs_N (by omega) (stC_fT hs b1) (tb_fT ht b1) a1) ?_
  rintro ⟨n2, M2⟩ ⟨e2, a2, b2⟩
  dsimp only at e2 a2 b2 ⊢
  rw [e1, e2]
  exact hF M1 M2 b1 b2 a1 a2
theorem c_runs (hd : 4 < d) (hv : bz_oV v) (hs : stC M) (ht : tb T n M) (hO : yOK Y) (hY : cY v Y M) (h : cSt T n s M) : w_T ((eTx_takesNumber Lg (d - 1) 0 (bz_w32 ((M v 0) - 1)) M).bind (fun p14 => ((eTx_takesNumber Lg (d - 1) 0 (bz_w32 ((p14.2 v 1) - 1)) p14.2).bind (fun p15 => (if (0 : Int) ≤ p14.1 ∧ p14.1 < 10 then (some (bz_up p15.2 (v + 1) (Int.toNat p14.1) p15.1)) else none))))) (fun M' => cSt T n (yRu T n Y s).1 M' ∧ fY v M M' ∧ cY v (yRu T n Y s).2 M') := by
  have hvv := oV_c hv
  refine c_two (F := fun p14 p15 => if (0 : Int) ≤ p14.1 ∧ p14.1 < 10 then (some (bz_up p15.2 (v + 1) (Int.toNat p14.1) p15.1)) else none) hd hv hs ht hO hY h (fun M1 M2 b1 b2 a1 a2 => ?_)
  have hr := oN_rg (T := T) (n := n) (s := s) (a := 0) (b := Y 355 0 - 1) (by have := hO.1; omega)
  have := hO.1
  dsimp only
  rw [if_pos (by omega)]
  exact T_some ⟨cSt_up a2 (by omega), fY_trans (fY_T (fT_trans b1 b2)) (fY_up (by omega)), cY_row (Or.inl ⟨rfl, rfl⟩) (cY_T hv (cY_T hv hY b1) b2)⟩
theorem c_soil (hd : 4 < d) (hv : bz_oV v) (hs : stC M) (ht : tb T n M) (hO : yOK Y) (hY : cY v Y M) (h : cSt T n s M) : w_T ((eTx_takesNumber Lg (d - 1) 0 (bz_w32 ((M v 0) - 1)) M).bind (fun p11 => ((eTx_takesNumber Lg (d - 1) 0 (bz_w32 ((p11.2 v 1) - 1)) p11.2).bind (fun p12 => ((eTx_takesNumber Lg (d - 1) 0 9 p12.2).bind (fun p13 => (if (0 : Int) ≤ (bz_w32 ((bz_w32 (p11.1 * 8)) + p12.1)) ∧ (bz_w32 ((bz_w32 (p11.1 * 8)) + p12.1)) < 80 then (some (bz_up p13.2 (v + 2) (Int.toNat (bz_w32 ((bz_w32 (p11.1 * 8)) + p12.1))) p13.1)) else none))))))) (fun M' => cSt T n (ySo T n Y s).1 M' ∧ fY v M M' ∧ cY v (ySo T n Y s).2 M') := by
  have hvv := oV_c hv
  refine c_two (F := fun p11 p12 => ((eTx_takesNumber Lg (d - 1) 0 9 p12.2).bind (fun p13 => (if (0 : Int) ≤ (bz_w32 ((bz_w32 (p11.1 * 8)) + p12.1)) ∧ (bz_w32 ((bz_w32 (p11.1 * 8)) + p12.1)) < 80 then (some (bz_up p13.2 (v + 2) (Int.toNat (bz_w32 ((bz_w32 (p11.1 * 8)) + p12.1))) p13.1)) else none)))) hd hv hs ht hO hY h (fun M1 M2 b1 b2 a1 a2 => ?_)
  have h1 := hO.1
  have h2 := hO.2.1
  have hr := oN_rg (T := T) (n := n) (s := s) (a := 0) (b := Y 355 0 - 1) (by omega)
  have hr2 := oN_rg (T := T) (n := n) (s := (oN T n 0 (Y 355 0 - 1) s).1) (a := 0) (b := Y 355 1 - 1) (by omega)
  dsimp only
  have b12 := fT_trans b1 b2
  refine T_seq (cs_N (by omega) (stC_fT hs b12) (tb_fT ht b12) a2) ?_
  rintro ⟨n3, M3⟩ ⟨e3, a3, b3⟩
  dsimp only at e3 a3 b3 ⊢
  rw [w32_id (z := (oN T n 0 (Y 355 0 - 1) s).2 * 8) (by omega) (by omega), w32_id (by omega) (by omega), if_pos (by omega), e3]
  refine T_some ⟨cSt_up a3 (by omega), fY_trans (fY_T (fT_trans b12 b3)) (fY_up (by omega)), ?_⟩
  have := cY_row (j := 2) (R := 358) (k := (8 * (oN T n 0 (Y 355 0 - 1) s).2 + (oN T n 0 (Y 355 1 - 1) (oN T n 0 (Y 355 0 - 1) s).1).2).toNat) (x := (oN T n 0 9 (oN T n 0 (Y 355 1 - 1) (oN T n 0 (Y 355 0 - 1) s).1).1).2) (Or.inr (Or.inl ⟨rfl, rfl⟩)) (cY_T hv hY (fT_trans b12 b3))
  rw [show (oN T n 0 (Y 355 0 - 1) s).2 * 8 + (oN T n 0 (Y 355 1 - 1) (oN T n 0 (Y 355 0 - 1) s).1).2 = 8 * (oN T n 0 (Y 355 0 - 1) s).2 + (oN T n 0 (Y 355 1 - 1) (oN T n 0 (Y 355 0 - 1) s).1).2 by omega]
  exact this
theorem c_willow (hd : 5 < d) (hv : bz_oV v) (hs : stC M) (ht : tb T n M) (hO : yOK Y) (hw : ∀ k, k < 80 → 0 ≤ Y 360 k ∧ Y 360 k ≤ 9) (hY : cY v Y M) (h : cSt T n s M) : w_T (eVy_readWillow Lg d v M) (fun M' => cSt T n (yWi T n Y s).1 M' ∧ fY v M M' ∧ (isOk (yWi T n Y s).1 → cY v (yWi T n Y s).2 M')) := by
  have hvv := oV_c hv
  have h1 := hO.1
  have h2 := hO.2.1
  have hr := oN_rg (T := T) (n := n) (s := s) (a := 0) (b := Y 355 0 - 1) (by omega)
  have hr2 := oN_rg (T := T) (n := n) (s := (oN T n 0 (Y 355 0 - 1) s).1) (a := 0) (b := Y 355 1 - 1) (by omega)
  refine T_le (eVy_readWillow_E (by omega) hv) ?_
  refine c_two (F := fun p1 p2 => if (0 : Int) ≤ (bz_w32 ((bz_w32 (p1.1 * 8)) + p2.1)) ∧ (bz_w32 ((bz_w32 (p1.1 * 8)) + p2.1)) < 80 then (if (p2.2 (v + 3) (Int.toNat (bz_w32 ((bz_w32 (p1.1 * 8)) + p2.1)))) < 9 then (some (bz_up p2.2 (v + 3) (Int.toNat (bz_w32 ((bz_w32 (p1.1 * 8)) + p2.1))) (bz_w32 ((p2.2 (v + 3) (Int.toNat (bz_w32 ((bz_w32 (p1.1 * 8)) + p2.1)))) + 1)))) else ((eTx_fail Lg (d - 1) 2 (p1.2 123 3) p2.2).bind (fun M1 => (some M1)))) else none) (by omega) hv hs ht hO hY h (fun M1 M2 b1 b2 a1 a2 => ?_)
  dsimp only
  have b12 := fT_trans b1 b2
  have hY2 := cY_T hv hY b12
  unfold yWi
  dsimp only
  generalize hc : (oN T n 0 (Y 355 0 - 1) s).2 = c at hr ⊢
  generalize hs1 : (oN T n 0 (Y 355 0 - 1) s).1 = s1 at a1 a2 hr2 ⊢
  generalize hr0 : (oN T n 0 (Y 355 1 - 1) s1).2 = r at hr2 ⊢
  generalize hs2 : (oN T n 0 (Y 355 1 - 1) s1).1 = s2 at a2 ⊢
  rw [w32_id (z := c * 8) (by omega) (by omega), w32_id (z := c * 8 + r) (by omega) (by omega), if_pos (by omega), show c * 8 + r = 8 * c + r by omega]
  have hwk := hw (8 * c + r).toNat (by omega)
  have hM2 : M2 (v + 3) (8 * c + r).toNat = Y 360 (8 * c + r).toNat := hY2.2.2.2.1 _ (by omega)
  by_cases c9 : Y 360 (8 * c + r).toNat < 9
  · rw [if_pos (by rw [hM2]; exact c9), hM2, w32_id (by omega) (by omega)]
    refine T_some ⟨?_, fY_trans (fY_T b12) (fY_up (by omega)), ?_⟩
    · cases s2 with
      | inl e => exact cSt_up a2 (by omega)
      | inr q =>
        dsimp only
        rw [if_pos c9]
        exact cSt_up a2 (by omega)
    · cases s2 with
      | inl e => exact fun h => absurd h (fun h => h)
      | inr q =>
        dsimp only
        rw [if_pos c9]
        exact fun _ => cY_row (j := 3) (R := 360) (Or.inr (Or.inr ⟨rfl, rfl⟩)) hY2
  · rw [if_neg (by rw [hM2]; exact c9)]
    cases s2 with
    | inl e =>
      refine T_seq (tx_fail_f a2) ?_
      rintro M3 ⟨a3, b3⟩
      exact T_some ⟨a3, fY_T (fT_trans b12 b3), fun h => absurd h (fun h => h)⟩
    | inr q =>
      dsimp only
      rw [if_neg c9]
      have a2' : cX T n q M2 ∧ qOK T n q := a2
      cases s1 with
      | inl e => cases hs2
      | inr q1 =>
        have a1' : cX T n q1 M1 ∧ qOK T n q1 := a1
        rw [a1'.1.2.1]
        refine T_seq (tx_fail a2'.1 (by decide)) ?_
        rintro M3 ⟨a3, b3⟩
        exact T_some ⟨a3, fY_T (fT_trans b12 b3), fun h => absurd h (fun h => h)⟩
theorem c_spate (hd : 4 < d) (hv : bz_oV v) (hs : stC M) (ht : tb T n M) (hY : cY v Y M) (h : cSt T n s M) : w_T ((eTx_takesNumber Lg (d - 1) 0 100 M).bind (fun p10 => (some (bz_up p10.2 v 4 p10.1)))) (fun M' => cSt T n (ySp T n Y s).1 M' ∧ fY v M M' ∧ cY v (ySp T n Y s).2 M') := by
  have hvv := oV_c hv
  refine T_seq (cs_N (by omega) hs ht h) ?_
  rintro ⟨n1, M1⟩ ⟨e1, a1, b1⟩
  dsimp only at e1 a1 b1 ⊢
  refine T_some ⟨cSt_up a1 (by omega), fY_trans (fY_T b1) (fY_up (by omega)), ?_⟩
  have y := cY_T hv hY b1
  obtain ⟨c0, c1, c2, c3, c4, c5, c6, c7⟩ := y
  have e := yE_co (Y := Y) (Y' := (ySp T n Y s).2) (fun r hr => by
    show bz_up Y 319 53 _ r = Y r
    exact bz_up_fn (by omega))
  have yy : ∀ r, r ≠ 319 → (ySp T n Y s).2 r = Y r := fun r hr => bz_up_fn hr
  have y46 : (ySp T n Y s).2 319 46 = Y 319 46 := by
    show bz_up Y 319 53 (oN T n 0 100 s).2 319 46 = Y 319 46
    exact bz_up_nk (by decide) _
  refine ⟨⟨?_, ?_, ?_, ?_, ?_, ?_, ?_⟩, ?_, ?_, ?_, ?_, ?_, ?_, ?_⟩
  · rw [bz_up_nk (by decide), yy 355 (by decide)]; exact c0.1
  · rw [bz_up_nk (by decide), yy 355 (by decide)]; exact c0.2.1
  · rw [bz_up_nk (by decide), yy 355 (by decide)]; exact c0.2.2.1
  · rw [bz_up_nk (by decide), y46]; exact c0.2.2.2.1
  · rw [bz_up_eq]; exact e1
  · rw [bz_up_nk (by decide), yy 361 (by decide)]; exact c0.2.2.2.2.2.1
  · rw [bz_up_nk (by decide), yy 361 (by decide)]; exact c0.2.2.2.2.2.2
  · rw [bz_up_fn (by omega), yy 359 (by decide)]; exact c1
  · rw [bz_up_fn (by omega), yy 358 (by decide)]; exact c2
  · rw [bz_up_fn (by omega), yy 360 (by decide)]; exact c3
  · unfold cY4 at c4 ⊢
    rw [y46, yy 357 (by decide), yy 1000 (by decide), bz_up_fn (by omega), bz_up_fn (by omega), bz_up_fn (by omega), bz_up_fn (by omega), bz_up_fn (by omega), bz_up_fn (by omega)]
    exact c4
  · rw [y46, bz_up_fn (by omega)]; exact c5
  · rw [e.1]; unfold cC at c6 ⊢; rw [bz_up_fn (by omega), bz_up_fn (by omega)]; exact c6
  · rw [e.2]; unfold cC at c7 ⊢; rw [bz_up_fn (by omega), bz_up_fn (by omega)]; exact c7
end YE

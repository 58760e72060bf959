/-! A VALLEY IS TOLD: the reference's names -/
abbrev ownP (T : Nat → Int) (n : Nat) (q : pL) : Prop := tD T n q = 1 ∧ wd T n q.1 < 33
set_option maxRecDepth 100000 in
theorem own_all : ∀ i, i < 39 → (bz_and (wPl i) 1 ≠ 0 ↔ i < 33) := by decide +kernel
section YP
variable {Lg d n : Nat} {T : Nat → Int} {Y M M' : bz_M} {q : pL}
theorem own_F : isF T n 1 q ↔ ownP T n q := by
  constructor
  · intro h
    exact ⟨h.1, (own_all _ h.2.1).mp h.2.2⟩
  · intro h
    have h2 := h.2
    exact ⟨h.1, by omega, (own_all _ (by omega)).mpr h2⟩
theorem ow1_375 (hd : 0 < d) : eMo_isOwnHere_375 Lg d 1 M = some (1, M) := eMo_isOwnHere_375_E hd _ (by rw [if_neg (by decide)])
theorem ow1_299 (hd : 0 < d) : eMo_isOwnHere_299 Lg d 1 M = some (1, M) := eMo_isOwnHere_299_E hd _ (by rw [if_neg (by decide)]; exact ow1_375 hd)
theorem ow1_223 (hd : 0 < d) : eMo_isOwnHere_223 Lg d 1 M = some (1, M) := eMo_isOwnHere_223_E hd _ (by rw [if_neg (by decide)]; exact ow1_299 hd)
theorem ow1_147 (hd : 0 < d) : eMo_isOwnHere_147 Lg d 1 M = some (1, M) := eMo_isOwnHere_147_E hd _ (by rw [if_neg (by decide)]; exact ow1_223 hd)
theorem ow1_71 (hd : 0 < d) : eMo_isOwnHere_71 Lg d 1 M = some (1, M) := eMo_isOwnHere_71_E hd _ (by rw [if_neg (by decide)]; exact ow1_147 hd)
def owP (T : Nat → Int) (n : Nat) (q : pL) (M : bz_M) (p : Int × bz_M) : Prop := p.1 = bz_b (ownP T n q) ∧ mY T n q p.2 ∧ g2 M p.2
theorem ow_yes {i : Nat} (hi : i < 33) (h : isW T n i q) : (1 : Int) = bz_b (ownP T n q) := (bz_b1.mpr (show ownP T n q from ⟨h.1, by rw [h.2]; exact hi⟩)).symm
theorem ow_no (h : ∀ i, i < 33 → ¬ isW T n i q) : (0 : Int) = bz_b (ownP T n q) := (bz_b0.mpr (fun e : ownP T n q => h _ e.2 ⟨e.1, rfl⟩)).symm
theorem ow_375 (hd : 1 < d) (hs : stM M) (ht : mt T n M) (hX : mX T n q M) (hN : ∀ i, i < 30 → ¬ isW T n i q) : w_T (eMo_isOwnHere_375 Lg d 0 M) (owP T n q M) := by
  refine T_le (eMo_isOwnHere_375_E (by omega)) ?_
  rw [if_pos rfl]
  refine T_seq (hs_c (r := 352) (by omega) (by decide) hs ht hX) ?_
  rintro ⟨p1, M1⟩ ⟨y1, b, e⟩
  dsimp only at y1 b e ⊢
  have g1 := b
  rcases e with ⟨rfl, c⟩ | ⟨rfl, c1⟩
  · rw [if_neg (by decide)]
    exact T_some ⟨ow_yes (i := 30) (by decide) c, y1, g1⟩
  rw [if_pos rfl]
  refine T_seq (hs_c (r := 353) (by omega) (by decide) (stM_g hs (gX_2 g1)) (mt_g ht (gX_2 g1)) y1.1) ?_
  rintro ⟨p1, M2⟩ ⟨y2, b, e⟩
  dsimp only at y2 b e ⊢
  have g2 := g2_trans g1 b
  rcases e with ⟨rfl, c⟩ | ⟨rfl, c2⟩
  · rw [if_neg (by decide)]
    exact T_some ⟨ow_yes (i := 31) (by decide) c, y2, g2⟩
  rw [if_pos rfl]
  refine T_seq (hs_c (r := 354) (by omega) (by decide) (stM_g hs (gX_2 g2)) (mt_g ht (gX_2 g2)) y2.1) ?_
  rintro ⟨p1, M3⟩ ⟨y3, b, e⟩
  dsimp only at y3 b e ⊢
  have g3 := g2_trans g2 b
  rcases e with ⟨rfl, c⟩ | ⟨rfl, c3⟩
  · rw [if_neg (by decide)]
    exact T_some ⟨ow_yes (i := 32) (by decide) c, y3, g3⟩
  rw [if_pos rfl]
  have hA : ∀ i, i < 33 → ¬ isW T n i q := fun i hi => by
    by_cases e : i < 30
    · exact hN i e
    · rcases (show i = 30 ∨ i = 31 ∨ i = 32 by omega) with rfl | rfl | rfl
      · exact c1
      · exact c2
      · exact c3
  exact T_some ⟨ow_no hA, y3, g3⟩
theorem ow_299 (hd : 1 < d) (hs : stM M) (ht : mt T n M) (hX : mX T n q M) (hN : ∀ i, i < 24 → ¬ isW T n i q) : w_T (eMo_isOwnHere_299 Lg d 0 M) (owP T n q M) := by
  refine T_le (eMo_isOwnHere_299_E (by omega)) ?_
  rw [if_pos rfl]
  refine T_seq (hs_c (r := 346) (by omega) (by decide) hs ht hX) ?_
  rintro ⟨p1, M1⟩ ⟨y1, b, e⟩
  dsimp only at y1 b e ⊢
  have g1 := b
  rcases e with ⟨rfl, c⟩ | ⟨rfl, c1⟩
  · rw [if_neg (by decide)]
    exact T_eq (ow1_375 (by omega)) ⟨ow_yes (i := 24) (by decide) c, y1, g1⟩
  rw [if_pos rfl]
  refine T_seq (hs_c (r := 347) (by omega) (by decide) (stM_g hs (gX_2 g1)) (mt_g ht (gX_2 g1)) y1.1) ?_
  rintro ⟨p1, M2⟩ ⟨y2, b, e⟩
  dsimp only at y2 b e ⊢
  have g2 := g2_trans g1 b
  rcases e with ⟨rfl, c⟩ | ⟨rfl, c2⟩
  · rw [if_neg (by decide)]
    exact T_eq (ow1_375 (by omega)) ⟨ow_yes (i := 25) (by decide) c, y2, g2⟩
  rw [if_pos rfl]
  refine T_seq (hs_c (r := 348) (by omega) (by decide) (stM_g hs (gX_2 g2)) (mt_g ht (gX_2 g2)) y2.1) ?_
  rintro ⟨p1, M3⟩ ⟨y3, b, e⟩
  dsimp only at y3 b e ⊢
  have g3 := g2_trans g2 b
  rcases e with ⟨rfl, c⟩ | ⟨rfl, c3⟩
  · rw [if_neg (by decide)]
    exact T_eq (ow1_375 (by omega)) ⟨ow_yes (i := 26) (by decide) c, y3, g3⟩
  rw [if_pos rfl]
  refine T_seq (hs_c (r := 349) (by omega) (by decide) (stM_g hs (gX_2 g3)) (mt_g ht (gX_2 g3)) y3.1) ?_
  rintro ⟨p1, M4⟩ ⟨y4, b, e⟩
  dsimp only at y4 b e ⊢
  have g4 := g2_trans g3 b
  rcases e with ⟨rfl, c⟩ | ⟨rfl, c4⟩
  · rw [if_neg (by decide)]
    exact T_eq (ow1_375 (by omega)) ⟨ow_yes (i := 27) (by decide) c, y4, g4⟩
  rw [if_pos rfl]
  refine T_seq (hs_c (r := 350) (by omega) (by decide) (stM_g hs (gX_2 g4)) (mt_g ht (gX_2 g4)) y4.1) ?_
  rintro ⟨p1, M5⟩ ⟨y5, b, e⟩
  dsimp only at y5 b e ⊢
  have g5 := g2_trans g4 b
  rcases e with ⟨rfl, c⟩ | ⟨rfl, c5⟩
  · rw [if_neg (by decide)]
    exact T_eq (ow1_375 (by omega)) ⟨ow_yes (i := 28) (by decide) c, y5, g5⟩
  rw [if_pos rfl]
  refine T_seq (hs_c (r := 351) (by omega) (by decide) (stM_g hs (gX_2 g5)) (mt_g ht (gX_2 g5)) y5.1) ?_
  rintro ⟨p1, M6⟩ ⟨y6, b, e⟩
  dsimp only at y6 b e ⊢
  have g6 := g2_trans g5 b
  rcases e with ⟨rfl, c⟩ | ⟨rfl, c6⟩
  · rw [if_neg (by decide)]
    exact T_eq (ow1_375 (by omega)) ⟨ow_yes (i := 29) (by decide) c, y6, g6⟩
  rw [if_pos rfl]
  have hA : ∀ i, i < 30 → ¬ isW T n i q := fun i hi => by
    by_cases e : i < 24
    · exact hN i e
    · rcases (show i = 24 ∨ i = 25 ∨ i = 26 ∨ i = 27 ∨ i = 28 ∨ i = 29 by omega) with rfl | rfl | rfl | rfl | rfl | rfl
      · exact c1
      · exact c2
      · exact c3
      · exact c4
      · exact c5
      · exact c6
  refine T_mono (ow_375 hd (stM_g hs (gX_2 g6)) (mt_g ht (gX_2 g6)) y6.1 hA) ?_
  rintro p ⟨x1, x2, x3⟩
  exact ⟨x1, x2, g2_trans g6 x3⟩
theorem ow_223 (hd : 1 < d) (hs : stM M) (ht : mt T n M) (hX : mX T n q M) (hN : ∀ i, i < 18 → ¬ isW T n i q) : w_T (eMo_isOwnHere_223 Lg d 0 M) (owP T n q M) := by
  refine T_le (eMo_isOwnHere_223_E (by omega)) ?_
  rw [if_pos rfl]
  refine T_seq (hs_c (r := 340) (by omega) (by decide) hs ht hX) ?_
  rintro ⟨p1, M1⟩ ⟨y1, b, e⟩
  dsimp only at y1 b e ⊢
  have g1 := b
  rcases e with ⟨rfl, c⟩ | ⟨rfl, c1⟩
  · rw [if_neg (by decide)]
    exact T_eq (ow1_299 (by omega)) ⟨ow_yes (i := 18) (by decide) c, y1, g1⟩
  rw [if_pos rfl]
  refine T_seq (hs_c (r := 341) (by omega) (by decide) (stM_g hs (gX_2 g1)) (mt_g ht (gX_2 g1)) y1.1) ?_
  rintro ⟨p1, M2⟩ ⟨y2, b, e⟩
  dsimp only at y2 b e ⊢
  have g2 := g2_trans g1 b
  rcases e with ⟨rfl, c⟩ | ⟨rfl, c2⟩
  · rw [if_neg (by decide)]
    exact T_eq (ow1_299 (by omega)) ⟨ow_yes (i := 19) (by decide) c, y2, g2⟩
  rw [if_pos rfl]
  refine T_seq (hs_c (r := 342) (by omega) (by decide) (stM_g hs (gX_2 g2)) (mt_g ht (gX_2 g2)) y2.1) ?_
  rintro ⟨p1, M3⟩ ⟨y3, b, e⟩
  dsimp only at y3 b e ⊢
  have g3 := g2_trans g2 b
  rcases e with ⟨rfl, c⟩ | ⟨rfl, c3⟩
  · rw [if_neg (by decide)]
    exact T_eq (ow1_299 (by omega)) ⟨ow_yes (i := 20) (by decide) c, y3, g3⟩
  rw [if_pos rfl]
  refine T_seq (hs_c (r := 343) (by omega) (by decide) (stM_g hs (gX_2 g3)) (mt_g ht (gX_2 g3)) y3.1) ?_
  rintro ⟨p1, M4⟩ ⟨y4, b, e⟩
  dsimp only at y4 b e ⊢
  have g4 := g2_trans g3 b
  rcases e with ⟨rfl, c⟩ | ⟨rfl, c4⟩
  · rw [if_neg (by decide)]
    exact T_eq (ow1_299 (by omega)) ⟨ow_yes (i := 21) (by decide) c, y4, g4⟩
  rw [if_pos rfl]
  refine T_seq (hs_c (r := 344) (by omega) (by decide) (stM_g hs (gX_2 g4)) (mt_g ht (gX_2 g4)) y4.1) ?_
  rintro ⟨p1, M5⟩ ⟨y5, b, e⟩
  dsimp only at y5 b e ⊢
  have g5 := g2_trans g4 b
  rcases e with ⟨rfl, c⟩ | ⟨rfl, c5⟩
  · rw [if_neg (by decide)]
    exact T_eq (ow1_299 (by omega)) ⟨ow_yes (i := 22) (by decide) c, y5, g5⟩
  rw [if_pos rfl]
  refine T_seq (hs_c (r := 345) (by omega) (by decide) (stM_g hs (gX_2 g5)) (mt_g ht (gX_2 g5)) y5.1) ?_
  rintro ⟨p1, M6⟩ ⟨y6, b, e⟩
  dsimp only at y6 b e ⊢
  have g6 := g2_trans g5 b
  rcases e with ⟨rfl, c⟩ | ⟨rfl, c6⟩
  · rw [if_neg (by decide)]
    exact T_eq (ow1_299 (by omega)) ⟨ow_yes (i := 23) (by decide) c, y6, g6⟩
  rw [if_pos rfl]
  have hA : ∀ i, i < 24 → ¬ isW T n i q := fun i hi => by
    by_cases e : i < 18
    · exact hN i e
    · rcases (show i = 18 ∨ i = 19 ∨ i = 20 ∨ i = 21 ∨ i = 22 ∨ i = 23 by omega) with rfl | rfl | rfl | rfl | rfl | rfl
      · exact c1
      · exact c2
      · exact c3
      · exact c4
      · exact c5
      · exact c6
  refine T_mono (ow_299 hd (stM_g hs (gX_2 g6)) (mt_g ht (gX_2 g6)) y6.1 hA) ?_
  rintro p ⟨x1, x2, x3⟩
  exact ⟨x1, x2, g2_trans g6 x3⟩
theorem ow_147 (hd : 1 < d) (hs : stM M) (ht : mt T n M) (hX : mX T n q M) (hN : ∀ i, i < 12 → ¬ isW T n i q) : w_T (eMo_isOwnHere_147 Lg d 0 M) (owP T n q M) := by
  refine T_le (eMo_isOwnHere_147_E (by omega)) ?_
  rw [if_pos rfl]
  refine T_seq (hs_c (r := 334) (by omega) (by decide) hs ht hX) ?_
  rintro ⟨p1, M1⟩ ⟨y1, b, e⟩
  dsimp only at y1 b e ⊢
  have g1 := b
  rcases e with ⟨rfl, c⟩ | ⟨rfl, c1⟩
  · rw [if_neg (by decide)]
    exact T_eq (ow1_223 (by omega)) ⟨ow_yes (i := 12) (by decide) c, y1, g1⟩
  rw [if_pos rfl]
  refine T_seq (hs_c (r := 335) (by omega) (by decide) (stM_g hs (gX_2 g1)) (mt_g ht (gX_2 g1)) y1.1) ?_
  rintro ⟨p1, M2⟩ ⟨y2, b, e⟩
  dsimp only at y2 b e ⊢
  have g2 := g2_trans g1 b
  rcases e with ⟨rfl, c⟩ | ⟨rfl, c2⟩
  · rw [if_neg (by decide)]
    exact T_eq (ow1_223 (by omega)) ⟨ow_yes (i := 13) (by decide) c, y2, g2⟩
  rw [if_pos rfl]
  refine T_seq (hs_c (r := 336) (by omega) (by decide) (stM_g hs (gX_2 g2)) (mt_g ht (gX_2 g2)) y2.1) ?_
  rintro ⟨p1, M3⟩ ⟨y3, b, e⟩
  dsimp only at y3 b e ⊢
  have g3 := g2_trans g2 b
  rcases e with ⟨rfl, c⟩ | ⟨rfl, c3⟩
  · rw [if_neg (by decide)]
    exact T_eq (ow1_223 (by omega)) ⟨ow_yes (i := 14) (by decide) c, y3, g3⟩
  rw [if_pos rfl]
  refine T_seq (hs_c (r := 337) (by omega) (by decide) (stM_g hs (gX_2 g3)) (mt_g ht (gX_2 g3)) y3.1) ?_
  rintro ⟨p1, M4⟩ ⟨y4, b, e⟩
  dsimp only at y4 b e ⊢
  have g4 := g2_trans g3 b
  rcases e with ⟨rfl, c⟩ | ⟨rfl, c4⟩
  · rw [if_neg (by decide)]
    exact T_eq (ow1_223 (by omega)) ⟨ow_yes (i := 15) (by decide) c, y4, g4⟩
  rw [if_pos rfl]
  refine T_seq (hs_c (r := 338) (by omega) (by decide) (stM_g hs (gX_2 g4)) (mt_g ht (gX_2 g4)) y4.1) ?_
  rintro ⟨p1, M5⟩ ⟨y5, b, e⟩
  dsimp only at y5 b e ⊢
  have g5 := g2_trans g4 b
  rcases e with ⟨rfl, c⟩ | ⟨rfl, c5⟩
  · rw [if_neg (by decide)]
    exact T_eq (ow1_223 (by omega)) ⟨ow_yes (i := 16) (by decide) c, y5, g5⟩
  rw [if_pos rfl]
  refine T_seq (hs_c (r := 339) (by omega) (by decide) (stM_g hs (gX_2 g5)) (mt_g ht (gX_2 g5)) y5.1) ?_
  rintro ⟨p1, M6⟩ ⟨y6, b, e⟩
  dsimp only at y6 b e ⊢
  have g6 := g2_trans g5 b
  rcases e with ⟨rfl, c⟩ | ⟨rfl, c6⟩
  · rw [if_neg (by decide)]
    exact T_eq (ow1_223 (by omega)) ⟨ow_yes (i := 17) (by decide) c, y6, g6⟩
  rw [if_pos rfl]
  have hA : ∀ i, i < 18 → ¬ isW T n i q := fun i hi => by
    by_cases e : i < 12
    · exact hN i e
    · rcases (show i = 12 ∨ i = 13 ∨ i = 14 ∨ i = 15 ∨ i = 16 ∨ i = 17 by omega) with rfl | rfl | rfl | rfl | rfl | rfl
      · exact c1
      · exact c2
      · exact c3
      · exact c4
      · exact c5
      · exact c6
  refine T_mono (ow_223 hd (stM_g hs (gX_2 g6)) (mt_g ht (gX_2 g6)) y6.1 hA) ?_
  rintro p ⟨x1, x2, x3⟩
  exact ⟨x1, x2, g2_trans g6 x3⟩
theorem ow_71 (hd : 1 < d) (hs : stM M) (ht : mt T n M) (hX : mX T n q M) (hN : ∀ i, i < 6 → ¬ isW T n i q) : w_T (eMo_isOwnHere_71 Lg d 0 M) (owP T n q M) := by
  refine T_le (eMo_isOwnHere_71_E (by omega)) ?_
  rw [if_pos rfl]
  refine T_seq (hs_c (r := 328) (by omega) (by decide) hs ht hX) ?_
  rintro ⟨p1, M1⟩ ⟨y1, b, e⟩
  dsimp only at y1 b e ⊢
  have g1 := b
  rcases e with ⟨rfl, c⟩ | ⟨rfl, c1⟩
  · rw [if_neg (by decide)]
    exact T_eq (ow1_147 (by omega)) ⟨ow_yes (i := 6) (by decide) c, y1, g1⟩
  rw [if_pos rfl]
  refine T_seq (hs_c (r := 329) (by omega) (by decide) (stM_g hs (gX_2 g1)) (mt_g ht (gX_2 g1)) y1.1) ?_
  rintro ⟨p1, M2⟩ ⟨y2, b, e⟩
  dsimp only at y2 b e ⊢
  have g2 := g2_trans g1 b
  rcases e with ⟨rfl, c⟩ | ⟨rfl, c2⟩
  · rw [if_neg (by decide)]
    exact T_eq (ow1_147 (by omega)) ⟨ow_yes (i := 7) (by decide) c, y2, g2⟩
  rw [if_pos rfl]
  refine T_seq (hs_c (r := 330) (by omega) (by decide) (stM_g hs (gX_2 g2)) (mt_g ht (gX_2 g2)) y2.1) ?_
  rintro ⟨p1, M3⟩ ⟨y3, b, e⟩
  dsimp only at y3 b e ⊢
  have g3 := g2_trans g2 b
  rcases e with ⟨rfl, c⟩ | ⟨rfl, c3⟩
  · rw [if_neg (by decide)]
    exact T_eq (ow1_147 (by omega)) ⟨ow_yes (i := 8) (by decide) c, y3, g3⟩
  rw [if_pos rfl]
  refine T_seq (hs_c (r := 331) (by omega) (by decide) (stM_g hs (gX_2 g3)) (mt_g ht (gX_2 g3)) y3.1) ?_
  rintro ⟨p1, M4⟩ ⟨y4, b, e⟩
  dsimp only at y4 b e ⊢
  have g4 := g2_trans g3 b
  rcases e with ⟨rfl, c⟩ | ⟨rfl, c4⟩
  · rw [if_neg (by decide)]
    exact T_eq (ow1_147 (by omega)) ⟨ow_yes (i := 9) (by decide) c, y4, g4⟩
  rw [if_pos rfl]
  refine T_seq (hs_c (r := 332) (by omega) (by decide) (stM_g hs (gX_2 g4)) (mt_g ht (gX_2 g4)) y4.1) ?_
  rintro ⟨p1, M5⟩ ⟨y5, b, e⟩
  dsimp only at y5 b e ⊢
  have g5 := g2_trans g4 b
  rcases e with ⟨rfl, c⟩ | ⟨rfl, c5⟩
  · rw [if_neg (by decide)]
    exact T_eq (ow1_147 (by omega)) ⟨ow_yes (i := 10) (by decide) c, y5, g5⟩
  rw [if_pos rfl]
  refine T_seq (hs_c (r := 333) (by omega) (by decide) (stM_g hs (gX_2 g5)) (mt_g ht (gX_2 g5)) y5.1) ?_
  rintro ⟨p1, M6⟩ ⟨y6, b, e⟩
  dsimp only at y6 b e ⊢
  have g6 := g2_trans g5 b
  rcases e with ⟨rfl, c⟩ | ⟨rfl, c6⟩
  · rw [if_neg (by decide)]
    exact T_eq (ow1_147 (by omega)) ⟨ow_yes (i := 11) (by decide) c, y6, g6⟩
  rw [if_pos rfl]
  have hA : ∀ i, i < 12 → ¬ isW T n i q := fun i hi => by
    by_cases e : i < 6
    · exact hN i e
    · rcases (show i = 6 ∨ i = 7 ∨ i = 8 ∨ i = 9 ∨ i = 10 ∨ i = 11 by omega) with rfl | rfl | rfl | rfl | rfl | rfl
      · exact c1
      · exact c2
      · exact c3
      · exact c4
      · exact c5
      · exact c6
  refine T_mono (ow_147 hd (stM_g hs (gX_2 g6)) (mt_g ht (gX_2 g6)) y6.1 hA) ?_
  rintro p ⟨x1, x2, x3⟩
  exact ⟨x1, x2, g2_trans g6 x3⟩
theorem mo_own (hd : 1 < d) (hs : stM M) (ht : mt T n M) (hX : mX T n q M) : w_T (eMo_isOwnHere Lg d M) (owP T n q M) := by
  refine T_le (eMo_isOwnHere_E (by omega)) ?_
  refine T_seq (hs_c (r := 322) (by omega) (by decide) hs ht hX) ?_
  rintro ⟨p1, M1⟩ ⟨y1, b, e⟩
  dsimp only at y1 b e ⊢
  have g1 := b
  rcases e with ⟨rfl, c⟩ | ⟨rfl, c1⟩
  · rw [if_neg (by decide)]
    exact T_eq (ow1_71 (by omega)) ⟨ow_yes (i := 0) (by decide) c, y1, g1⟩
  rw [if_pos rfl]
  refine T_seq (hs_c (r := 323) (by omega) (by decide) (stM_g hs (gX_2 g1)) (mt_g ht (gX_2 g1)) y1.1) ?_
  rintro ⟨p1, M2⟩ ⟨y2, b, e⟩
  dsimp only at y2 b e ⊢
  have g2 := g2_trans g1 b
  rcases e with ⟨rfl, c⟩ | ⟨rfl, c2⟩
  · rw [if_neg (by decide)]
    exact T_eq (ow1_71 (by omega)) ⟨ow_yes (i := 1) (by decide) c, y2, g2⟩
  rw [if_pos rfl]
  refine T_seq (hs_c (r := 324) (by omega) (by decide) (stM_g hs (gX_2 g2)) (mt_g ht (gX_2 g2)) y2.1) ?_
  rintro ⟨p1, M3⟩ ⟨y3, b, e⟩
  dsimp only at y3 b e ⊢
  have g3 := g2_trans g2 b
  rcases e with ⟨rfl, c⟩ | ⟨rfl, c3⟩
  · rw [if_neg (by decide)]
    exact T_eq (ow1_71 (by omega)) ⟨ow_yes (i := 2) (by decide) c, y3, g3⟩
  rw [if_pos rfl]
  refine T_seq (hs_c (r := 325) (by omega) (by decide) (stM_g hs (gX_2 g3)) (mt_g ht (gX_2 g3)) y3.1) ?_
  rintro ⟨p1, M4⟩ ⟨y4, b, e⟩
  dsimp only at y4 b e ⊢
  have g4 := g2_trans g3 b
  rcases e with ⟨rfl, c⟩ | ⟨rfl, c4⟩
  · rw [if_neg (by decide)]
    exact T_eq (ow1_71 (by omega)) ⟨ow_yes (i := 3) (by decide) c, y4, g4⟩
  rw [if_pos rfl]
  refine T_seq (hs_c (r := 326) (by omega) (by decide) (stM_g hs (gX_2 g4)) (mt_g ht (gX_2 g4)) y4.1) ?_
  rintro ⟨p1, M5⟩ ⟨y5, b, e⟩
  dsimp only at y5 b e ⊢
  have g5 := g2_trans g4 b
  rcases e with ⟨rfl, c⟩ | ⟨rfl, c5⟩
  · rw [if_neg (by decide)]
    exact T_eq (ow1_71 (by omega)) ⟨ow_yes (i := 4) (by decide) c, y5, g5⟩
  rw [if_pos rfl]
  refine T_seq (hs_c (r := 327) (by omega) (by decide) (stM_g hs (gX_2 g5)) (mt_g ht (gX_2 g5)) y5.1) ?_
  rintro ⟨p1, M6⟩ ⟨y6, b, e⟩
  dsimp only at y6 b e ⊢
  have g6 := g2_trans g5 b
  rcases e with ⟨rfl, c⟩ | ⟨rfl, c6⟩
  · rw [if_neg (by decide)]
    exact T_eq (ow1_71 (by omega)) ⟨ow_yes (i := 5) (by decide) c, y6, g6⟩
  rw [if_pos rfl]
  have hA : ∀ i, i < 6 → ¬ isW T n i q := fun i hi => by
    by_cases e : i < 0
    · exact absurd e (by omega)
    · rcases (show i = 0 ∨ i = 1 ∨ i = 2 ∨ i = 3 ∨ i = 4 ∨ i = 5 by omega) with rfl | rfl | rfl | rfl | rfl | rfl
      · exact c1
      · exact c2
      · exact c3
      · exact c4
      · exact c5
      · exact c6
  refine T_mono (ow_71 hd (stM_g hs (gX_2 g6)) (mt_g ht (gX_2 g6)) y6.1 hA) ?_
  rintro p ⟨x1, x2, x3⟩
  exact ⟨x1, x2, g2_trans g6 x3⟩
def oNm1 (T : Nat → Int) (n : Nat) (q : pL) : sT := if tD T n q = 1 ∧ ¬ isF T n 1 q then (if 6 < te T n q.1 - q.1 then .inl (1, q.1 + 6) else .inr (nx T n q)) else .inl (1, q.1)
theorem mo_n58 (hd : 0 < d) (hq : qOK T n q) (hk : tD T n q = 1) : ∀ (f p j : Nat) (v : Int) (M : bz_M), mt T n M → M 319 3 = (n : Int) → M 319 5 = 0 → M 319 6 = -1 → M 319 2 = (p : Int) → M 319 44 = (q.1 : Int) → p + f = te T n q.1 → p = q.1 + j → j ≤ 6 → (0 ≤ v ∧ v ≤ 387420488) → (j = 6 ∨ v ≤ 14348906) → (5 ≤ j ∨ v ≤ 531440) → (4 ≤ j ∨ v ≤ 19682) → (3 ≤ j ∨ v ≤ 728) → (2 ≤ j ∨ v ≤ 26) → (1 ≤ j ∨ v ≤ 0) → w_T (eMo_name_58 Lg d v M) (fun r => mSt2 T n (if 6 < j + f then .inl (1, q.1 + 6) else .inr (nx T n q)) r.2 ∧ (6 ≥ j + f → r.1 = tNv T f p v ∧ r.2 319 44 = (q.1 : Int)) ∧ gX M r.2)
  | 0, p, j, v, M, ht, h3, h5, h6, h2, h44, hp, hj, hj4, hv, _, _, _, _, _, _ => by
    have hk2 := (tD_k (Or.inl rfl) hk).1
    have hr := (te_run (T := T) hq.1 (by rw [hk2]; decide)).2
    have hte := te_all (T := T) hq.1
    have hn := ht.1
    rw [hk2] at hr
    have hpe : p = te T n q.1 := by omega
    have fin : w_T (some (v, bz_up M 319 4 (M 319 2))) (fun r => mSt2 T n (if 6 < j + 0 then .inl (1, q.1 + 6) else .inr (nx T n q)) r.2 ∧ (6 ≥ j + 0 → r.1 = tNv T 0 p v ∧ r.2 319 44 = (q.1 : Int)) ∧ gX M r.2) := by
      rw [if_neg (show ¬ 6 < j + 0 by omega)]
      refine T_some ⟨?_, fun _ => ⟨rfl, ?_⟩, gX_up (by decide)⟩
      · show mX T n (nx T n q) (bz_up M 319 4 (M 319 2))
        refine ⟨?_, ?_, ?_, ?_, ?_, ?_, ?_⟩
        · rw [bz_up_nk (by decide), h2]; omega
        · rw [bz_up_nk (by decide), h2, Int.toNat_natCast, hpe]; rfl
        · rw [bz_up_nk (by decide)]; exact h3
        · simp [bz_up_rk]
        · rw [bz_up_eq, h2, hpe]
          show (decide (sk T n (te T n q.1) = te T n q.1) && decide (tK T n q.1 = 1 ∨ tK T n q.1 = 2)) = true ↔ ((te T n q.1 : Nat) : Int) = ((sk T n (te T n q.1) : Nat) : Int)
          rw [Bool.and_eq_true, decide_eq_true_eq, decide_eq_true_eq]
          omega
        · rw [bz_up_nk (by decide)]; exact h5
        · rw [bz_up_nk (by decide)]; exact h6
      · show bz_up M 319 4 (M 319 2) 319 44 = _
        rw [bz_up_nk (by decide)]; exact h44
    refine T_le (eMo_name_58_E hd) ?_
    by_cases c : p < n
    · have hb := ht.2 p c
      have hl : ¬ (97 ≤ T p ∧ T p ≤ 122) := by
        intro hl
        apply hr
        rw [← hpe]
        refine ⟨c, ?_⟩
        unfold tK
        rw [if_pos c, if_pos hl]
      rw [h3, if_pos (by rw [h2]; omega), if_pos (by rw [h2]; omega), show (M 319 2).toNat = p by omega, hb.1, bz_b0.mpr hl, if_pos rfl]
      exact fin
    · rw [h3, if_neg (by rw [h2]; omega)]
      exact fin
  | f + 1, p, j, v, M, ht, h3, h5, h6, h2, h44, hp, hj, hj4, hv, g0, g1, g2', g3, g4, g5 => by
    have hk2 := (tD_k (Or.inl rfl) hk).1
    have hte := te_all (T := T) hq.1
    have hrun := (te_run (T := T) hq.1 (by rw [hk2]; decide)).1 p (by omega) (by omega)
    rw [hk2] at hrun
    have hlt := tK_lt (T := T) (n := n) (p := p) (by omega)
    have hb := ht.2 p hlt
    have hn := ht.1
    have hdg := tK_let hrun
    refine T_le (eMo_name_58_E hd) ?_
    rw [h2, h3, if_pos (by omega), if_pos (by omega), Int.toNat_natCast, hb.1, bz_b1.mpr hdg, if_neg (by decide), h44, w32_id (z := (p : Int) - (q.1 : Int)) (by omega) (by omega)]
    by_cases c4 : j = 6
    · rw [if_pos (show (p : Int) - (q.1 : Int) = 6 by omega), if_pos (show 6 < j + (f + 1) by omega)]
      refine T_seq (mo_fail h5 (by decide)) ?_
      rintro M1 ⟨x, y, _⟩
      refine T_some ⟨?_, fun h => by omega, y⟩
      rw [show (p : Int) = ((q.1 + 6 : Nat) : Int) by omega] at x
      exact x
    · rw [if_neg (show ¬ (p : Int) - (q.1 : Int) = 6 by omega), w64_id (z := 27 * v) (by omega) (by omega), w64_id (z := 27 * v + T p) (by omega) (by omega), w64_id (z := 27 * v + T p - 97) (by omega) (by omega), w64_id (z := 27 * v + T p - 97 + 1) (by omega) (by omega), w32_id (z := (p : Int) + 1) (by omega) (by omega), show 27 * v + T p - 97 + 1 = 27 * v + T p - 96 by omega]
      have := mo_n58 hd hq hk f (p + 1) (j + 1) (27 * v + T p - 96) (bz_up M 319 2 ((p : Int) + 1)) (mt_g ht (gX_up (by decide))) (by rw [bz_up_nk (by decide)]; exact h3) (by rw [bz_up_nk (by decide)]; exact h5) (by rw [bz_up_nk (by decide)]; exact h6) (by rw [bz_up_eq]; omega) (by rw [bz_up_nk (by decide)]; exact h44) (by omega) (by omega) (by omega) (by omega) (by omega) (by omega) (by omega) (by omega) (by omega) (by omega)
      refine T_mono this ?_
      rintro r ⟨x, y, g⟩
      rw [show j + 1 + f = j + (f + 1) by omega] at x y
      exact ⟨x, y, gX_trans (gX_up (by decide)) g⟩
theorem mo_name (hd : 2 < d) (hs : stM M) (ht : mt T n M) (hX : mX T n q M) : w_T (eMo_name Lg d M) (fun r => mSt2 T n (oNm1 T n q) r.2 ∧ (isOk (oNm1 T n q) → r.1 = tNv T (te T n q.1 - q.1) q.1 0 ∧ r.2 319 44 = (q.1 : Int)) ∧ gX M r.2) := by
  have hq := mX_qOK hX
  have hn := ht.1
  have hte := te_all (T := T) hq.1
  refine T_le (eMo_name_E (by omega)) ?_
  rw [if_pos hX.2.2.2.2.2.1]
  refine T_seq (mo_look ht hX) ?_
  rintro ⟨p1, p2⟩ ⟨e1, e2, e3⟩
  dsimp only at e1 e2 e3 ⊢
  have bad : ∀ p3, mY T n q p3 → g2 M p3 → ¬ (tD T n q = 1 ∧ ¬ isF T n 1 q) → w_T ((eMo_fail Lg (d - 1) 1 (p3 319 2) p3).bind (fun M1 => some ((0 : Int), M1))) (fun r => mSt2 T n (oNm1 T n q) r.2 ∧ (isOk (oNm1 T n q) → r.1 = tNv T (te T n q.1 - q.1) q.1 0 ∧ r.2 319 44 = (q.1 : Int)) ∧ gX M r.2) := by
    intro p3 y3 g3 h
    rw [y3.2]
    refine T_seq (mo_fail y3.1.2.2.2.2.2.1 (by decide)) ?_
    rintro M1 ⟨x, y, _⟩
    unfold oNm1
    rw [if_neg h]
    exact T_some ⟨x, fun h => absurd h (fun h => h), gX_trans (gX_2 g3) y⟩
  rw [e1]
  by_cases c : tK T n q.1 = 1
  · rw [bz_b1.mpr ((lk_1 hn).mpr c), if_neg (by decide)]
    by_cases g : q.2 = true
    · rw [if_pos (by rw [e2.2]; exact (e2.1.2.2.2.2.1.mp g).symm)]
      refine bad p2 e2 e3 (fun h => ?_)
      have := (tD_k (Or.inl rfl) h.1).2
      rw [g] at this
      cases this
    · rw [if_neg (by rw [e2.2]; exact fun h => g (e2.1.2.2.2.2.1.mpr h.symm))]
      have hd1 : tD T n q = 1 := by
        unfold tD
        rw [if_neg (fun h => g h.1)]
        exact c
      refine T_seq (mo_own (by omega) (stM_g hs (gX_2 e3)) (mt_g ht (gX_2 e3)) e2.1) ?_
      rintro ⟨r1, r2⟩ ⟨f1, f2, f3⟩
      dsimp only at f1 f2 f3 ⊢
      have f23 := g2_trans e3 f3
      rw [f1]
      by_cases ow : ownP T n q
      · rw [bz_b1.mpr ow, if_neg (by decide)]
        exact bad r2 f2 f23 (fun h => h.2 (own_F.mpr ow))
      · rw [bz_b0.mpr ow, if_pos rfl, f2.2]
        have hF : ¬ isF T n 1 q := fun h => ow (own_F.mp h)
        have := mo_n58 (Lg := Lg) (d := d) (by omega) hq hd1 (te T n q.1 - q.1) q.1 0 0 (bz_up r2 319 44 (q.1 : Int)) (mt_g ht (gX_trans (gX_2 f23) (gX_up (by decide)))) (by rw [bz_up_nk (by decide)]; exact f2.1.2.2.1) (by rw [bz_up_nk (by decide)]; exact f2.1.2.2.2.2.2.1) (by rw [bz_up_nk (by decide)]; exact f2.1.2.2.2.2.2.2) (by rw [bz_up_nk (by decide)]; exact f2.2) (bz_up_eq _ _ _ _) (by omega) (by omega) (by omega) (by omega) (by omega) (by omega) (by omega) (by omega) (by omega) (by omega)
        refine T_mono this ?_
        rintro r ⟨x, y, z⟩
        unfold oNm1
        rw [if_pos ⟨hd1, hF⟩]
        rw [show 0 + (te T n q.1 - q.1) = te T n q.1 - q.1 by omega] at x y
        refine ⟨x, fun ok => y ?_, gX_trans (gX_trans (gX_2 f23) (gX_up (by decide))) z⟩
        by_cases c6 : 6 < te T n q.1 - q.1
        · rw [if_pos c6] at ok; exact absurd ok (fun h => h)
        · omega
  · rw [bz_b0.mpr (fun h => c ((lk_1 hn).mp h)), if_pos rfl]
    exact bad p2 e2 e3 (fun h => c (tD_k (Or.inl rfl) h.1).1)
end YP

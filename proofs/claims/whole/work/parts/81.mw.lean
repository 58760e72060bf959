/-! THE REFERENCE: the words of sums -/
def kW (tk : Int) (i : Nat) : Int := if i = 15 then 0 else if i = 16 then (if tk < 2 then 1 else 18) else if i = 17 then (if tk < 2 then 2 else 19) else if i = 18 then 3 else if i = 4 then 4 else if i = 19 then 5 else if i = 20 then 6 else if i = 21 then 7 else if i = 22 then 8 else if i = 23 then 9 else if i = 24 then 10 else if i = 7 then 11 else if i = 8 then 12 else if i = 9 then 13 else if i = 10 then 14 else if i = 11 then 15 else if i = 25 then 16 else if i = 26 then 17 else -1
abbrev alw (tk k : Int) : Prop := (tk = 0 ∧ k < 8) ∨ (tk = 1 ∧ (k < 4 ∨ k = 8 ∨ k = 9)) ∨ (tk = 2 ∧ (k = 3 ∨ 9 < k))
def kOf (w : Int) (lo hi : Int) (i : Nat) : Int := if lo ≤ kW (tkW w) i ∧ kW (tkW w) i < hi ∧ alw (tkW w) (kW (tkW w) i) then kW (tkW w) i else -1
set_option maxRecDepth 100000 in
theorem kOf_2 : ∀ i, i < 39 → kOf 2 0 18 i = (if bz_and (wPl i) 2 ≠ 0 then wFa i else -1) ∧ kOf 2 18 20 i = -1 := by decide +kernel
set_option maxRecDepth 100000 in
theorem kOf_4 : ∀ i, i < 39 → kOf 4 0 18 i = (if bz_and (wPl i) 4 ≠ 0 then wFa i else -1) ∧ kOf 4 18 20 i = -1 := by decide +kernel
set_option maxRecDepth 100000 in
theorem kOf_8 : ∀ i, i < 39 → kOf 8 0 18 i = (if bz_and (wPl i) 8 ≠ 0 then wFa i else -1) ∧ kOf 8 18 20 i = (if i = 16 then 18 else if i = 17 then 19 else -1) := by decide +kernel
set_option maxRecDepth 100000 in
theorem rI_2 : ∀ i, i < 39 → bz_and (wPl i) 2 ≠ 0 → rI (388 + (wFa i).toNat) = i := by decide +kernel
set_option maxRecDepth 100000 in
theorem rI_4 : ∀ i, i < 39 → bz_and (wPl i) 4 ≠ 0 → rI (388 + (wFa i).toNat) = i := by decide +kernel
set_option maxRecDepth 100000 in
theorem rI_8 : ∀ i, i < 39 → bz_and (wPl i) 8 ≠ 0 → rI (388 + (wFa i).toNat) = i := by decide +kernel
section MW
variable {Lg d n : Nat} {T : Nat → Int} {M M' : bz_M} {q : pL} {w : Int}
theorem T_lebd {α β : Type} {a b : Option β} {f : β → Option α} {Q : α → Prop} (h : bz_le a b) (t : w_T (a.bind f) Q) : w_T (b.bind f) Q := by
  obtain ⟨x, hx, hq⟩ := t
  cases a with
  | none => cases hx
  | some y =>
    rw [h y rfl]
    exact ⟨x, hx, hq⟩
def kV (T : Nat → Int) (n : Nat) (tk : Int) (q : pL) : Int := if tD T n q = 1 then kW tk (wd T n q.1) else -1
def hPo (T : Nat → Int) (n : Nat) (q : pL) (M : bz_M) (x : Int) (p : Int × bz_M) : Prop := p.1 = x ∧ mY T n q p.2 ∧ g2 M p.2
theorem hs_c (hd : 0 < d) {r : Nat} (hr : isR r) (hs : stM M) (ht : mt T n M) (hX : mX T n q M) : w_T (eMo_isHere Lg d r M) (fun p => mY T n q p.2 ∧ g2 M p.2 ∧ ((p.1 = 1 ∧ isW T n (rI r) q) ∨ (p.1 = 0 ∧ ¬ isW T n (rI r) q))) := by
  refine T_mono (mo_isHere hd hr hs ht hX) ?_
  rintro ⟨p1, p2⟩ ⟨e1, e2, e3⟩
  dsimp only at e1 e2 e3 ⊢
  by_cases c : isW T n (rI r) q
  · rw [bz_b1.mpr c] at e1; exact ⟨e2, e3, Or.inl ⟨e1, c⟩⟩
  · rw [bz_b0.mpr c] at e1; exact ⟨e2, e3, Or.inr ⟨e1, c⟩⟩
theorem kV_is {tk : Int} {i : Nat} (h : isW T n i q) : kV T n tk q = kW tk i := by
  unfold kV
  rw [if_pos h.1, h.2]
theorem g_wh55 (hd : 1 < d) (hs : stM M) (ht : mt T n M) (hX : mX T n q M) {tk : Int} (n0 : ¬ isW T n 15 q) (n1 : tk < 2 → ¬ isW T n 16 q ∧ ¬ isW T n 17 q) : w_T (eMo_qWordHere_55 Lg d M) (hPo T n q M (kV T n tk q)) := by
  refine T_le (eMo_qWordHere_55_E (by omega)) ?_
  refine T_seq (hs_c (r := 391) (by omega) (by decide) hs ht hX) ?_
  rintro ⟨p1, M1⟩ ⟨y1, b, e⟩
  dsimp only at y1 b e ⊢
  have g1 := b
  rcases e with ⟨rfl, c⟩ | ⟨rfl, c1⟩
  · rw [if_neg (by decide)]
    exact T_some ⟨((kV_is (i := 18) c).trans rfl).symm, y1, g1⟩
  rw [if_pos rfl]
  refine T_seq (hs_c (r := 392) (by omega) (by decide) (stM_g hs (gX_2 g1)) (mt_g ht (gX_2 g1)) y1.1) ?_
  rintro ⟨p1, M2⟩ ⟨y2, b, e⟩
  dsimp only at y2 b e ⊢
  have g2 := (g2_trans g1 b)
  rcases e with ⟨rfl, c⟩ | ⟨rfl, c2⟩
  · rw [if_neg (by decide)]
    exact T_some ⟨((kV_is (i := 4) c).trans rfl).symm, y2, g2⟩
  rw [if_pos rfl]
  refine T_seq (hs_c (r := 393) (by omega) (by decide) (stM_g hs (gX_2 g2)) (mt_g ht (gX_2 g2)) y2.1) ?_
  rintro ⟨p1, M3⟩ ⟨y3, b, e⟩
  dsimp only at y3 b e ⊢
  have g3 := (g2_trans g2 b)
  rcases e with ⟨rfl, c⟩ | ⟨rfl, c3⟩
  · rw [if_neg (by decide)]
    exact T_some ⟨((kV_is (i := 19) c).trans rfl).symm, y3, g3⟩
  rw [if_pos rfl]
  refine T_seq (hs_c (r := 394) (by omega) (by decide) (stM_g hs (gX_2 g3)) (mt_g ht (gX_2 g3)) y3.1) ?_
  rintro ⟨p1, M4⟩ ⟨y4, b, e⟩
  dsimp only at y4 b e ⊢
  have g4 := (g2_trans g3 b)
  rcases e with ⟨rfl, c⟩ | ⟨rfl, c4⟩
  · rw [if_neg (by decide)]
    exact T_some ⟨((kV_is (i := 20) c).trans rfl).symm, y4, g4⟩
  rw [if_pos rfl]
  refine T_seq (hs_c (r := 395) (by omega) (by decide) (stM_g hs (gX_2 g4)) (mt_g ht (gX_2 g4)) y4.1) ?_
  rintro ⟨p1, M5⟩ ⟨y5, b, e⟩
  dsimp only at y5 b e ⊢
  have g5 := (g2_trans g4 b)
  rcases e with ⟨rfl, c⟩ | ⟨rfl, c5⟩
  · rw [if_neg (by decide)]
    exact T_some ⟨((kV_is (i := 21) c).trans rfl).symm, y5, g5⟩
  rw [if_pos rfl]
  refine T_seq (hs_c (r := 396) (by omega) (by decide) (stM_g hs (gX_2 g5)) (mt_g ht (gX_2 g5)) y5.1) ?_
  rintro ⟨p1, M6⟩ ⟨y6, b, e⟩
  dsimp only at y6 b e ⊢
  have g6 := (g2_trans g5 b)
  rcases e with ⟨rfl, c⟩ | ⟨rfl, c6⟩
  · rw [if_neg (by decide)]
    exact T_some ⟨((kV_is (i := 22) c).trans rfl).symm, y6, g6⟩
  rw [if_pos rfl]
  refine T_seq (hs_c (r := 397) (by omega) (by decide) (stM_g hs (gX_2 g6)) (mt_g ht (gX_2 g6)) y6.1) ?_
  rintro ⟨p1, M7⟩ ⟨y7, b, e⟩
  dsimp only at y7 b e ⊢
  have g7 := (g2_trans g6 b)
  rcases e with ⟨rfl, c⟩ | ⟨rfl, c7⟩
  · rw [if_neg (by decide)]
    exact T_some ⟨((kV_is (i := 23) c).trans rfl).symm, y7, g7⟩
  rw [if_pos rfl]
  refine T_seq (hs_c (r := 398) (by omega) (by decide) (stM_g hs (gX_2 g7)) (mt_g ht (gX_2 g7)) y7.1) ?_
  rintro ⟨p1, M8⟩ ⟨y8, b, e⟩
  dsimp only at y8 b e ⊢
  have g8 := (g2_trans g7 b)
  rcases e with ⟨rfl, c⟩ | ⟨rfl, c8⟩
  · rw [if_neg (by decide)]
    exact T_some ⟨((kV_is (i := 24) c).trans rfl).symm, y8, g8⟩
  rw [if_pos rfl]
  refine T_seq (hs_c (r := 399) (by omega) (by decide) (stM_g hs (gX_2 g8)) (mt_g ht (gX_2 g8)) y8.1) ?_
  rintro ⟨p1, M9⟩ ⟨y9, b, e⟩
  dsimp only at y9 b e ⊢
  have g9 := (g2_trans g8 b)
  rcases e with ⟨rfl, c⟩ | ⟨rfl, c9⟩
  · rw [if_neg (by decide)]
    exact T_some ⟨((kV_is (i := 7) c).trans rfl).symm, y9, g9⟩
  rw [if_pos rfl]
  refine T_seq (hs_c (r := 400) (by omega) (by decide) (stM_g hs (gX_2 g9)) (mt_g ht (gX_2 g9)) y9.1) ?_
  rintro ⟨p1, M10⟩ ⟨y10, b, e⟩
  dsimp only at y10 b e ⊢
  have g10 := (g2_trans g9 b)
  rcases e with ⟨rfl, c⟩ | ⟨rfl, c10⟩
  · rw [if_neg (by decide)]
    exact T_some ⟨((kV_is (i := 8) c).trans rfl).symm, y10, g10⟩
  rw [if_pos rfl]
  refine T_seq (hs_c (r := 401) (by omega) (by decide) (stM_g hs (gX_2 g10)) (mt_g ht (gX_2 g10)) y10.1) ?_
  rintro ⟨p1, M11⟩ ⟨y11, b, e⟩
  dsimp only at y11 b e ⊢
  have g11 := (g2_trans g10 b)
  rcases e with ⟨rfl, c⟩ | ⟨rfl, c11⟩
  · rw [if_neg (by decide)]
    exact T_some ⟨((kV_is (i := 9) c).trans rfl).symm, y11, g11⟩
  rw [if_pos rfl]
  refine T_seq (hs_c (r := 402) (by omega) (by decide) (stM_g hs (gX_2 g11)) (mt_g ht (gX_2 g11)) y11.1) ?_
  rintro ⟨p1, M12⟩ ⟨y12, b, e⟩
  dsimp only at y12 b e ⊢
  have g12 := (g2_trans g11 b)
  rcases e with ⟨rfl, c⟩ | ⟨rfl, c12⟩
  · rw [if_neg (by decide)]
    exact T_some ⟨((kV_is (i := 10) c).trans rfl).symm, y12, g12⟩
  rw [if_pos rfl]
  refine T_seq (hs_c (r := 403) (by omega) (by decide) (stM_g hs (gX_2 g12)) (mt_g ht (gX_2 g12)) y12.1) ?_
  rintro ⟨p1, M13⟩ ⟨y13, b, e⟩
  dsimp only at y13 b e ⊢
  have g13 := (g2_trans g12 b)
  rcases e with ⟨rfl, c⟩ | ⟨rfl, c13⟩
  · rw [if_neg (by decide)]
    exact T_some ⟨((kV_is (i := 11) c).trans rfl).symm, y13, g13⟩
  rw [if_pos rfl]
  refine T_seq (hs_c (r := 404) (by omega) (by decide) (stM_g hs (gX_2 g13)) (mt_g ht (gX_2 g13)) y13.1) ?_
  rintro ⟨p1, M14⟩ ⟨y14, b, e⟩
  dsimp only at y14 b e ⊢
  have g14 := (g2_trans g13 b)
  rcases e with ⟨rfl, c⟩ | ⟨rfl, c14⟩
  · rw [if_neg (by decide)]
    exact T_some ⟨((kV_is (i := 25) c).trans rfl).symm, y14, g14⟩
  rw [if_pos rfl]
  refine T_seq (hs_c (r := 405) (by omega) (by decide) (stM_g hs (gX_2 g14)) (mt_g ht (gX_2 g14)) y14.1) ?_
  rintro ⟨p1, M15⟩ ⟨y15, b, e⟩
  dsimp only at y15 b e ⊢
  have g15 := (g2_trans g14 b)
  rcases e with ⟨rfl, c⟩ | ⟨rfl, c15⟩
  · rw [if_neg (by decide)]
    exact T_some ⟨((kV_is (i := 26) c).trans rfl).symm, y15, g15⟩
  rw [if_pos rfl]
  refine T_seq (hs_c (r := 406) (by omega) (by decide) (stM_g hs (gX_2 g15)) (mt_g ht (gX_2 g15)) y15.1) ?_
  rintro ⟨p1, M16⟩ ⟨y16, b, e⟩
  dsimp only at y16 b e ⊢
  have g16 := (g2_trans g15 b)
  rcases e with ⟨rfl, c⟩ | ⟨rfl, c16⟩
  · rw [if_neg (by decide)]
    exact T_some ⟨((kV_is (i := 16) c).trans (by have := n1; unfold kW; rw [if_neg (by decide), if_pos rfl, if_neg (fun h => (n1 h).1 c)])).symm, y16, g16⟩
  rw [if_pos rfl]
  refine T_seq (hs_c (r := 407) (by omega) (by decide) (stM_g hs (gX_2 g16)) (mt_g ht (gX_2 g16)) y16.1) ?_
  rintro ⟨p1, M17⟩ ⟨y17, b, e⟩
  dsimp only at y17 b e ⊢
  have g17 := (g2_trans g16 b)
  rcases e with ⟨rfl, c⟩ | ⟨rfl, c17⟩
  · rw [if_neg (by decide)]
    exact T_some ⟨((kV_is (i := 17) c).trans (by have := n1; unfold kW; rw [if_neg (by decide), if_neg (by decide), if_pos rfl, if_neg (fun h => (n1 h).2 c)])).symm, y17, g17⟩
  rw [if_pos rfl]
  refine T_some ⟨Eq.symm ?_, y17, g17⟩
  unfold kV
  split
  · rename_i h
    have k : ∀ i, ¬ isW T n i q → ¬ wd T n q.1 = i := fun i hi e => hi ⟨h, e⟩
    unfold kW
    rw [if_neg (k 15 n0), if_neg (k 16 c16), if_neg (k 17 c17), if_neg (k 18 c1), if_neg (k 4 c2), if_neg (k 19 c3), if_neg (k 20 c4), if_neg (k 21 c5), if_neg (k 22 c6), if_neg (k 23 c7), if_neg (k 24 c8), if_neg (k 7 c9), if_neg (k 8 c10), if_neg (k 9 c11), if_neg (k 10 c12), if_neg (k 11 c13), if_neg (k 25 c14), if_neg (k 26 c15)]
  · rfl
theorem g_wh (hd : 1 < d) (hs : stM M) (ht : mt T n M) (hX : mX T n q M) {tk : Int} (h61 : M 319 61 = tk) : w_T (eMo_qWordHere Lg d M) (hPo T n q M (kV T n tk q)) := by
  refine T_le (eMo_qWordHere_E (by omega)) ?_
  have go : ∀ M', mY T n q M' → g2 M M' → ¬ isW T n 15 q → (tk < 2 → ¬ isW T n 16 q ∧ ¬ isW T n 17 q) → w_T (eMo_qWordHere_55 Lg d M') (hPo T n q M (kV T n tk q)) := fun M' a b c e =>
    T_mono (g_wh55 hd (stM_g hs (gX_2 b)) (mt_g ht (gX_2 b)) a.1 c e) (fun p hp => ⟨hp.1, hp.2.1, g2_trans b hp.2.2⟩)
  refine T_seq (hs_c (r := 388) (by omega) (by decide) hs ht hX) ?_
  rintro ⟨p1, M1⟩ ⟨a, b, e⟩
  dsimp only at a b e ⊢
  have e61 : M1 319 61 = tk := by rw [b.2 61 (by decide)]; exact h61
  rcases e with ⟨rfl, c⟩ | ⟨rfl, c⟩
  · rw [if_neg (by decide)]
    exact T_some ⟨((kV_is (i := 15) c).trans rfl).symm, a, b⟩
  rw [if_pos rfl]
  by_cases t : tk < 2
  · rw [if_pos (by rw [e61]; exact t)]
    refine T_seq (hs_c (r := 389) (by omega) (by decide) (stM_g hs (gX_2 b)) (mt_g ht (gX_2 b)) a.1) ?_
    rintro ⟨p3, M2⟩ ⟨a2, b2, e⟩
    dsimp only at a2 b2 e ⊢
    have f2 := g2_trans b b2
    have e62 : M2 319 61 = tk := by rw [f2.2 61 (by decide)]; exact h61
    rcases e with ⟨rfl, c2⟩ | ⟨rfl, c2⟩
    · rw [if_neg (by decide)]
      exact T_some ⟨((kV_is (i := 16) c2).trans (by unfold kW; rw [if_neg (by decide), if_pos rfl, if_pos t])).symm, a2, f2⟩
    rw [if_pos rfl, if_pos (by rw [e62]; exact t)]
    refine T_seq (hs_c (r := 390) (by omega) (by decide) (stM_g hs (gX_2 f2)) (mt_g ht (gX_2 f2)) a2.1) ?_
    rintro ⟨p4, M3⟩ ⟨a3, b3, e⟩
    dsimp only at a3 b3 e ⊢
    rcases e with ⟨rfl, c3⟩ | ⟨rfl, c3⟩
    · rw [if_neg (by decide)]
      exact T_some ⟨((kV_is (i := 17) c3).trans (by unfold kW; rw [if_neg (by decide), if_neg (by decide), if_pos rfl, if_pos t])).symm, a3, g2_trans f2 b3⟩
    rw [if_pos rfl]
    exact go M3 a3 (g2_trans f2 b3) c (fun _ => ⟨c2, c3⟩)
  · rw [if_neg (by rw [e61]; exact t), if_neg (by rw [e61]; exact t)]
    exact go M1 a b c (fun h => absurd h t)
theorem mo_allow {tk k : Int} (h61 : M 319 61 = tk) (htk : tk = 0 ∨ tk = 1 ∨ tk = 2) : eMo_isAllowed Lg d k M = some (bz_b (alw tk k), M) := by
  refine eMo_isAllowed_E _ ?_
  rw [h61]
  unfold bz_b
  rcases htk with rfl | rfl | rfl
  · rw [if_pos rfl]
    split <;> split <;> first | rfl | (exfalso; omega)
  · rw [if_neg (by decide), if_pos rfl]
    repeat' split
    all_goals first | rfl | (exfalso; omega)
  · rw [if_neg (by decide), if_neg (by decide)]
    repeat' split
    all_goals first | rfl | (exfalso; omega)
theorem g_wof (hd : 2 < d) (hw : w = 2 ∨ w = 4 ∨ w = 8) (hs : stM M) (ht : mt T n M) (hX : mX T n q M) (h61 : M 319 61 = tkW w) {lo hi : Int} (hlo : 0 ≤ lo) : w_T (eMo_qWordOf Lg d lo hi M) (hPo T n q M (if tD T n q = 1 then kOf w lo hi (wd T n q.1) else -1)) := by
  refine T_le (eMo_qWordOf_E (by omega)) ?_
  refine T_seq (g_wh (by omega) hs ht hX h61) ?_
  rintro ⟨p1, p2⟩ ⟨e1, e2, e3⟩
  dsimp only at e1 e2 e3 ⊢
  have htk : tkW w = 0 ∨ tkW w = 1 ∨ tkW w = 2 := by rcases hw with rfl | rfl | rfl <;> decide
  have e61 : p2 319 61 = tkW w := by rw [e3.2 61 (by decide)]; exact h61
  unfold kV at e1
  by_cases t : tD T n q = 1
  · rw [if_pos t] at e1
    rw [if_pos t]
    unfold kOf
    rw [e1]
    by_cases c1 : kW (tkW w) (wd T n q.1) < lo
    · rw [if_pos c1, if_neg (show ¬ (lo ≤ kW (tkW w) (wd T n q.1) ∧ kW (tkW w) (wd T n q.1) < hi ∧ alw (tkW w) (kW (tkW w) (wd T n q.1))) by omega)]
      exact T_some ⟨rfl, e2, e3⟩
    · rw [if_neg c1]
      by_cases c2 : kW (tkW w) (wd T n q.1) < hi
      · rw [if_pos c2]
        refine T_run (mo_allow e61 htk) ?_
        dsimp only
        by_cases c3 : alw (tkW w) (kW (tkW w) (wd T n q.1))
        · rw [bz_b1.mpr c3, if_neg (by decide), if_pos (show (lo ≤ kW (tkW w) (wd T n q.1) ∧ kW (tkW w) (wd T n q.1) < hi ∧ alw (tkW w) (kW (tkW w) (wd T n q.1))) from ⟨by omega, c2, c3⟩)]
          exact T_some ⟨rfl, e2, e3⟩
        · rw [bz_b0.mpr c3, if_pos rfl, if_neg (show ¬ (lo ≤ kW (tkW w) (wd T n q.1) ∧ kW (tkW w) (wd T n q.1) < hi ∧ alw (tkW w) (kW (tkW w) (wd T n q.1))) from fun h => c3 h.2.2)]
          exact T_some ⟨rfl, e2, e3⟩
      · rw [if_neg c2, if_neg (show ¬ (lo ≤ kW (tkW w) (wd T n q.1) ∧ kW (tkW w) (wd T n q.1) < hi ∧ alw (tkW w) (kW (tkW w) (wd T n q.1))) by omega)]
        exact T_some ⟨rfl, e2, e3⟩
  · rw [if_neg t] at e1
    rw [if_neg t, e1, if_pos (by omega)]
    exact T_some ⟨rfl, e2, e3⟩
theorem wd_le (p : Nat) : wd T n p ≤ 39 := (wdF_all (T := T) (n := n) (p := p) 39 0 (by omega)).2.2
theorem kOf_part (hw : w = 2 ∨ w = 4 ∨ w = 8) : (if tD T n q = 1 then kOf w 0 18 (wd T n q.1) else -1) = (if isF T n w q then wFa (wd T n q.1) else -1) := by
  by_cases t : tD T n q = 1
  · rw [if_pos t]
    by_cases c : wd T n q.1 < 39
    · have e : kOf w 0 18 (wd T n q.1) = (if bz_and (wPl (wd T n q.1)) w ≠ 0 then wFa (wd T n q.1) else -1) := by
        rcases hw with rfl | rfl | rfl
        · exact (kOf_2 _ c).1
        · exact (kOf_4 _ c).1
        · exact (kOf_8 _ c).1
      rw [e]
      by_cases c2 : bz_and (wPl (wd T n q.1)) w ≠ 0
      · rw [if_pos c2, if_pos ⟨t, c, c2⟩]
      · rw [if_neg c2, if_neg (fun h => c2 h.2.2)]
    · rw [if_neg (fun h => c h.2.1)]
      have : wd T n q.1 = 39 := by have := wd_le (T := T) (n := n) q.1; omega
      rw [this]
      rcases hw with rfl | rfl | rfl <;> decide
  · rw [if_neg t, if_neg (fun h => t h.1)]
theorem kOf_of (hw : w = 2 ∨ w = 4 ∨ w = 8) : (if tD T n q = 1 then kOf w 18 20 (wd T n q.1) else -1) = (if w = 8 ∧ isW T n 16 q then 18 else if w = 8 ∧ isW T n 17 q then 19 else -1) := by
  by_cases t : tD T n q = 1
  · rw [if_pos t]
    by_cases c : wd T n q.1 < 39
    · rcases hw with rfl | rfl | rfl
      · rw [(kOf_2 _ c).2, if_neg (by omega), if_neg (by omega)]
      · rw [(kOf_4 _ c).2, if_neg (by omega), if_neg (by omega)]
      · rw [(kOf_8 _ c).2]
        by_cases c1 : wd T n q.1 = 16
        · rw [if_pos c1, if_pos ⟨rfl, t, c1⟩]
        · rw [if_neg c1, if_neg (show ¬ ((8 : Int) = 8 ∧ isW T n 16 q) from fun h => c1 h.2.2)]
          by_cases c2 : wd T n q.1 = 17
          · rw [if_pos c2, if_pos ⟨rfl, t, c2⟩]
          · rw [if_neg c2, if_neg (show ¬ ((8 : Int) = 8 ∧ isW T n 17 q) from fun h => c2 h.2.2)]
    · have : wd T n q.1 = 39 := by have := wd_le (T := T) (n := n) q.1; omega
      rw [if_neg (fun h => by have := h.2.2; omega), if_neg (fun h => by have := h.2.2; omega), this]
      rcases hw with rfl | rfl | rfl <;> decide
  · rw [if_neg t, if_neg (fun h => t h.2.1), if_neg (fun h => t h.2.1)]
theorem g_askw (hd : 3 < d) (hs : stM M) (ht : mt T n M) (hX : mX T n q M) {k : Int} (h0 : 0 ≤ k) (h19 : k ≤ 19) (h : isW T n (rI (388 + k.toNat)) q) : w_T (eMo_qAsksWord Lg d k M) (fun M' => mX T n (nx T n q) M' ∧ gX M M') := by
  have key := mo_as1 (Lg := Lg) (d := d - 1) (r := 388 + k.toNat) (by omega) (by omega) hs ht hX h
  have fin : w_T ((eMo_asks Lg (d - 1) (388 + k.toNat) M).bind (fun M1 => some M1)) (fun M' => mX T n (nx T n q) M' ∧ gX M M') := T_seq key (fun M1 h1 => T_some h1)
  refine T_le (eMo_qAsksWord_E (by omega)) ?_
  rcases (show k = 0 ∨ k = 1 ∨ k = 2 ∨ k = 3 ∨ k = 4 ∨ k = 5 ∨ k = 6 ∨ k = 7 ∨ k = 8 ∨ k = 9 ∨ k = 10 ∨ k = 11 ∨ k = 12 ∨ k = 13 ∨ k = 14 ∨ k = 15 ∨ k = 16 ∨ k = 17 ∨ k = 18 ∨ k = 19 by omega) with rfl | rfl | rfl | rfl | rfl | rfl | rfl | rfl | rfl | rfl | rfl | rfl | rfl | rfl | rfl | rfl | rfl | rfl | rfl | rfl
  · rw [if_pos rfl]; exact fin
  · rw [if_neg (by decide), if_pos rfl]; exact fin
  · rw [if_neg (by decide), if_neg (by decide), if_pos rfl]; exact fin
  · rw [if_neg (by decide), if_neg (by decide), if_neg (by decide), if_pos rfl]; exact fin
  · rw [if_neg (by decide), if_neg (by decide), if_neg (by decide), if_neg (by decide), if_pos rfl]; exact fin
  · rw [if_neg (by decide), if_neg (by decide), if_neg (by decide), if_neg (by decide), if_neg (by decide), if_pos rfl]; exact fin
  · rw [if_neg (by decide), if_neg (by decide), if_neg (by decide), if_neg (by decide), if_neg (by decide), if_neg (by decide), if_pos rfl]; exact fin
  · rw [if_neg (by decide), if_neg (by decide), if_neg (by decide), if_neg (by decide), if_neg (by decide), if_neg (by decide), if_neg (by decide), if_pos rfl]; exact fin
  · rw [if_neg (by decide), if_neg (by decide), if_neg (by decide), if_neg (by decide), if_neg (by decide), if_neg (by decide), if_neg (by decide), if_neg (by decide), if_pos rfl]; exact fin
  · rw [if_neg (by decide), if_neg (by decide), if_neg (by decide), if_neg (by decide), if_neg (by decide), if_neg (by decide), if_neg (by decide), if_neg (by decide), if_neg (by decide), if_pos rfl]; exact fin
  · rw [if_neg (by decide), if_neg (by decide), if_neg (by decide), if_neg (by decide), if_neg (by decide), if_neg (by decide), if_neg (by decide), if_neg (by decide), if_neg (by decide), if_neg (by decide), if_pos rfl]; exact fin
  · rw [if_neg (by decide), if_neg (by decide), if_neg (by decide), if_neg (by decide), if_neg (by decide), if_neg (by decide), if_neg (by decide), if_neg (by decide), if_neg (by decide), if_neg (by decide), if_neg (by decide), if_pos rfl]; exact fin
  · rw [if_neg (by decide), if_neg (by decide), if_neg (by decide), if_neg (by decide), if_neg (by decide), if_neg (by decide), if_neg (by decide), if_neg (by decide), if_neg (by decide), if_neg (by decide), if_neg (by decide), if_neg (by decide), if_pos rfl]; exact fin
  · rw [if_neg (by decide), if_neg (by decide), if_neg (by decide), if_neg (by decide), if_neg (by decide), if_neg (by decide), if_neg (by decide), if_neg (by decide), if_neg (by decide), if_neg (by decide), if_neg (by decide), if_neg (by decide), if_neg (by decide), if_pos rfl]; exact fin
  · rw [if_neg (by decide), if_neg (by decide), if_neg (by decide), if_neg (by decide), if_neg (by decide), if_neg (by decide), if_neg (by decide), if_neg (by decide), if_neg (by decide), if_neg (by decide), if_neg (by decide), if_neg (by decide), if_neg (by decide), if_neg (by decide), if_pos rfl]; exact fin
  · rw [if_neg (by decide), if_neg (by decide), if_neg (by decide), if_neg (by decide), if_neg (by decide), if_neg (by decide), if_neg (by decide), if_neg (by decide), if_neg (by decide), if_neg (by decide), if_neg (by decide), if_neg (by decide), if_neg (by decide), if_neg (by decide), if_neg (by decide), if_pos rfl]; exact fin
  · rw [if_neg (by decide), if_neg (by decide), if_neg (by decide), if_neg (by decide), if_neg (by decide), if_neg (by decide), if_neg (by decide), if_neg (by decide), if_neg (by decide), if_neg (by decide), if_neg (by decide), if_neg (by decide), if_neg (by decide), if_neg (by decide), if_neg (by decide), if_neg (by decide), if_pos rfl]; exact fin
  · rw [if_neg (by decide), if_neg (by decide), if_neg (by decide), if_neg (by decide), if_neg (by decide), if_neg (by decide), if_neg (by decide), if_neg (by decide), if_neg (by decide), if_neg (by decide), if_neg (by decide), if_neg (by decide), if_neg (by decide), if_neg (by decide), if_neg (by decide), if_neg (by decide), if_neg (by decide), if_pos rfl]; exact fin
  · rw [if_neg (by decide), if_neg (by decide), if_neg (by decide), if_neg (by decide), if_neg (by decide), if_neg (by decide), if_neg (by decide), if_neg (by decide), if_neg (by decide), if_neg (by decide), if_neg (by decide), if_neg (by decide), if_neg (by decide), if_neg (by decide), if_neg (by decide), if_neg (by decide), if_neg (by decide), if_neg (by decide), if_pos rfl]; exact fin
  · rw [if_neg (by decide), if_neg (by decide), if_neg (by decide), if_neg (by decide), if_neg (by decide), if_neg (by decide), if_neg (by decide), if_neg (by decide), if_neg (by decide), if_neg (by decide), if_neg (by decide), if_neg (by decide), if_neg (by decide), if_neg (by decide), if_neg (by decide), if_neg (by decide), if_neg (by decide), if_neg (by decide), if_neg (by decide)]; exact fin
end MW

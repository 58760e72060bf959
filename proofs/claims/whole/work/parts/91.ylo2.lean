/-! A VALLEY IS TOLD: the class's lords -/
section YH
variable {Lg d n v : Nat} {T : Nat → Int} {Y M M' : bz_M} {s : sT}
theorem yRow_o {l : Nat} {q : pL} {a b c e g : Int} {r k : Nat} (h1 : r ≠ 356) (h2 : r ≠ 357) (h3 : r ≠ 1000) (h4 : ¬ (r = 319 ∧ k = 46)) : yRow T n Y l q a b c e g r k = Y r k := by
  unfold yRow yLet
  rw [if_neg (fun h => h3 h.1), bz_up_rk, if_neg h4, bz_up_nr h2, bz_up_nr h2, bz_up_nr h2, bz_up_nr h2, bz_up_nr h2, bz_up_nr h1]
theorem yRow_46 {l : Nat} {q : pL} {a b c e g : Int} : yRow T n Y l q a b c e g 319 46 = (l : Int) + 1 := by
  unfold yRow yLet
  rw [if_neg (fun h => absurd h.1 (by decide)), bz_up_eq]
theorem yRow_357 {l j k : Nat} {q : pL} {a b c e g : Int} (hk : k < 5) : yRow T n Y l q a b c e g 357 (5 * j + k) = if j = l then (if k = 0 then a else if k = 1 then b else if k = 2 then c else if k = 3 then e else g) else Y 357 (5 * j + k) := by
  unfold yRow yLet
  rw [if_neg (fun h => absurd h.1 (by decide)), bz_up_nr (by decide)]
  simp only [bz_up_rk]
  by_cases ej : j = l
  · subst ej
    rw [if_pos rfl]
    rcases (show k = 0 ∨ k = 1 ∨ k = 2 ∨ k = 3 ∨ k = 4 by omega) with rfl | rfl | rfl | rfl | rfl <;> simp
  · rw [if_neg ej, if_neg (by omega), if_neg (by omega), if_neg (by omega), if_neg (by omega), if_neg (by omega), if_neg (by omega)]
theorem yRow_1000 {l j k : Nat} {q : pL} {a b c e g : Int} (hk : k < 6) : yRow T n Y l q a b c e g 1000 (6 * j + k) = if j = l then tLt T n q k else Y 1000 (6 * j + k) := by
  unfold yRow yLet
  by_cases ej : j = l
  · subst ej
    rw [if_pos rfl, if_pos ⟨rfl, by omega, by omega⟩, show 6 * j + k - 6 * j = k by omega]
  · rw [if_neg ej, if_neg (by omega), bz_up_nr (by decide), bz_up_nr (by decide), bz_up_nr (by decide), bz_up_nr (by decide), bz_up_nr (by decide), bz_up_nr (by decide), bz_up_nr (by decide)]
theorem yRow_356 {l j : Nat} {q : pL} {a b c e g : Int} : yRow T n Y l q a b c e g 356 j = if j = l then tNv T (te T n q.1 - q.1) q.1 0 else Y 356 j := by
  unfold yRow yLet
  rw [if_neg (fun h => absurd h.1 (by decide)), bz_up_nr (by decide), bz_up_nr (by decide), bz_up_nr (by decide), bz_up_nr (by decide), bz_up_nr (by decide), bz_up_nr (by decide), bz_up_rk]
  by_cases ej : j = l
  · rw [if_pos ⟨rfl, ej⟩, if_pos ej]
  · rw [if_neg (fun h => ej h.2), if_neg ej]
theorem c_lordY (hv : bz_oV v) {L : Nat} (hL : L < 5) (hYL : Y 319 46 = (L : Int)) (hY : cY v Y M) {q : pL} {a b c e g : Int} (h0 : ∀ k, M' v k = if k = 3 then (L : Int) + 1 else M v k) (h1 : M' (v + 1) = M (v + 1)) (h2 : M' (v + 2) = M (v + 2)) (h3 : M' (v + 3) = M (v + 3)) (h4 : ∀ k, k < 6 → M' (v + 4) (6 * L + k) = tLt T n q k) (h4' : ∀ k, ¬ (6 * L ≤ k ∧ k < 6 * L + 6) → M' (v + 4) k = M (v + 4) k) (h5 : ∀ l, M' (v + 5) l = if l = L then a else M (v + 5) l) (h6 : ∀ l, M' (v + 6) l = if l = L then b else M (v + 6) l) (h7 : ∀ l, M' (v + 7) l = if l = L then c else M (v + 7) l) (h8 : ∀ l, M' (v + 8) l = if l = L then e else M (v + 8) l) (h9 : ∀ l, M' (v + 9) l = if l = L then g else M (v + 9) l) (h10 : ∀ r, v + 10 ≤ r → r ≤ v + 15 → M' r = M r) : cY v (yRow T n Y L q a b c e g) M' := by
  obtain ⟨c0, c1, c2, c3, c4, c5, c6, c7⟩ := hY
  have yo : ∀ r, r ≠ 356 → r ≠ 357 → r ≠ 1000 → r ≠ 319 → yRow T n Y L q a b c e g r = Y r := fun r x1 x2 x3 x4 => by
    funext k
    exact yRow_o x1 x2 x3 (fun h => x4 h.1)
  have ee := yE_co (Y := Y) (Y' := yRow T n Y L q a b c e g) (fun r hr => yo r (by omega) (by omega) (by omega) (by omega))
  refine ⟨⟨?_, ?_, ?_, ?_, ?_, ?_, ?_⟩, ?_, ?_, ?_, fun l hl => ?_, fun l hl hl5 => ?_, ?_, ?_⟩
  · rw [h0 0, yo 355 (by decide) (by decide) (by decide) (by decide)]; exact c0.1
  · rw [h0 1, yo 355 (by decide) (by decide) (by decide) (by decide)]; exact c0.2.1
  · rw [h0 2, yo 355 (by decide) (by decide) (by decide) (by decide)]; exact c0.2.2.1
  · rw [h0 3, yRow_46]; rfl
  · rw [h0 4, yRow_o (by decide) (by decide) (by decide) (by decide)]; exact c0.2.2.2.2.1
  · rw [h0 16, yo 361 (by decide) (by decide) (by decide) (by decide)]; exact c0.2.2.2.2.2.1
  · rw [h0 17, yo 361 (by decide) (by decide) (by decide) (by decide)]; exact c0.2.2.2.2.2.2
  · rw [h1, yo 359 (by decide) (by decide) (by decide) (by decide)]; exact c1
  · rw [h2, yo 358 (by decide) (by decide) (by decide) (by decide)]; exact c2
  · rw [h3, yo 360 (by decide) (by decide) (by decide) (by decide)]; exact c3
  · rw [yRow_46] at hl
    have y0 := yRow_357 (T := T) (n := n) (Y := Y) (l := L) (j := l) (k := 0) (q := q) (a := a) (b := b) (c := c) (e := e) (g := g) (by decide)
    rw [show 5 * l + 0 = 5 * l by omega] at y0
    rw [y0, yRow_357 (by decide), yRow_357 (by decide), yRow_357 (by decide), yRow_357 (by decide), h5, h6, h7, h8, h9]
    by_cases el : l = L
    · refine ⟨?_, fun k hk => ?_⟩
      · simp only [el, ↓reduceIte]
        exact ⟨trivial, rfl, rfl, rfl, rfl⟩
      · rw [yRow_1000 hk, if_pos el, el]
        exact h4 k hk
    · have hc := c4 l (by omega)
      refine ⟨?_, fun k hk => ?_⟩
      · simp only [el, ↓reduceIte]
        exact hc.1
      · rw [yRow_1000 hk, if_neg el, h4' _ (by omega)]
        exact hc.2 k hk
  · rw [yRow_46] at hl
    rw [h9, if_neg (by omega)]
    exact c5 l (by omega) hl5
  · rw [ee.1]; unfold cC at c6 ⊢; rw [h10 (v + 10) (by omega) (by omega), h10 (v + 10 + 1) (by omega) (by omega)]; exact c6
  · rw [ee.2]; unfold cC at c7 ⊢; rw [h10 (v + 13) (by omega) (by omega), h10 (v + 13 + 1) (by omega) (by omega)]; exact c7
theorem c_lord1 (hd : 6 < d) (hv : bz_oV v) {L : Nat} (hL : L < 5) (hYL : Y 319 46 = (L : Int)) (hO : yOK Y) {q : pL} (hs : stC M) (ht : tb T n M) (hY : cY v Y M) (h : cSt T n (.inr q) M) : w_T ((eVy_readName Lg (d - 1) v M).bind (fun M2 => ((eTx_needsWord Lg (d - 1) 12 M2).bind (fun M3 => ((eTx_takesNumber Lg (d - 1) 0 (bz_w32 ((M3 v 0) - 1)) M3).bind (fun p1 => (if (0 : Int) ≤ (M3 v 3) ∧ (M3 v 3) < 5 then ((eTx_needsWord Lg (d - 1) 13 (bz_up p1.2 (v + 5) (Int.toNat (M3 v 3)) p1.1)).bind (fun M4 => (if (0 : Int) ≤ (M4 v 3) ∧ (M4 v 3) < 5 then ((eTx_takesNumber Lg (d - 1) (M4 (v + 5) (Int.toNat (M4 v 3))) (bz_w32 ((M4 v 0) - 1)) M4).bind (fun p2 => ((eTx_needsWord Lg (d - 1) 14 (bz_up p2.2 (v + 6) (Int.toNat (M4 v 3)) p2.1)).bind (fun M5 => ((eTx_takesNumber Lg (d - 1) 0 99 M5).bind (fun p3 => (if (0 : Int) ≤ (M5 v 3) ∧ (M5 v 3) < 5 then ((eTx_needsWord Lg (d - 1) 15 (bz_up p3.2 (v + 7) (Int.toNat (M5 v 3)) p3.1)).bind (fun M6 => ((eTx_takesNumber Lg (d - 1) 0 99 M6).bind (fun p4 => (if (0 : Int) ≤ (M6 v 3) ∧ (M6 v 3) < 5 then ((eTx_needsWord Lg (d - 1) 16 (bz_up p4.2 (v + 8) (Int.toNat (M6 v 3)) p4.1)).bind (fun M7 => ((eTx_takesNumber Lg (d - 1) 0 999 M7).bind (fun p5 => (if (0 : Int) ≤ (M7 v 3) ∧ (M7 v 3) < 5 then (some (bz_up (bz_up p5.2 (v + 9) (Int.toNat (M7 v 3)) p5.1) v 3 (bz_w32 (((bz_up p5.2 (v + 9) (Int.toNat (M7 v 3)) p5.1) v 3) + 1)))) else none))))) else none))))) else none))))))) else none))) else none))))))) (fun M' => cSt T n (yLo T n Y q).1 M' ∧ fY v M M' ∧ (isOk (yLo T n Y q).1 → cY v (yLo T n Y q).2 M')) := by
  have hvv := oV_c hv
  have h1 := hO.1
  have y3 : M v 3 = (L : Int) := by rw [hY.1.2.2.2.1]; exact hYL
  have yl : (Y 319 46).toNat = L := by omega
  refine T_seq (c_name (Y := Y) (by omega) hv hL hYL hs ht h y3 (fun l hl k hk => (hY.2.2.2.2.1 l (by omega)).2 k hk)) ?_
  rintro M2 ⟨a2, b2, l2, o2⟩
  have st : ∀ M', (∀ r, r ≠ 123 → r ≠ v + 4 → r ≠ v + 5 → r ≠ v + 6 → r ≠ v + 7 → r ≠ v + 8 → M' r = M r) → stC M' ∧ tb T n M' ∧ M' v = M v := fun M' hm => ⟨fun r k x1 x2 => by rw [hm r (by omega) (by omega) (by omega) (by omega) (by omega) (by omega)]; exact hs r k x1 x2, tb_co ht (hm 124 (by decide) (by omega) (by omega) (by omega) (by omega) (by omega)), hm v (by omega) (by omega) (by omega) (by omega) (by omega) (by omega)⟩
  have w2 := st M2 (fun r x1 x2 _ _ _ _ => b2 r x1 x2)
  refine T_seq (cs_W (i := 7) (by omega) w2.1 w2.2.1 (by decide) a2) ?_
  rintro M3 ⟨a3, b3⟩
  have f3 : ∀ r, r ≠ 123 → r ≠ v + 4 → M3 r = M r := fun r x1 x2 => (b3 r x1).trans (b2 r x1 x2)
  have w3 := st M3 (fun r x1 x2 _ _ _ _ => f3 r x1 x2)
  have v3 : M3 v 3 = (L : Int) := by rw [w3.2.2]; exact y3
  have v0 : M3 v 0 = Y 355 0 := by rw [w3.2.2]; exact hY.1.1
  rw [v0, w32_id (by omega) (by omega)]
  refine T_seq (cs_N (by omega) w3.1 w3.2.1 a3) ?_
  rintro ⟨n1, M4⟩ ⟨e4, a4, b4⟩
  dsimp only at e4 a4 b4 ⊢
  rw [if_pos (by rw [v3]; omega), v3, Int.toNat_natCast]
  have f4 : ∀ r, r ≠ 123 → r ≠ v + 4 → r ≠ v + 5 → bz_up M4 (v + 5) L n1 r = M r := fun r x1 x2 x3 => by rw [bz_up_fn x3]; exact (b4 r x1).trans (f3 r x1 x2)
  have w4 := st _ (fun r x1 x2 x3 _ _ _ => f4 r x1 x2 x3)
  refine T_seq (cs_W (i := 8) (by omega) w4.1 w4.2.1 (by decide) (cSt_up a4 (by omega))) ?_
  rintro M5 ⟨a5, b5⟩
  have f5 : ∀ r, r ≠ 123 → r ≠ v + 4 → r ≠ v + 5 → M5 r = M r := fun r x1 x2 x3 => (b5 r x1).trans (f4 r x1 x2 x3)
  have w5 := st M5 (fun r x1 x2 x3 _ _ _ => f5 r x1 x2 x3)
  have v5 : M5 v 3 = (L : Int) := by rw [w5.2.2]; exact y3
  have v50 : M5 v 0 = Y 355 0 := by rw [w5.2.2]; exact hY.1.1
  have g5 : ∀ l, M5 (v + 5) l = if l = L then n1 else M (v + 5) l := fun l => by
    rw [b5 (v + 5) (by omega), bz_up_rk, b4 (v + 5) (by omega), f3 (v + 5) (by omega) (by omega)]
    by_cases e : l = L
    · rw [if_pos ⟨rfl, e⟩, if_pos e]
    · rw [if_neg (fun h => e h.2), if_neg e]
  rw [if_pos (by rw [v5]; omega), v5, Int.toNat_natCast, v50, w32_id (by omega) (by omega), g5 L, if_pos rfl]
  refine T_seq (cs_N (by omega) w5.1 w5.2.1 a5) ?_
  rintro ⟨n2, M6⟩ ⟨e6, a6, b6⟩
  dsimp only at e6 a6 b6 ⊢
  have f6 : ∀ r, r ≠ 123 → r ≠ v + 4 → r ≠ v + 5 → r ≠ v + 6 → bz_up M6 (v + 6) L n2 r = M r := fun r x1 x2 x3 x4 => by rw [bz_up_fn x4]; exact (b6 r x1).trans (f5 r x1 x2 x3)
  have w6 := st _ (fun r x1 x2 x3 x4 _ _ => f6 r x1 x2 x3 x4)
  refine T_seq (cs_W (i := 9) (by omega) w6.1 w6.2.1 (by decide) (cSt_up a6 (by omega))) ?_
  rintro M7 ⟨a7, b7⟩
  have f7 : ∀ r, r ≠ 123 → r ≠ v + 4 → r ≠ v + 5 → r ≠ v + 6 → M7 r = M r := fun r x1 x2 x3 x4 => (b7 r x1).trans (f6 r x1 x2 x3 x4)
  have w7 := st M7 (fun r x1 x2 x3 x4 _ _ => f7 r x1 x2 x3 x4)
  have v7 : M7 v 3 = (L : Int) := by rw [w7.2.2]; exact y3
  refine T_seq (cs_N (by omega) w7.1 w7.2.1 a7) ?_
  rintro ⟨n3, M8⟩ ⟨e8, a8, b8⟩
  dsimp only at e8 a8 b8 ⊢
  rw [if_pos (by rw [v7]; omega), v7, Int.toNat_natCast]
  have f8 : ∀ r, r ≠ 123 → r ≠ v + 4 → r ≠ v + 5 → r ≠ v + 6 → r ≠ v + 7 → bz_up M8 (v + 7) L n3 r = M r := fun r x1 x2 x3 x4 x5 => by rw [bz_up_fn x5]; exact (b8 r x1).trans (f7 r x1 x2 x3 x4)
  have w8 := st _ (fun r x1 x2 x3 x4 x5 _ => f8 r x1 x2 x3 x4 x5)
  refine T_seq (cs_W (i := 10) (by omega) w8.1 w8.2.1 (by decide) (cSt_up a8 (by omega))) ?_
  rintro M9 ⟨a9, b9⟩
  have f9 : ∀ r, r ≠ 123 → r ≠ v + 4 → r ≠ v + 5 → r ≠ v + 6 → r ≠ v + 7 → M9 r = M r := fun r x1 x2 x3 x4 x5 => (b9 r x1).trans (f8 r x1 x2 x3 x4 x5)
  have w9 := st M9 (fun r x1 x2 x3 x4 x5 _ => f9 r x1 x2 x3 x4 x5)
  have v9 : M9 v 3 = (L : Int) := by rw [w9.2.2]; exact y3
  refine T_seq (cs_N (by omega) w9.1 w9.2.1 a9) ?_
  rintro ⟨n4, M10⟩ ⟨e10, a10, b10⟩
  dsimp only at e10 a10 b10 ⊢
  rw [if_pos (by rw [v9]; omega), v9, Int.toNat_natCast]
  have f10 : ∀ r, r ≠ 123 → r ≠ v + 4 → r ≠ v + 5 → r ≠ v + 6 → r ≠ v + 7 → r ≠ v + 8 → bz_up M10 (v + 8) L n4 r = M r := fun r x1 x2 x3 x4 x5 x6 => by rw [bz_up_fn x6]; exact (b10 r x1).trans (f9 r x1 x2 x3 x4 x5)
  have w10 := st _ f10
  refine T_seq (cs_W (i := 11) (by omega) w10.1 w10.2.1 (by decide) (cSt_up a10 (by omega))) ?_
  rintro M11 ⟨a11, b11⟩
  have f11 : ∀ r, r ≠ 123 → r ≠ v + 4 → r ≠ v + 5 → r ≠ v + 6 → r ≠ v + 7 → r ≠ v + 8 → M11 r = M r := fun r x1 x2 x3 x4 x5 x6 => (b11 r x1).trans (f10 r x1 x2 x3 x4 x5 x6)
  have w11 := st M11 f11
  have v11 : M11 v 3 = (L : Int) := by rw [w11.2.2]; exact y3
  refine T_seq (cs_N (by omega) w11.1 w11.2.1 a11) ?_
  rintro ⟨n5, M12⟩ ⟨e12, a12, b12⟩
  dsimp only at e12 a12 b12 ⊢
  have v12 : M12 v 3 = (L : Int) := by rw [b12 v (by omega)]; exact v11
  rw [if_pos (by rw [v11]; omega), v11, Int.toNat_natCast, bz_up_nr (by omega), v12, w32_id (by omega) (by omega)]
  have f12 : ∀ r, r ≠ 123 → r ≠ v + 4 → r ≠ v + 5 → r ≠ v + 6 → r ≠ v + 7 → r ≠ v + 8 → M12 r = M r := fun r x1 x2 x3 x4 x5 x6 => (b12 r x1).trans (f11 r x1 x2 x3 x4 x5 x6)
  refine T_some ⟨?_, fun r x1 _ x2 => ?_, fun ok => ?_⟩
  · refine cSt_up (cSt_up ?_ (by omega)) (by omega)
    rw [e4] at a6 a7 a8 a9 a10 a11 a12
    exact a12
  · rw [bz_up_fn (by omega), bz_up_fn (by omega)]
    exact f12 r x1 (by omega) (by omega) (by omega) (by omega) (by omega)
  · show cY v (yRow T n Y (Y 319 46).toNat q _ _ _ _ _) _
    rw [yl]
    have ok1 : isOk (oNm T n Y (.inr q)) := ok_W (ok_N (ok_W (ok_N (ok_W (ok_N (ok_W (ok_N (ok_W (ok_N ok)))))))))
    have E := e4
    refine c_lordY hv hL hYL hY (fun k => ?_) ?_ ?_ ?_ (fun k hk => ?_) (fun k hk => ?_) (fun l => ?_) (fun l => ?_) (fun l => ?_) (fun l => ?_) (fun l => ?_) (fun r x1 x2 => ?_)
    · rw [bz_up_rk]
      by_cases ek : k = 3
      · rw [if_pos ⟨rfl, ek⟩, if_pos ek]
      · rw [if_neg (fun h => ek h.2), if_neg ek, bz_up_nr (by omega), f12 v (by omega) (by omega) (by omega) (by omega) (by omega) (by omega)]
    · rw [bz_up_fn (by omega), bz_up_fn (by omega)]; exact f12 _ (by omega) (by omega) (by omega) (by omega) (by omega) (by omega)
    · rw [bz_up_fn (by omega), bz_up_fn (by omega)]; exact f12 _ (by omega) (by omega) (by omega) (by omega) (by omega) (by omega)
    · rw [bz_up_fn (by omega), bz_up_fn (by omega)]; exact f12 _ (by omega) (by omega) (by omega) (by omega) (by omega) (by omega)
    · rw [bz_up_fn (by omega), bz_up_fn (by omega), b12 _ (by omega), b11 _ (by omega), bz_up_fn (by omega), b10 _ (by omega), b9 _ (by omega), bz_up_fn (by omega), b8 _ (by omega), b7 _ (by omega), bz_up_fn (by omega), b6 _ (by omega), b5 _ (by omega), bz_up_fn (by omega), b4 _ (by omega), b3 _ (by omega)]
      exact l2 ok1 k hk
    · rw [bz_up_fn (by omega), bz_up_fn (by omega), b12 _ (by omega), b11 _ (by omega), bz_up_fn (by omega), b10 _ (by omega), b9 _ (by omega), bz_up_fn (by omega), b8 _ (by omega), b7 _ (by omega), bz_up_fn (by omega), b6 _ (by omega), b5 _ (by omega), bz_up_fn (by omega), b4 _ (by omega), b3 _ (by omega)]
      exact o2 k hk
    · rw [bz_up_fn (by omega), bz_up_fn (by omega), b12 _ (by omega), b11 _ (by omega), bz_up_fn (by omega), b10 _ (by omega), b9 _ (by omega), bz_up_fn (by omega), b8 _ (by omega), b7 _ (by omega), bz_up_fn (by omega), b6 _ (by omega), g5 l, e4]
    · rw [bz_up_fn (by omega), bz_up_fn (by omega), b12 _ (by omega), b11 _ (by omega), bz_up_fn (by omega), b10 _ (by omega), b9 _ (by omega), bz_up_fn (by omega), b8 _ (by omega), b7 _ (by omega), bz_up_rk, b6 _ (by omega), f5 (v + 6) (by omega) (by omega) (by omega), e6, e4]
      by_cases el : l = L
      · rw [if_pos ⟨rfl, el⟩, if_pos el]
      · rw [if_neg (fun h => el h.2), if_neg el]
    · rw [bz_up_fn (by omega), bz_up_fn (by omega), b12 _ (by omega), b11 _ (by omega), bz_up_fn (by omega), b10 _ (by omega), b9 _ (by omega), bz_up_rk, b8 _ (by omega), f7 (v + 7) (by omega) (by omega) (by omega) (by omega), e8, e4]
      by_cases el : l = L
      · rw [if_pos ⟨rfl, el⟩, if_pos el]
      · rw [if_neg (fun h => el h.2), if_neg el]
    · rw [bz_up_fn (by omega), bz_up_fn (by omega), b12 _ (by omega), b11 _ (by omega), bz_up_rk, b10 _ (by omega), f9 (v + 8) (by omega) (by omega) (by omega) (by omega) (by omega), e10, e4]
      by_cases el : l = L
      · rw [if_pos ⟨rfl, el⟩, if_pos el]
      · rw [if_neg (fun h => el h.2), if_neg el]
    · rw [bz_up_fn (by omega), bz_up_rk, f12 (v + 9) (by omega) (by omega) (by omega) (by omega) (by omega) (by omega), e12, e4]
      by_cases el : l = L
      · rw [if_pos ⟨rfl, el⟩, if_pos el]
      · rw [if_neg (fun h => el h.2), if_neg el]
    · rw [bz_up_fn (by omega), bz_up_fn (by omega)]; exact f12 _ (by omega) (by omega) (by omega) (by omega) (by omega) (by omega)
end YH

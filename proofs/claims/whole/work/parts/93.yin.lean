/-! A VALLEY IS TOLD: what stays so -/
def nmV (f : Nat → Int) : Nat → Int
  | 0 => 0
  | k + 1 => 27 * nmV f k + f k
def nmO (f : Nat → Int) (v : Int) : Prop := ∃ m, 1 ≤ m ∧ m ≤ 6 ∧ (∀ k, k < m → 1 ≤ f k ∧ f k ≤ 26) ∧ (∀ k, m ≤ k → k < 6 → f k = 0) ∧ v = nmV f m
def yLd (Y : bz_M) (l : Nat) : Prop := (0 ≤ Y 357 (5 * l) ∧ Y 357 (5 * l) ≤ Y 357 (5 * l + 1) ∧ Y 357 (5 * l + 1) < Y 355 0) ∧ (0 ≤ Y 357 (5 * l + 2) ∧ Y 357 (5 * l + 2) ≤ 99) ∧ (0 ≤ Y 357 (5 * l + 3) ∧ Y 357 (5 * l + 3) ≤ 99) ∧ (0 ≤ Y 357 (5 * l + 4) ∧ Y 357 (5 * l + 4) ≤ 999) ∧ nmO (fun k => Y 1000 (6 * l + k)) (Y 356 l)
def yRs (Y : bz_M) : Prop := (∀ k, k < 10 → 0 ≤ Y 359 k ∧ Y 359 k < Y 355 1) ∧ ∀ k : Nat, Y 355 0 ≤ (k : Int) → k < 10 → Y 359 k = 0
def yWo (Y : bz_M) : Prop := ∀ c r : Nat, c < 10 → r < 8 → ¬ ((c : Int) < Y 355 0 ∧ (r : Int) < Y 355 1) → Y 360 (8 * c + r) = 0
def yCs (Y : bz_M) : Prop := (pOK (yE Y) [] [false] ∧ ∀ op ∈ yE Y, aE op) ∧ (pOK (yB Y) [] [true] ∧ ∀ op ∈ yB Y, aB op)
def yInv (Y : bz_M) (z : Nat) : Prop := yOK Y ∧ yCd Y ∧ yW Y ∧ Y 319 58 ≤ (z : Int) ∧ yRs Y ∧ (∀ k, k < 80 → 0 ≤ Y 358 k ∧ Y 358 k ≤ 9) ∧ yWo Y ∧ (∀ l : Nat, (l : Int) < Y 319 46 → yLd Y l) ∧ yCs Y
section YK
variable {n : Nat} {T : Nat → Int} {Y Y' : bz_M} {z z' : Nat}
/-- what a row that is no size, no lord, no code leaves -/
theorem inv_mk (h : yInv Y z) (hz : z ≤ z') (hY : ∀ r, r ≠ 358 → r ≠ 359 → r ≠ 360 → r ≠ 319 → Y' r = Y r) (h46 : Y' 319 46 = Y 319 46) (h58 : Y' 319 58 = Y 319 58) (h53 : 0 ≤ Y' 319 53 ∧ Y' 319 53 ≤ 100) (h1 : yW Y') (h2 : yRs Y') (h3 : ∀ k, k < 80 → 0 ≤ Y' 358 k ∧ Y' 358 k ≤ 9) (h4 : yWo Y') : yInv Y' z' := by
  obtain ⟨a1, a2, a3, a4, a5, a6, a7, a8, a9⟩ := h
  have e := yE_co (Y := Y) (Y' := Y') (fun r hr => hY r (by omega) (by omega) (by omega) (by omega))
  have y5 := hY 355 (by decide) (by decide) (by decide) (by decide)
  have y61 := hY 361 (by decide) (by decide) (by decide) (by decide)
  have y62 := hY 362 (by decide) (by decide) (by decide) (by decide)
  have y57 := hY 357 (by decide) (by decide) (by decide) (by decide)
  have y56 := hY 356 (by decide) (by decide) (by decide) (by decide)
  have y1k := hY 1000 (by decide) (by decide) (by decide) (by decide)
  refine ⟨?_, ?_, h1, by rw [h58]; omega, h2, h3, h4, fun l hl => ?_, ?_⟩
  · unfold yOK at a1 ⊢
    rw [y5, h46]
    exact ⟨a1.1, a1.2.1, a1.2.2.1, a1.2.2.2.1, h53⟩
  · unfold yCd at a2 ⊢
    rw [y61, y62, h58]
    exact a2
  · rw [h46] at hl
    unfold yLd
    rw [y57, y5, y1k, y56]
    exact a8 l hl
  · unfold yCs
    rw [e.1, e.2]
    exact a9
theorem inv_z (h : yInv Y z) (hz : z ≤ z') : yInv Y z' := by
  obtain ⟨a1, a2, a3, a4, a5⟩ := h
  exact ⟨a1, a2, a3, by omega, a5⟩
theorem inv_ru (h : yInv Y z) (hz : z ≤ z') {s : sT} (ok : isOk (yRu T n Y s).1) : yInv (yRu T n Y s).2 z' := by
  have hO := h.1
  have h1 := hO.1
  have h2 := hO.2.1
  have ok2 : isOk (oN T n 0 (Y 355 1 - 1) (oN T n 0 (Y 355 0 - 1) s).1).1 := ok
  have n1 := oN_in (ok_N ok2)
  have n2 := oN_in ok2
  show yInv (bz_up Y 359 (oN T n 0 (Y 355 0 - 1) s).2.toNat (oN T n 0 (Y 355 1 - 1) (oN T n 0 (Y 355 0 - 1) s).1).2) z'
  generalize (oN T n 0 (Y 355 0 - 1) s).2 = c at n1 n2 ⊢
  generalize (oN T n 0 (Y 355 1 - 1) (oN T n 0 (Y 355 0 - 1) s).1).2 = r at n2 ⊢
  have k355 : bz_up Y 359 c.toNat r 355 = Y 355 := bz_up_fn (by decide)
  have k360 : bz_up Y 359 c.toNat r 360 = Y 360 := bz_up_fn (by decide)
  refine inv_mk h hz (fun q x1 x2 x3 x4 => bz_up_fn x2) (by rw [bz_up_fn (by decide)]) (by rw [bz_up_fn (by decide)]) (by rw [bz_up_fn (by decide)]; exact hO.2.2.2.2) ?_ ⟨fun k hk => ?_, fun k hk1 hk2 => ?_⟩ ?_ ?_
  · unfold yW; rw [k360]; exact h.2.2.1
  · rw [k355, bz_up_rk]
    split
    · omega
    · exact h.2.2.2.2.1.1 k hk
  · rw [k355] at hk1
    rw [bz_up_nk (by omega)]
    exact h.2.2.2.2.1.2 k hk1 hk2
  · rw [bz_up_fn (by decide)]; exact h.2.2.2.2.2.1
  · unfold yWo; rw [k355, k360]; exact h.2.2.2.2.2.2.1
theorem inv_so (h : yInv Y z) (hz : z ≤ z') {s : sT} (ok : isOk (ySo T n Y s).1) : yInv (ySo T n Y s).2 z' := by
  have hO := h.1
  have h1 := hO.1
  have h2 := hO.2.1
  have ok3 : isOk (oN T n 0 9 (oN T n 0 (Y 355 1 - 1) (oN T n 0 (Y 355 0 - 1) s).1).1).1 := ok
  have n3 := oN_in ok3
  show yInv (bz_up Y 358 (8 * (oN T n 0 (Y 355 0 - 1) s).2 + (oN T n 0 (Y 355 1 - 1) (oN T n 0 (Y 355 0 - 1) s).1).2).toNat (oN T n 0 9 (oN T n 0 (Y 355 1 - 1) (oN T n 0 (Y 355 0 - 1) s).1).1).2) z'
  generalize (oN T n 0 9 (oN T n 0 (Y 355 1 - 1) (oN T n 0 (Y 355 0 - 1) s).1).1).2 = x at n3 ⊢
  generalize (8 * (oN T n 0 (Y 355 0 - 1) s).2 + (oN T n 0 (Y 355 1 - 1) (oN T n 0 (Y 355 0 - 1) s).1).2).toNat = k
  have k355 : bz_up Y 358 k x 355 = Y 355 := bz_up_fn (by decide)
  have k360 : bz_up Y 358 k x 360 = Y 360 := bz_up_fn (by decide)
  have k359 : bz_up Y 358 k x 359 = Y 359 := bz_up_fn (by decide)
  refine inv_mk h hz (fun q x1 x2 x3 x4 => bz_up_fn x1) (by rw [bz_up_fn (by decide)]) (by rw [bz_up_fn (by decide)]) (by rw [bz_up_fn (by decide)]; exact hO.2.2.2.2) ?_ ?_ (fun j hj => ?_) ?_
  · unfold yW; rw [k360]; exact h.2.2.1
  · unfold yRs; rw [k355, k359]; exact h.2.2.2.2.1
  · rw [bz_up_rk]
    split
    · omega
    · exact h.2.2.2.2.2.1 j hj
  · unfold yWo; rw [k355, k360]; exact h.2.2.2.2.2.2.1
theorem inv_wi (h : yInv Y z) (hz : z ≤ z') {s : sT} (ok : isOk (yWi T n Y s).1) : yInv (yWi T n Y s).2 z' := by
  have hO := h.1
  have h1 := hO.1
  have h2 := hO.2.1
  unfold yWi at ok ⊢
  dsimp only at ok ⊢
  cases hs2 : (oN T n 0 (Y 355 1 - 1) (oN T n 0 (Y 355 0 - 1) s).1).1 with
  | inl e => rw [hs2] at ok; exact absurd ok (fun h => h)
  | inr q =>
    rw [hs2] at ok
    have ok2 : isOk (oN T n 0 (Y 355 1 - 1) (oN T n 0 (Y 355 0 - 1) s).1).1 := by rw [hs2]; trivial
    have n1 := oN_in (ok_N ok2)
    have n2 := oN_in ok2
    dsimp only at ok ⊢
    generalize (oN T n 0 (Y 355 1 - 1) (oN T n 0 (Y 355 0 - 1) s).1).2 = r at ok n2 ⊢
    generalize (oN T n 0 (Y 355 0 - 1) s).2 = c at ok n1 ⊢
    by_cases c9 : Y 360 (8 * c + r).toNat < 9
    · rw [if_pos c9] at ok ⊢
      have hwk := h.2.2.1 (8 * c + r).toNat (by omega)
      show yInv (bz_up Y 360 (8 * c + r).toNat (Y 360 (8 * c + r).toNat + 1)) z'
      generalize hx : Y 360 (8 * c + r).toNat + 1 = x
      have k355 : bz_up Y 360 (8 * c + r).toNat x 355 = Y 355 := bz_up_fn (by decide)
      have k359 : bz_up Y 360 (8 * c + r).toNat x 359 = Y 359 := bz_up_fn (by decide)
      refine inv_mk h hz (fun q x1 x2 x3 x4 => bz_up_fn x3) (by rw [bz_up_fn (by decide)]) (by rw [bz_up_fn (by decide)]) (by rw [bz_up_fn (by decide)]; exact hO.2.2.2.2) (fun k hk => ?_) ?_ ?_ (fun a b ha hb hab => ?_)
      · rw [bz_up_rk]
        split
        · omega
        · exact h.2.2.1 k hk
      · unfold yRs; rw [k355, k359]; exact h.2.2.2.2.1
      · rw [bz_up_fn (by decide)]; exact h.2.2.2.2.2.1
      · rw [k355] at hab
        rw [bz_up_nk (by omega)]
        exact h.2.2.2.2.2.2.1 a b ha hb hab
    · rw [if_neg c9] at ok
      exact absurd ok (fun h => h)
theorem inv_sp (h : yInv Y z) (hz : z ≤ z') {s : sT} (ok : isOk (ySp T n Y s).1) : yInv (ySp T n Y s).2 z' := by
  have n1 := oN_in (show isOk (oN T n 0 100 s).1 from ok)
  show yInv (bz_up Y 319 53 (oN T n 0 100 s).2) z'
  generalize (oN T n 0 100 s).2 = x at n1 ⊢
  refine inv_mk h hz (fun q x1 x2 x3 x4 => bz_up_fn x4) (bz_up_nk (by decide) _) (bz_up_nk (by decide) _) (by rw [bz_up_eq]; exact n1) ?_ ?_ ?_ ?_
  · unfold yW; rw [bz_up_fn (by decide)]; exact h.2.2.1
  · unfold yRs; rw [bz_up_fn (by decide), bz_up_fn (by decide)]; exact h.2.2.2.2.1
  · rw [bz_up_fn (by decide)]; exact h.2.2.2.2.2.1
  · unfold yWo; rw [bz_up_fn (by decide), bz_up_fn (by decide)]; exact h.2.2.2.2.2.2.1
theorem nmV_co {f g : Nat → Int} : ∀ (m : Nat), (∀ k, k < m → f k = g k) → nmV f m = nmV g m
  | 0, _ => rfl
  | m + 1, h => by
    unfold nmV
    rw [nmV_co m (fun k hk => h k (by omega)), h m (by omega)]
theorem tNv_V {q : pL} (hk : tD T n q = 1) (hq : qOK T n q) (h6 : te T n q.1 - q.1 ≤ 6) : ∀ (f i : Nat), i + f = te T n q.1 - q.1 → tNv T f (q.1 + i) (nmV (tLt T n q) i) = nmV (tLt T n q) (te T n q.1 - q.1)
  | 0, i, h => by unfold tNv; rw [show i = te T n q.1 - q.1 by omega]
  | f + 1, i, h => by
    unfold tNv
    have := tNv_V hk hq h6 f (i + 1) (by omega)
    rw [show q.1 + i + 1 = q.1 + (i + 1) by omega, ← this]
    congr 1
    show 27 * nmV (tLt T n q) i + T (q.1 + i) - 96 = 27 * nmV (tLt T n q) i + tLt T n q i
    unfold tLt
    rw [if_pos (by omega)]
    omega
theorem oNm_ok {q : pL} (ok : isOk (oNm T n Y (.inr q))) : tD T n q = 1 ∧ ¬ isF T n 1 q ∧ te T n q.1 - q.1 ≤ 6 ∧ ¬ tkB Y (tLt T n q) = true ∧ oNm T n Y (.inr q) = .inr (nx T n q) := by
  unfold oNm at ok ⊢
  dsimp only at ok ⊢
  by_cases c : tD T n q = 1 ∧ ¬ isF T n 1 q
  · rw [if_pos c] at ok ⊢
    by_cases c2 : 6 < te T n q.1 - q.1
    · rw [if_pos c2] at ok; exact absurd ok (fun h => h)
    · rw [if_neg c2] at ok ⊢
      by_cases c3 : tkB Y (tLt T n q) = true
      · rw [if_pos c3] at ok; exact absurd ok (fun h => h)
      · rw [if_neg c3]
        exact ⟨c.1, c.2, by omega, c3, rfl⟩
  · rw [if_neg c] at ok; exact absurd ok (fun h => h)
theorem nm_new {q : pL} (hq : qOK T n q) (hk : tD T n q = 1) (h6 : te T n q.1 - q.1 ≤ 6) : nmO (tLt T n q) (tNv T (te T n q.1 - q.1) q.1 0) := by
  have hk1 := (tD_k (Or.inl rfl) hk).1
  have hte := te_all (T := T) hq.1
  have hlt := tK_lt (T := T) (n := n) (p := q.1) (by rw [hk1]; decide)
  refine ⟨te T n q.1 - q.1, by omega, h6, fun k hkk => ?_, fun k h1 h2 => ?_, ?_⟩
  · have hrun := (te_run (T := T) hq.1 (by rw [hk1]; decide)).1 (q.1 + k) (by omega) (by omega)
    rw [hk1] at hrun
    have := tK_let hrun
    unfold tLt
    rw [if_pos hkk]
    omega
  · unfold tLt
    rw [if_neg (by omega)]
  · have := tNv_V hk hq h6 (te T n q.1 - q.1) 0 (by omega)
    exact this
theorem inv_lo (h : yInv Y z) (hz : z ≤ z') (h5 : Y 319 46 < 5) {q : pL} (hq : qOK T n q) (ok : isOk (yLo T n Y q).1) : yInv (yLo T n Y q).2 z' := by
  obtain ⟨a1, a2, a3, a4, a5, a6, a7, a8, a9⟩ := h
  have h46 := a1.2.2.2.1
  unfold yLo at ok ⊢
  dsimp only at ok ⊢
  have o5 := oN_in ok
  have k5 := ok_W (ok_N ok)
  have o4 := oN_in k5
  have k4 := ok_W (ok_N k5)
  have o3 := oN_in k4
  have k3 := ok_W (ok_N k4)
  have o2 := oN_in k3
  have k2 := ok_W (ok_N k3)
  have o1 := oN_in k2
  have k1 := ok_W (ok_N k2)
  have hnm := oNm_ok k1
  have nmn := nm_new hq hnm.1 hnm.2.2.1
  obtain ⟨L, hL⟩ : ∃ L : Nat, (Y 319 46).toNat = L := ⟨_, rfl⟩
  rw [hL]
  generalize hs1 : oN T n 0 (Y 355 0 - 1) (oW T n 7 (oNm T n Y (.inr q))) = s1 at *
  generalize hs2 : oN T n s1.2 (Y 355 0 - 1) (oW T n 8 s1.1) = s2 at *
  generalize hs3 : oN T n 0 99 (oW T n 9 s2.1) = s3 at *
  generalize hs4 : oN T n 0 99 (oW T n 10 s3.1) = s4 at *
  generalize hs5 : oN T n 0 999 (oW T n 11 s4.1) = s5 at *
  generalize hYY : yRow T n Y L q s1.2 s2.2 s3.2 s4.2 s5.2 = Z
  have yo : ∀ r, r ≠ 356 → r ≠ 357 → r ≠ 1000 → r ≠ 319 → Z r = Y r := fun r x1 x2 x3 x4 => by
    rw [← hYY]
    funext k
    exact yRow_o x1 x2 x3 (fun h => x4 h.1)
  have y46 : Z 319 46 = (L : Int) + 1 := by rw [← hYY]; exact yRow_46
  have y58 : Z 319 58 = Y 319 58 := by rw [← hYY]; exact yRow_o (by decide) (by decide) (by decide) (by decide)
  have y53 : Z 319 53 = Y 319 53 := by rw [← hYY]; exact yRow_o (by decide) (by decide) (by decide) (by decide)
  have y5 := yo 355 (by decide) (by decide) (by decide) (by decide)
  have e := yE_co (Y := Y) (Y' := Z) (fun r hr => yo r (by omega) (by omega) (by omega) (by omega))
  refine ⟨?_, ?_, ?_, by rw [y58]; omega, ?_, ?_, ?_, fun l hl => ?_, ?_⟩
  · unfold yOK at a1 ⊢
    rw [y5, y46, y53]
    exact ⟨a1.1, a1.2.1, a1.2.2.1, by omega, a1.2.2.2.2⟩
  · unfold yCd at a2 ⊢
    rw [yo 361 (by decide) (by decide) (by decide) (by decide), yo 362 (by decide) (by decide) (by decide) (by decide), y58]
    exact a2
  · unfold yW; rw [yo 360 (by decide) (by decide) (by decide) (by decide)]; exact a3
  · unfold yRs; rw [y5, yo 359 (by decide) (by decide) (by decide) (by decide)]; exact a5
  · rw [yo 358 (by decide) (by decide) (by decide) (by decide)]; exact a6
  · unfold yWo; rw [y5, yo 360 (by decide) (by decide) (by decide) (by decide)]; exact a7
  · rw [y46] at hl
    unfold yLd
    have w0 : ∀ k, k < 5 → Z 357 (5 * l + k) = if l = L then (if k = 0 then s1.2 else if k = 1 then s2.2 else if k = 2 then s3.2 else if k = 3 then s4.2 else s5.2) else Y 357 (5 * l + k) := fun k hk => by rw [← hYY]; exact yRow_357 hk
    have w1 : ∀ k, k < 6 → Z 1000 (6 * l + k) = if l = L then tLt T n q k else Y 1000 (6 * l + k) := fun k hk => by rw [← hYY]; exact yRow_1000 hk
    have w2 : Z 356 l = if l = L then tNv T (te T n q.1 - q.1) q.1 0 else Y 356 l := by rw [← hYY]; exact yRow_356
    have w00 := w0 0 (by decide)
    rw [show 5 * l + 0 = 5 * l by omega] at w00
    rw [w00, w0 1 (by decide), w0 2 (by decide), w0 3 (by decide), w0 4 (by decide), w2, y5]
    by_cases el : l = L
    · simp only [el, ↓reduceIte]
      refine ⟨⟨by omega, by show s1.2 ≤ s2.2; omega, by show s2.2 < Y 355 0; omega⟩, ⟨by show 0 ≤ s3.2; omega, by show s3.2 ≤ 99; omega⟩, ⟨by show 0 ≤ s4.2; omega, by show s4.2 ≤ 99; omega⟩, ⟨by show 0 ≤ s5.2; omega, by show s5.2 ≤ 999; omega⟩, ?_⟩
      obtain ⟨m, m1, m2, m3, m4, m5⟩ := nmn
      have wk : ∀ k, k < 6 → Z 1000 (6 * L + k) = tLt T n q k := fun k hk => by
        have := w1 k hk
        rw [el, if_pos rfl] at this
        exact this
      refine ⟨m, m1, m2, fun k hk => ?_, fun k hk1 hk2 => ?_, ?_⟩
      · dsimp only; rw [wk k (by omega)]; exact m3 k hk
      · dsimp only; rw [wk k hk2]; exact m4 k hk1 hk2
      · rw [m5]; exact nmV_co m (fun k hk => (wk k (by omega)).symm)
    · simp only [el, ↓reduceIte]
      have hc := a8 l (by omega)
      refine ⟨hc.1, hc.2.1, hc.2.2.1, hc.2.2.2.1, ?_⟩
      obtain ⟨m, m1, m2, m3, m4, m5⟩ := hc.2.2.2.2
      have wk : ∀ k, k < 6 → Z 1000 (6 * l + k) = Y 1000 (6 * l + k) := fun k hk => by
        have := w1 k hk
        rw [if_neg el] at this
        exact this
      refine ⟨m, m1, m2, fun k hk => ?_, fun k hk1 hk2 => ?_, ?_⟩
      · dsimp only; rw [wk k (by omega)]; exact m3 k hk
      · dsimp only; rw [wk k hk2]; exact m4 k hk1 hk2
      · rw [m5]; exact nmV_co m (fun k hk => (wk k (by omega)).symm)
  · unfold yCs
    rw [e.1, e.2]
    exact a9
end YK

/-! A VALLEY IS TOLD: codes, statements, all; the class -/
def yAdd (Y : bz_M) (w : Nat) (cs : List Int) : bz_M := fun r k => if r = 361 ∧ k = w then Y 319 58 else if r = 362 ∧ k = w then Y 319 58 + (cs.length : Int) else if r = 319 ∧ k = 58 then Y 319 58 + (cs.length : Int) else if r = 363 ∧ (Y 319 58).toNat ≤ k ∧ k < (Y 319 58).toNat + cs.length then cs.getD (k - (Y 319 58).toNat) 0 else Y r k
def yCd (Y : bz_M) : Prop := 0 ≤ Y 319 58 ∧ ∀ w, w < 2 → Y 361 w ≠ -1 → 0 ≤ Y 361 w ∧ Y 361 w ≤ Y 362 w ∧ Y 362 w ≤ Y 319 58
def yOu (Y : bz_M) (w : Nat) (o : pR) : sT × bz_M := match o with
  | none => (.inl (1, 0), Y)
  | some (.inl e) => (.inl e, Y)
  | some (.inr p) => (.inr p.1, yAdd Y w p.2)
section YI
variable (T : Nat → Int) (n : Nat)
def yCo (Y : bz_M) (w : Nat) (q : pL) : sT × bz_M := if Y 361 w = -1 then yOu Y w (rd T n (if w = 0 then 2 else 4) (12 * n + 60) (if w = 0 then 3 else 9) 0 (nx T n q)) else (.inl (5, q.1), Y)
def yStm (Y : bz_M) (q : pL) : sT × bz_M := if isW T n 3 q then yRu T n Y (.inr (nx T n q)) else if isW T n 4 q then ySo T n Y (.inr (nx T n q)) else if isW T n 5 q then yWi T n Y (.inr (nx T n q)) else if isW T n 14 q then ySp T n Y (.inr (nx T n q)) else if isW T n 6 q then (if Y 319 46 < 5 then yLo T n Y (nx T n q) else (.inl (5, q.1), Y)) else if isW T n 12 q then yCo T n Y 0 q else if isW T n 13 q then yCo T n Y 1 q else (.inl (1, q.1), Y)
def yLp : Nat → Int → bz_M → sT → sT × bz_M × Int
  | 0, k, Y, s => (s, Y, k)
  | f + 1, k, Y, s => match s with
    | .inl e => (.inl e, Y, k)
    | .inr q => if n ≤ q.1 then (.inr q, Y, k) else if k = 80 then (.inl (5, q.1), Y, k) else yLp f (k + 1) (yStm T n Y q).2 (oS T n 59 (yStm T n Y q).1)
def yW (Y : bz_M) : Prop := ∀ k, k < 80 → 0 ≤ Y 360 k ∧ Y 360 k ≤ 9
/-- what must be so of it to go on reading -/
def yGo (Y : bz_M) : Prop := yOK Y ∧ yCd Y ∧ yW Y
end YI
theorem map_getD (cs : List Int) : (List.range cs.length).map (fun i => cs.getD i 0) = cs := by
  refine List.ext_getElem (by simp) (fun i h1 h2 => ?_)
  simp [List.getD, h2]
section YJ
variable {Lg d n v : Nat} {T : Nat → Int} {Y M M' : bz_M} {s : sT}
theorem yOps_same {w : Nat} {cs : List Int} (h : 0 ≤ Y 319 58) : yOps (yAdd Y w cs) w = cs := by
  have e1 : yAdd Y w cs 361 w = Y 319 58 := by unfold yAdd; rw [if_pos ⟨rfl, rfl⟩]
  have e2 : yAdd Y w cs 362 w = Y 319 58 + (cs.length : Int) := by unfold yAdd; rw [if_neg (fun h => absurd h.1 (by decide)), if_pos ⟨rfl, rfl⟩]
  have e3 : ∀ i, i < cs.length → yAdd Y w cs 363 ((Y 319 58).toNat + i) = cs.getD i 0 := fun i hi => by
    unfold yAdd
    rw [if_neg (fun h => absurd h.1 (by decide)), if_neg (fun h => absurd h.1 (by decide)), if_neg (fun h => absurd h.1 (by decide)), if_pos ⟨rfl, by omega, by omega⟩, show (Y 319 58).toNat + i - (Y 319 58).toNat = i by omega]
  unfold yOps
  rw [e1, e2, show (Y 319 58 + (cs.length : Int) - Y 319 58).toNat = cs.length by omega]
  have : ∀ (l : List Nat), (∀ i ∈ l, i < cs.length) → l.map (fun i => yAdd Y w cs 363 ((Y 319 58).toNat + i)) = l.map (fun i => cs.getD i 0) := fun l hl => List.map_congr_left (fun i hi => e3 i (hl i hi))
  rw [this _ (fun i hi => List.mem_range.mp hi)]
  exact map_getD cs
theorem yOps_other {w w' : Nat} {cs : List Int} (hw : w' ≠ w) (h0 : 0 ≤ Y 361 w') (h1 : Y 361 w' ≤ Y 362 w') (h2 : Y 362 w' ≤ Y 319 58) : yOps (yAdd Y w cs) w' = yOps Y w' := by
  have e1 : yAdd Y w cs 361 w' = Y 361 w' := by unfold yAdd; rw [if_neg (fun h => hw h.2), if_neg (fun h => hw h.2), if_neg (fun h => absurd h.1 (by decide)), if_neg (fun h => absurd h.1 (by decide))]
  have e2 : yAdd Y w cs 362 w' = Y 362 w' := by unfold yAdd; rw [if_neg (fun h => hw h.2), if_neg (fun h => hw h.2), if_neg (fun h => absurd h.1 (by decide)), if_neg (fun h => absurd h.1 (by decide))]
  unfold yOps
  rw [e1, e2]
  refine List.map_congr_left (fun i hi => ?_)
  have hi := List.mem_range.mp hi
  unfold yAdd
  rw [if_neg (fun h => absurd h.1 (by decide)), if_neg (fun h => absurd h.1 (by decide)), if_neg (fun h => absurd h.1 (by decide)), if_neg (by omega)]
theorem yAdd_o {w r k : Nat} {cs : List Int} (h1 : r ≠ 361) (h2 : r ≠ 362) (h3 : r ≠ 363) (h4 : ¬ (r = 319 ∧ k = 58)) : yAdd Y w cs r k = Y r k := by
  unfold yAdd
  rw [if_neg (fun h => h1 h.1), if_neg (fun h => h2 h.1), if_neg h4, if_neg (fun h => h3 h.1)]
theorem yAdd_361 {w w' : Nat} {cs : List Int} : yAdd Y w cs 361 w' = if w' = w then Y 319 58 else Y 361 w' := by
  unfold yAdd
  by_cases e : w' = w
  · rw [if_pos ⟨rfl, e⟩, if_pos e]
  · rw [if_neg (fun h => e h.2), if_neg (fun h => e h.2), if_neg (fun h => absurd h.1 (by decide)), if_neg (fun h => absurd h.1 (by decide)), if_neg e]
theorem c_codeY (hv : bz_oV v) {w : Nat} {cs : List Int} (hw : w < 2) (hC : yCd Y) (hn : Y 361 w = -1) (hY : cY v Y M) (h0 : ∀ k, M' v k = if k = 16 + w then 1 else M v k) (hr : ∀ r, v < r → r < v + 10 → M' r = M r) (hc : cC (v + 10 + 3 * w) cs M') (hoth : ∀ r, (w = 0 → r = v + 13 ∨ r = v + 14) → (w = 1 → r = v + 10 ∨ r = v + 11) → M' r = M r) : cY v (yAdd Y w cs) M' := by
  obtain ⟨c0, c1, c2, c3, c4, c5, c6, c7⟩ := hY
  have yo : ∀ r, r ≠ 361 → r ≠ 362 → r ≠ 363 → r ≠ 319 → yAdd Y w cs r = Y r := fun r x1 x2 x3 x4 => by
    funext k
    exact yAdd_o x1 x2 x3 (fun h => x4 h.1)
  have y46 : yAdd Y w cs 319 46 = Y 319 46 := yAdd_o (by decide) (by decide) (by decide) (by decide)
  have y53 : yAdd Y w cs 319 53 = Y 319 53 := yAdd_o (by decide) (by decide) (by decide) (by decide)
  have c58 := hC.1
  refine ⟨⟨?_, ?_, ?_, ?_, ?_, ?_, ?_⟩, ?_, ?_, ?_, ?_, ?_, ?_, ?_⟩
  · rw [h0 0, if_neg (by omega), yo 355 (by decide) (by decide) (by decide) (by decide)]; exact c0.1
  · rw [h0 1, if_neg (by omega), yo 355 (by decide) (by decide) (by decide) (by decide)]; exact c0.2.1
  · rw [h0 2, if_neg (by omega), yo 355 (by decide) (by decide) (by decide) (by decide)]; exact c0.2.2.1
  · rw [h0 3, if_neg (by omega), y46]; exact c0.2.2.2.1
  · rw [h0 4, if_neg (by omega), y53]; exact c0.2.2.2.2.1
  · rw [h0 16]
    by_cases e : w = 0
    · rw [if_pos (by omega), bz_b1.mpr]
      rw [yAdd_361, if_pos e.symm]; omega
    · rw [if_neg (by omega), c0.2.2.2.2.2.1]
      have : yAdd Y w cs 361 0 = Y 361 0 := by rw [yAdd_361, if_neg (by omega)]
      rw [this]
  · rw [h0 17]
    by_cases e : w = 1
    · rw [if_pos (by omega), bz_b1.mpr]
      rw [yAdd_361, if_pos e.symm]; omega
    · rw [if_neg (by omega), c0.2.2.2.2.2.2]
      have : yAdd Y w cs 361 1 = Y 361 1 := by rw [yAdd_361, if_neg (by omega)]
      rw [this]
  · rw [hr (v + 1) (by omega) (by omega), yo 359 (by decide) (by decide) (by decide) (by decide)]; exact c1
  · rw [hr (v + 2) (by omega) (by omega), yo 358 (by decide) (by decide) (by decide) (by decide)]; exact c2
  · rw [hr (v + 3) (by omega) (by omega), yo 360 (by decide) (by decide) (by decide) (by decide)]; exact c3
  · unfold cY4 at c4 ⊢
    rw [y46, yo 357 (by decide) (by decide) (by decide) (by decide), yo 1000 (by decide) (by decide) (by decide) (by decide), hr (v + 4) (by omega) (by omega), hr (v + 5) (by omega) (by omega), hr (v + 6) (by omega) (by omega), hr (v + 7) (by omega) (by omega), hr (v + 8) (by omega) (by omega), hr (v + 9) (by omega) (by omega)]
    exact c4
  · rw [y46, hr (v + 9) (by omega) (by omega)]; exact c5
  · unfold yE
    by_cases e : w = 0
    · subst e
      rw [yAdd_361, if_pos rfl, if_neg (by omega), yOps_same c58]; exact hc
    · have e361 : yAdd Y w cs 361 0 = Y 361 0 := by rw [yAdd_361, if_neg (by omega)]
      rw [e361]
      unfold yE at c6
      have k6 : cC (v + 10) (if Y 361 0 = -1 then [46, 42, 1, 44, 2, 45, 2] else yOps Y 0) M' := by
        unfold cC at c6 ⊢
        rw [hoth (v + 10) (by omega) (by omega), hoth (v + 10 + 1) (by omega) (by omega)]
        exact c6
      by_cases e2 : Y 361 0 = -1
      · rw [if_pos e2] at k6 ⊢; exact k6
      · rw [if_neg e2] at k6 ⊢
        have := hC.2 0 (by decide) e2
        rw [yOps_other (by omega) this.1 this.2.1 this.2.2]
        exact k6
  · unfold yB
    by_cases e : w = 1
    · subst e
      rw [yAdd_361, if_pos rfl, if_neg (by omega), yOps_same c58]; exact hc
    · have e361 : yAdd Y w cs 361 1 = Y 361 1 := by rw [yAdd_361, if_neg (by omega)]
      rw [e361]
      unfold yB at c7
      have k7 : cC (v + 13) (if Y 361 1 = -1 then [42, 1000, 8] else yOps Y 1) M' := by
        unfold cC at c7 ⊢
        rw [hoth (v + 13) (by omega) (by omega), hoth (v + 13 + 1) (by omega) (by omega)]
        exact c7
      by_cases e2 : Y 361 1 = -1
      · rw [if_pos e2] at k7 ⊢; exact k7
      · rw [if_neg e2] at k7 ⊢
        have := hC.2 1 (by decide) e2
        rw [yOps_other (by omega) this.1 this.2.1 this.2.2]
        exact k7
theorem c_code (hd : 44 < d) (hv : bz_oV v) {w : Nat} (hw : w < 2) (hs : stC M) (ht : tb T n M) (hC : yCd Y) (hY : cY v Y M) {q : pL} (h : cSt T n (.inr q) M) (hk : tD T n q = 1) {F : bz_M → Option bz_M} (hF : ∀ M1, bz_le ((eCd_clear Lg (d - 1 - 1) (v + 10 + 3 * w) M1).bind (fun M1 => (((if w = 0 then eGr_sum Lg (d - 1 - 1) 0 else eGr_test Lg (d - 1 - 1) 0) (bz_up (bz_up M1 130 1 (Int.ofNat (v + 10 + 3 * w))) 130 2 (if w = 0 then 2 else 4))).bind (fun M2 => (some M2))))) (F M1)) : w_T ((eVy_isFirst Lg (d - 1) (M v (16 + w)) M).bind (fun p9 => (if p9.1 = 0 then (some p9.2) else ((F (bz_up p9.2 v (16 + w) 1)).bind (fun M3 => (some M3)))))) (fun M' => cSt T n (yCo T n Y w q).1 M' ∧ fY v M M' ∧ (isOk (yCo T n Y w q).1 → cY v (yCo T n Y w q).2 M')) := by
  have hvv := oV_c hv
  have hn := ht.1
  have hX : cX T n q M := h.1
  have hq : qOK T n q := h.2
  have hq1 := hq.1
  have gt := nx_gt hq (by rw [(tD_k (Or.inl rfl) hk).1]; decide)
  have hflag : M v (16 + w) = bz_b (Y 361 w ≠ -1) := by
    rcases (show w = 0 ∨ w = 1 by omega) with rfl | rfl
    · exact hY.1.2.2.2.2.2.1
    · exact hY.1.2.2.2.2.2.2
  unfold yCo
  rw [hflag]
  by_cases c : Y 361 w = -1
  · rw [bz_b0.mpr (fun h => h c), if_pos c]
    refine T_seq (T_le (eVy_isFirst_E (by omega)) (Q := fun p => p.1 = 1 ∧ cX T n (nx T n q) p.2 ∧ fT M p.2) ?_) ?_
    · rw [if_pos rfl]
      refine T_seq (tx_step (by omega) hs ht hq hX (by rw [hk]; decide)) ?_
      rintro M1 ⟨a, b⟩
      exact T_some ⟨rfl, a, b⟩
    rintro ⟨p1, M1⟩ ⟨e1, a1, b1⟩
    dsimp only at e1 a1 b1 ⊢
    rw [e1, if_neg (by decide)]
    have hc5 : bz_oC (v + 10 + 3 * w) := by
      rcases (show w = 0 ∨ w = 1 by omega) with rfl | rfl
      · exact oV_C10 hv
      · exact oV_C13 hv
    have hcr := oC_c hc5
    refine T_seq (T_le (hF _) ?_) (Q := fun M' => cSt T n (yOu Y w (rd T n (if w = 0 then 2 else 4) (12 * n + 60) (if w = 0 then 3 else 9) 0 (nx T n q))).1 M' ∧ fY v M M' ∧ (isOk (yOu Y w (rd T n (if w = 0 then 2 else 4) (12 * n + 60) (if w = 0 then 3 else 9) 0 (nx T n q))).1 → cY v (yOu Y w (rd T n (if w = 0 then 2 else 4) (12 * n + 60) (if w = 0 then 3 else 9) 0 (nx T n q))).2 M')) (R := fun M' => cSt T n (yOu Y w (rd T n (if w = 0 then 2 else 4) (12 * n + 60) (if w = 0 then 3 else 9) 0 (nx T n q))).1 M' ∧ fY v M M' ∧ (isOk (yOu Y w (rd T n (if w = 0 then 2 else 4) (12 * n + 60) (if w = 0 then 3 else 9) 0 (nx T n q))).1 → cY v (yOu Y w (rd T n (if w = 0 then 2 else 4) (12 * n + 60) (if w = 0 then 3 else 9) 0 (nx T n q))).2 M')) (fun M' h' => T_some h')
    refine T_run (eCd_clear_E hc5 _ rfl) ?_
    generalize hM2 : bz_up (bz_up (bz_up (bz_up M1 v (16 + w) 1) (v + 10 + 3 * w) 2 0) 130 1 (Int.ofNat (v + 10 + 3 * w))) 130 2 (if w = 0 then 2 else 4) = M2
    have k2 : ∀ r, r ≠ v → r ≠ v + 10 + 3 * w → r ≠ 130 → M2 r = M1 r := fun r x1 x2 x3 => by rw [← hM2, bz_up_fn x3, bz_up_fn x3, bz_up_fn x2, bz_up_fn x1]
    have hP : cPre T n (if w = 0 then 2 else 4) (v + 10 + 3 * w) [] (nx T n q) M2 := by
      refine ⟨cX_co a1 (k2 123 (by omega) (by omega) (by omega)), ⟨?_, trivial⟩, Nat.zero_le _, nx_ok hq, fun r k x1 x2 => ?_, tb_co ht ?_, ?_, ?_⟩
      · rw [← hM2, bz_up_nr (by omega), bz_up_nr (by omega), bz_up_eq]; rfl
      · rw [k2 r (by omega) (by omega) (by omega), b1 r (by omega)]; exact hs r k x1 x2
      · rw [k2 124 (by omega) (by omega) (by omega)]; exact b1 124 (by decide)
      · rw [← hM2, bz_up_nk (by decide), bz_up_eq]; rfl
      · rw [← hM2, bz_up_eq]
    have hww : (if w = 0 then (2 : Int) else 4) = 2 ∨ (if w = 0 then (2 : Int) else 4) = 4 ∨ (if w = 0 then (2 : Int) else 4) = 8 := by split <;> decide
    have tot := rd_total (T := T) (n := n) hww (12 * n + 60) (if w = 0 then 3 else 9) 0 (nx T n q) (by split <;> decide) (by decide) (nx_ok hq) (by split <;> omega)
    obtain ⟨out, ho⟩ := Option.ne_none_iff_exists'.mp tot
    rw [ho]
    have run : w_T ((if w = 0 then eGr_sum Lg (d - 1 - 1) 0 else eGr_test Lg (d - 1 - 1) 0) M2) (cPost T n (v + 10 + 3 * w) [] M2 out) := by
      have all := cg_all (Lg := Lg) (T := T) (n := n) hww hc5 (12 * n + 60)
      by_cases e : w = 0
      · subst e
        exact all.1.2.2.2.1 (d - 1 - 1) 0 (nx T n q) M2 [] out (by omega) (by decide) hP ho
      · have e1 : w = 1 := by omega
        subst e1
        exact all.2.2.2.2.2.1 (d - 1 - 1) 0 (nx T n q) M2 [] out (by omega) (by decide) hP ho
    refine T_seq run ?_
    rintro M3 ⟨fr, po⟩
    have fY3 : fY v M M3 := fun r x1 x2 x3 => by
      rw [fr r x1 (by omega) (by omega), k2 r (by omega) (by omega) x2, b1 r x1]
    cases out with
    | inl e => exact T_some ⟨po.1, fY3, fun h => absurd h (fun h => h)⟩
    | inr p =>
      have po : cX T n p.1 M3 ∧ cC (v + 10 + 3 * w) ([] ++ p.2) M3 := po
      rw [List.nil_append] at po
      have hg := rd_good hww (12 * n + 60) (if w = 0 then 3 else 9) 0 (nx T n q) p.1 p.2 (by split <;> decide) (by decide) (nx_ok hq) ho
      refine T_some ⟨⟨po.1, hg.1⟩, fY3, fun _ => ?_⟩
      show cY v (yAdd Y w p.2) M3
      refine c_codeY (M := M) hv hw hC c hY (fun k => ?_) (fun r x1 x2 => ?_) po.2 (fun r x1 x2 => ?_)
      · rw [fr v (by omega) (by omega) (by omega), ← hM2, bz_up_nr (by omega), bz_up_nr (by omega), bz_up_nr (by omega), bz_up_rk, b1 v (by omega)]
        by_cases ek : k = 16 + w
        · rw [if_pos ⟨rfl, ek⟩, if_pos ek]
        · rw [if_neg (fun h => ek h.2), if_neg ek]
      · rw [fr r (by omega) (by omega) (by omega), k2 r (by omega) (by omega) (by omega), b1 r (by omega)]
      · rcases (show w = 0 ∨ w = 1 by omega) with rfl | rfl
        · have := x1 rfl
          rw [fr r (by omega) (by omega) (by omega), k2 r (by omega) (by omega) (by omega), b1 r (by omega)]
        · have := x2 rfl
          rw [fr r (by omega) (by omega) (by omega), k2 r (by omega) (by omega) (by omega), b1 r (by omega)]
  · rw [bz_b1.mpr c, if_neg c]
    refine T_seq (T_le (eVy_isFirst_E (by omega)) (Q := fun p => p.1 = 0 ∧ cXf n 5 (q.1 : Int) p.2 ∧ fT M p.2) ?_) ?_
    · rw [if_neg (by decide), hX.2.1]
      refine T_seq (tx_fail hX (by decide)) ?_
      rintro M1 ⟨a, b⟩
      exact T_some ⟨rfl, a, b⟩
    rintro ⟨p1, M1⟩ ⟨e1, a1, b1⟩
    dsimp only at e1 a1 b1 ⊢
    rw [e1, if_pos rfl]
    exact T_some ⟨a1, fY_T b1, fun h => absurd h (fun h => h)⟩
end YJ

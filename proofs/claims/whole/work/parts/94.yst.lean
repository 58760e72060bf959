/-! A VALLEY IS TOLD: statements; the class reads all -/
def psO (T : Nat → Int) (n : Nat) (s : sT) (z : Nat) : Prop := ∀ q, s = .inr q → z ≤ q.1 ∧ qOK T n q
section YL
variable {n : Nat} {T : Nat → Int} {Y : bz_M} {z : Nat} {s : sT}
theorem ps_nx {q : pL} (hq : qOK T n q) (h : z ≤ q.1) : z ≤ (nx T n q).1 ∧ qOK T n (nx T n q) := by
  have h1 := nx_le hq
  have h2 := (te_all (T := T) hq.1).1
  exact ⟨by omega, nx_ok hq⟩
theorem ps_N {a b : Int} (h : psO T n s z) : psO T n (oN T n a b s).1 z := by
  intro q' e
  cases s with
  | inl f => cases e
  | inr q =>
    have hq := h q rfl
    revert e
    show (match tNum T n a b q with | .inl e => ((.inl e, a) : sT × Int) | .inr v => (.inr (nx T n q), v)).1 = .inr q' → _
    cases tNum T n a b q with
    | inl f => intro e; cases e
    | inr v => intro e; cases e; exact ps_nx hq.2 hq.1
theorem ps_W {i : Nat} (h : psO T n s z) : psO T n (oW T n i s) z := by
  intro q' e
  cases s with
  | inl f => cases e
  | inr q =>
    have hq := h q rfl
    revert e
    show (if isW T n i q then .inr (nx T n q) else .inl (1, q.1) : sT) = .inr q' → _
    split
    · intro e; cases e; exact ps_nx hq.2 hq.1
    · intro e; cases e
theorem ps_S {c : Int} (h : psO T n s z) : psO T n (oS T n c s) z := by
  intro q' e
  cases s with
  | inl f => cases e
  | inr q =>
    have hq := h q rfl
    revert e
    show (if isS T n c q then .inr (nx T n q) else .inl (1, q.1) : sT) = .inr q' → _
    split
    · intro e; cases e; exact ps_nx hq.2 hq.1
    · intro e; cases e
theorem ps_Nm {q : pL} (hq : qOK T n q) (hz : z ≤ q.1) : psO T n (oNm T n Y (.inr q)) z := by
  intro q' e
  have := oNm_ok (T := T) (n := n) (Y := Y) (q := q) (by rw [e]; trivial)
  rw [this.2.2.2.2] at e
  cases e
  exact ps_nx hq hz
theorem ps_r {q : pL} (hq : qOK T n q) (hz : z ≤ q.1) : psO T n (.inr q) z := fun q' e => by cases e; exact ⟨hz, hq⟩
theorem inv_co {w : Nat} (hw : w < 2) {q : pL} (hq : qOK T n q) (h : yInv Y q.1) (hc : Y 361 w = -1) {q' : pL} {cs : List Int} (hg : rGood T n (if w = 0 then 2 else 4) (if w = 0 then 3 else 9) 0 (nx T n q) q' cs) : yInv (yAdd Y w cs) q'.1 := by
  obtain ⟨a1, a2, a3, a4, a5, a6, a7, a8, a9⟩ := h
  obtain ⟨g1, g2, g3, g4, g5⟩ := hg
  have hps := ps_nx hq (Nat.le_refl _)
  have c58 := a2.1
  have yo : ∀ r, r ≠ 361 → r ≠ 362 → r ≠ 363 → r ≠ 319 → yAdd Y w cs r = Y r := fun r x1 x2 x3 x4 => by
    funext k
    exact yAdd_o x1 x2 x3 (fun h => x4 h.1)
  have y46 : yAdd Y w cs 319 46 = Y 319 46 := yAdd_o (by decide) (by decide) (by decide) (by decide)
  have y53 : yAdd Y w cs 319 53 = Y 319 53 := yAdd_o (by decide) (by decide) (by decide) (by decide)
  have y58 : yAdd Y w cs 319 58 = Y 319 58 + (cs.length : Int) := by
    unfold yAdd
    rw [if_neg (fun h => absurd h.1 (by decide)), if_neg (fun h => absurd h.1 (by decide)), if_pos ⟨rfl, rfl⟩]
  have y62 : ∀ w', yAdd Y w cs 362 w' = if w' = w then Y 319 58 + (cs.length : Int) else Y 362 w' := fun w' => by
    unfold yAdd
    by_cases e : w' = w
    · rw [if_neg (fun h => absurd h.1 (by decide)), if_pos ⟨rfl, e⟩, if_pos e]
    · rw [if_neg (fun h => e h.2), if_neg (fun h => e h.2), if_neg (fun h => absurd h.1 (by decide)), if_neg (fun h => absurd h.1 (by decide)), if_neg e]
  have y5 := yo 355 (by decide) (by decide) (by decide) (by decide)
  refine ⟨?_, ⟨by rw [y58]; omega, fun w' hw' hn => ?_⟩, ?_, by rw [y58]; omega, ?_, ?_, ?_, fun l hl => ?_, ⟨?_, ?_⟩⟩
  · unfold yOK at a1 ⊢
    rw [y5, y46, y53]
    exact a1
  · rw [yAdd_361] at hn ⊢
    rw [y62, y58]
    by_cases e : w' = w
    · rw [if_pos e, if_pos e]; omega
    · rw [if_neg e] at hn
      rw [if_neg e, if_neg e]
      have := a2.2 w' hw' hn
      omega
  · unfold yW; rw [yo 360 (by decide) (by decide) (by decide) (by decide)]; exact a3
  · unfold yRs; rw [y5, yo 359 (by decide) (by decide) (by decide) (by decide)]; exact a5
  · rw [yo 358 (by decide) (by decide) (by decide) (by decide)]; exact a6
  · unfold yWo; rw [y5, yo 360 (by decide) (by decide) (by decide) (by decide)]; exact a7
  · rw [y46] at hl
    unfold yLd
    rw [y5, yo 357 (by decide) (by decide) (by decide) (by decide), yo 1000 (by decide) (by decide) (by decide) (by decide), yo 356 (by decide) (by decide) (by decide) (by decide)]
    exact a8 l hl
  · by_cases e : w = 0
    · subst e
      have : yE (yAdd Y 0 cs) = cs := by
        unfold yE
        rw [yAdd_361, if_pos rfl, if_neg (by omega), yOps_same c58]
      rw [this]
      exact ⟨g5 [] (by decide), fun op hop => by have := g4 op hop; unfold aW at this; rw [if_pos rfl] at this; exact this⟩
    · have : yE (yAdd Y w cs) = yE Y := by
        unfold yE
        have e361 : yAdd Y w cs 361 0 = Y 361 0 := by rw [yAdd_361, if_neg (by omega)]
        rw [e361]
        by_cases e2 : Y 361 0 = -1
        · rw [if_pos e2, if_pos e2]
        · rw [if_neg e2, if_neg e2]
          have := a2.2 0 (by decide) e2
          exact yOps_other (by omega) this.1 this.2.1 this.2.2
      rw [this]
      exact a9.1
  · by_cases e : w = 1
    · subst e
      have : yB (yAdd Y 1 cs) = cs := by
        unfold yB
        rw [yAdd_361, if_pos rfl, if_neg (by omega), yOps_same c58]
      rw [this]
      exact ⟨g5 [] (by decide), fun op hop => by have := g4 op hop; unfold aW at this; rw [if_neg (by decide), if_pos (by decide)] at this; exact this⟩
    · have : yB (yAdd Y w cs) = yB Y := by
        unfold yB
        have e361 : yAdd Y w cs 361 1 = Y 361 1 := by rw [yAdd_361, if_neg (by omega)]
        rw [e361]
        by_cases e2 : Y 361 1 = -1
        · rw [if_pos e2, if_pos e2]
        · rw [if_neg e2, if_neg e2]
          have := a2.2 1 (by decide) e2
          exact yOps_other (by omega) this.1 this.2.1 this.2.2
      rw [this]
      exact a9.2
theorem co_ok {w : Nat} (hw : w < 2) {q : pL} (hq : qOK T n q) (h : yInv Y q.1) {q' : pL} (e : (yCo T n Y w q).1 = .inr q') : q.1 ≤ q'.1 ∧ qOK T n q' ∧ yInv (yCo T n Y w q).2 q'.1 := by
  unfold yCo at e ⊢
  by_cases c : Y 361 w = -1
  · rw [if_pos c] at e ⊢
    have hww : (if w = 0 then (2 : Int) else 4) = 2 ∨ (if w = 0 then (2 : Int) else 4) = 4 ∨ (if w = 0 then (2 : Int) else 4) = 8 := by split <;> decide
    cases ho : rd T n (if w = 0 then 2 else 4) (12 * n + 60) (if w = 0 then 3 else 9) 0 (nx T n q) with
    | none => rw [ho] at e; cases e
    | some out =>
      rw [ho] at e
      cases out with
      | inl f => cases e
      | inr p =>
        have e : p.1 = q' := by cases e; rfl
        have hg := rd_good hww (12 * n + 60) (if w = 0 then 3 else 9) 0 (nx T n q) p.1 p.2 (by split <;> decide) (by decide) (nx_ok hq) ho
        have hps := ps_nx hq (Nat.le_refl _)
        rw [← e]
        have h2 := hg.2.1
        exact ⟨by omega, hg.1, inv_co hw hq h c hg⟩
  · rw [if_neg c] at e; cases e
theorem stm_ok {q : pL} (hq : qOK T n q) (h : yInv Y q.1) {q' : pL} (e : (yStm T n Y q).1 = .inr q') : q.1 ≤ q'.1 ∧ qOK T n q' ∧ yInv (yStm T n Y q).2 q'.1 := by
  have hn := ps_nx hq (Nat.le_refl _)
  have pr := ps_r hn.2 hn.1
  unfold yStm at e ⊢
  by_cases w1 : isW T n 3 q
  · rw [if_pos w1] at e ⊢
    have p := ps_N (a := 0) (b := Y 355 1 - 1) (ps_N (a := 0) (b := Y 355 0 - 1) pr) q' e
    exact ⟨p.1, p.2, inv_ru h p.1 (by rw [e]; trivial)⟩
  rw [if_neg w1] at e ⊢
  by_cases w2 : isW T n 4 q
  · rw [if_pos w2] at e ⊢
    have p := ps_N (a := 0) (b := 9) (ps_N (a := 0) (b := Y 355 1 - 1) (ps_N (a := 0) (b := Y 355 0 - 1) pr)) q' e
    exact ⟨p.1, p.2, inv_so h p.1 (by rw [e]; trivial)⟩
  rw [if_neg w2] at e ⊢
  by_cases w3 : isW T n 5 q
  · rw [if_pos w3] at e ⊢
    have p : q.1 ≤ q'.1 ∧ qOK T n q' := by
      have p2 := ps_N (a := 0) (b := Y 355 1 - 1) (ps_N (a := 0) (b := Y 355 0 - 1) pr)
      have e' := e
      unfold yWi at e'
      dsimp only at e'
      cases hs : (oN T n 0 (Y 355 1 - 1) (oN T n 0 (Y 355 0 - 1) (.inr (nx T n q))).1).1 with
      | inl f => rw [hs] at e'; cases e'
      | inr q2 =>
        rw [hs] at e'
        dsimp only at e'
        split at e'
        · cases e'; exact p2 q' hs
        · cases e'
    exact ⟨p.1, p.2, inv_wi h p.1 (by rw [e]; trivial)⟩
  rw [if_neg w3] at e ⊢
  by_cases w4 : isW T n 14 q
  · rw [if_pos w4] at e ⊢
    have p := ps_N (a := 0) (b := 100) pr q' e
    exact ⟨p.1, p.2, inv_sp h p.1 (by rw [e]; trivial)⟩
  rw [if_neg w4] at e ⊢
  by_cases w5 : isW T n 6 q
  · rw [if_pos w5] at e ⊢
    by_cases c5 : Y 319 46 < 5
    · rw [if_pos c5] at e ⊢
      have p := ps_N (ps_W (i := 11) (ps_N (ps_W (i := 10) (ps_N (ps_W (i := 9) (ps_N (ps_W (i := 8) (ps_N (ps_W (i := 7) (ps_Nm (Y := Y) hn.2 hn.1)))))))))) q' e
      exact ⟨p.1, p.2, inv_lo h p.1 c5 hn.2 (by rw [e]; trivial)⟩
    · rw [if_neg c5] at e; cases e
  rw [if_neg w5] at e ⊢
  by_cases w6 : isW T n 12 q
  · rw [if_pos w6] at e ⊢
    exact co_ok (by decide) hq h e
  rw [if_neg w6] at e ⊢
  by_cases w7 : isW T n 13 q
  · rw [if_pos w7] at e ⊢
    exact co_ok (by decide) hq h e
  rw [if_neg w7] at e
  cases e
end YL
section YM
variable {Lg d n v : Nat} {T : Nat → Int} {Y M M' : bz_M} {s : sT}
theorem c_stm (hd : 46 < d) (hv : bz_oV v) (hs : stC M) (ht : tb T n M) {q : pL} (hI : yInv Y q.1) (hY : cY v Y M) (h : cSt T n (.inr q) M) : w_T (eVy_readStatement Lg d v M) (fun M' => cSt T n (yStm T n Y q).1 M' ∧ fY v M M' ∧ (isOk (yStm T n Y q).1 → cY v (yStm T n Y q).2 M')) := by
  have hvv := oV_c hv
  have hX : cX T n q M := h.1
  have hq : qOK T n q := h.2
  have hO := hI.1
  refine T_le (eVy_readStatement_E (by omega) hv) ?_
  unfold yStm
  by_cases w1 : isW T n 3 q
  · rw [if_pos w1]
    refine T_seq (tx_tw1 (i := 3) (by omega) hs ht hq hX (by decide) w1) ?_
    rintro ⟨p1, M1⟩ ⟨e1, a1, b1⟩
    dsimp only at e1 a1 b1 ⊢
    rw [e1, if_neg (by decide)]
    exact T_mono (c_runs (by omega) hv (stC_fT hs b1) (tb_fT ht b1) hO (cY_T hv hY b1) (s := .inr (nx T n q)) ⟨a1, nx_ok hq⟩) (fun M' h' => ⟨h'.1, fY_trans (fY_T b1) h'.2.1, fun _ => h'.2.2⟩)
  rw [if_neg w1]
  refine T_run (tx_tw0 (i := 3) (by omega) hX (by decide) w1) ?_
  dsimp only
  rw [if_pos rfl]
  by_cases w2 : isW T n 4 q
  · rw [if_pos w2]
    refine T_seq (tx_tw1 (i := 4) (by omega) hs ht hq hX (by decide) w2) ?_
    rintro ⟨p1, M1⟩ ⟨e1, a1, b1⟩
    dsimp only at e1 a1 b1 ⊢
    rw [e1, if_neg (by decide)]
    exact T_mono (c_soil (by omega) hv (stC_fT hs b1) (tb_fT ht b1) hO (cY_T hv hY b1) (s := .inr (nx T n q)) ⟨a1, nx_ok hq⟩) (fun M' h' => ⟨h'.1, fY_trans (fY_T b1) h'.2.1, fun _ => h'.2.2⟩)
  rw [if_neg w2]
  refine T_run (tx_tw0 (i := 4) (by omega) hX (by decide) w2) ?_
  dsimp only
  rw [if_pos rfl]
  by_cases w3 : isW T n 5 q
  · rw [if_pos w3]
    refine T_seq (tx_tw1 (i := 5) (by omega) hs ht hq hX (by decide) w3) ?_
    rintro ⟨p1, M1⟩ ⟨e1, a1, b1⟩
    dsimp only at e1 a1 b1 ⊢
    rw [e1, if_neg (by decide)]
    refine T_seq (c_willow (by omega) hv (stC_fT hs b1) (tb_fT ht b1) hO hI.2.2.1 (cY_T hv hY b1) (s := .inr (nx T n q)) ⟨a1, nx_ok hq⟩) ?_
    rintro M2 h'
    exact T_some ⟨h'.1, fY_trans (fY_T b1) h'.2.1, h'.2.2⟩
  rw [if_neg w3]
  refine T_run (tx_tw0 (i := 5) (by omega) hX (by decide) w3) ?_
  dsimp only
  rw [if_pos rfl]
  by_cases w4 : isW T n 14 q
  · rw [if_pos w4]
    refine T_seq (tx_tw1 (i := 14) (by omega) hs ht hq hX (by decide) w4) ?_
    rintro ⟨p1, M1⟩ ⟨e1, a1, b1⟩
    dsimp only at e1 a1 b1 ⊢
    rw [e1, if_neg (by decide)]
    exact T_mono (c_spate (by omega) hv (stC_fT hs b1) (tb_fT ht b1) (cY_T hv hY b1) (s := .inr (nx T n q)) ⟨a1, nx_ok hq⟩) (fun M' h' => ⟨h'.1, fY_trans (fY_T b1) h'.2.1, fun _ => h'.2.2⟩)
  rw [if_neg w4]
  refine T_run (tx_tw0 (i := 14) (by omega) hX (by decide) w4) ?_
  dsimp only
  rw [if_pos rfl]
  refine T_run (tx_isWord (i := 6) hX (by decide)) ?_
  dsimp only
  by_cases w5 : isW T n 6 q
  · rw [if_pos w5, bz_b1.mpr w5, if_neg (by decide)]
    refine T_seq (T_le (eVy_readLord_E (by omega) hv) (Q := fun M' => cSt T n (if Y 319 46 < 5 then yLo T n Y (nx T n q) else (.inl (5, q.1), Y)).1 M' ∧ fY v M M' ∧ (isOk (if Y 319 46 < 5 then yLo T n Y (nx T n q) else (.inl (5, q.1), Y)).1 → cY v (if Y 319 46 < 5 then yLo T n Y (nx T n q) else (.inl (5, q.1), Y)).2 M')) ?_) (fun M' h' => T_some h')
    have y3 : M v 3 = Y 319 46 := hY.1.2.2.2.1
    by_cases c5 : Y 319 46 < 5
    · rw [if_pos (by rw [y3]; exact c5), if_pos c5]
      refine T_seq (tx_step (by omega) hs ht hq hX (by rw [w5.1]; decide)) ?_
      rintro M1 ⟨a1, b1⟩
      have h46 := hO.2.2.2.1
      obtain ⟨L, hL⟩ : ∃ L : Nat, Y 319 46 = (L : Int) := ⟨(Y 319 46).toNat, by omega⟩
      exact T_mono (c_lord1 (by omega) hv (L := L) (by omega) hL hO (stC_fT hs b1) (tb_fT ht b1) (cY_T hv hY b1) (q := nx T n q) ⟨a1, nx_ok hq⟩) (fun M' h' => ⟨h'.1, fY_trans (fY_T b1) h'.2.1, h'.2.2⟩)
    · rw [if_neg (by rw [y3]; exact c5), if_neg c5, hX.2.1]
      refine T_seq (tx_fail hX (by decide)) ?_
      rintro M1 ⟨a1, b1⟩
      exact T_some ⟨a1, fY_T b1, fun h => absurd h (fun h => h)⟩
  rw [if_neg w5, bz_b0.mpr w5, if_pos rfl]
  refine T_run (tx_isWord (i := 12) hX (by decide)) ?_
  dsimp only
  by_cases w6 : isW T n 12 q
  · rw [if_pos w6, bz_b1.mpr w6, if_neg (by decide)]
    exact c_code (w := 0) (F := eGr_readSum Lg (d - 1) (v + 10) 2) (by omega) hv (by decide) hs ht hI.2.1 hY h w6.1 (fun M1 => eGr_readSum_E (by omega) (oV_C10 hv))
  rw [if_neg w6, bz_b0.mpr w6, if_pos rfl]
  refine T_run (tx_isWord (i := 13) hX (by decide)) ?_
  dsimp only
  by_cases w7 : isW T n 13 q
  · rw [if_pos w7, bz_b1.mpr w7, if_neg (by decide)]
    exact c_code (w := 1) (F := eGr_readTest Lg (d - 1) (v + 13) 4) (by omega) hv (by decide) hs ht hI.2.1 hY h w7.1 (fun M1 => eGr_readTest_E (by omega) (oV_C13 hv))
  rw [if_neg w7, bz_b0.mpr w7, if_pos rfl, hX.2.1]
  refine T_seq (tx_fail hX (by decide)) ?_
  rintro M1 ⟨a1, b1⟩
  exact T_some ⟨a1, fY_T b1, fun h => absurd h (fun h => h)⟩
/-- what reading a valley gives: how many statements, or -1 -/
def yRes (r : sT × bz_M × Int) (x : Int) : Prop := (isOk r.1 → x = r.2.2) ∧ (¬ isOk r.1 → x = -1)
theorem c_78 (hd : 0 < d) {k : Int} (hk : k ≠ 0) (h : cSt T n s M) : w_T (eVy_read_78 Lg d k M) (fun p => ((isOk s → p.1 = k) ∧ (¬ isOk s → p.1 = -1)) ∧ p.2 = M) := by
  refine T_le (eVy_read_78_E hd) ?_
  rw [if_neg hk]
  cases s with
  | inl e =>
    have h : cXf n e.1 (e.2 : Int) M := h
    rw [if_neg (by rw [h.2.2.2.1]; exact h.2.2.2.2.1)]
    exact T_some ⟨⟨fun h => absurd h (fun h => h), fun _ => rfl⟩, rfl⟩
  | inr q =>
    rw [if_pos h.1.2.2.2.2.2.1]
    exact T_some ⟨⟨fun _ => rfl, fun h => absurd trivial h⟩, rfl⟩
theorem c_loop (hd : 48 < d) (hv : bz_oV v) : ∀ (f : Nat) (k : Int) (Y : bz_M) (s : sT) (M : bz_M), 1 ≤ k → k + f = 82 → stC M → tb T n M → cSt T n s M → (∀ q, s = .inr q → yInv Y q.1 ∧ cY v Y M) → (isOk s → k ≤ 80) → w_T (eVy_read_10 Lg d v k M) (fun p => yRes (yLp T n f k Y s) p.1 ∧ cSt T n (yLp T n f k Y s).1 p.2 ∧ fY v M p.2 ∧ (isOk (yLp T n f k Y s).1 → cY v (yLp T n f k Y s).2.1 p.2))
  | 0, k, Y, s, M, hk, hf, hs, ht, h, hI, hok => by
    have hb : ¬ isOk s := fun e => by have := hok e; omega
    refine T_le (eVy_read_10_E (by omega) hv) ?_
    rw [if_pos (by omega)]
    refine T_mono (c_78 (by omega) (by omega) h) ?_
    rintro ⟨p1, p2⟩ ⟨e1, e2⟩
    dsimp only at e1 e2 ⊢
    subst e2
    exact ⟨e1, h, fun _ _ _ _ => rfl, fun e => absurd e hb⟩
  | f + 1, k, Y, s, M, hk, hf, hs, ht, h, hI, hok => by
    refine T_le (eVy_read_10_E (by omega) hv) ?_
    cases s with
    | inl e =>
      have h' : cXf n e.1 (e.2 : Int) M := h
      have fin : w_T (eVy_read_78 Lg d k M) (fun p => yRes (yLp T n (f + 1) k Y (.inl e)) p.1 ∧ cSt T n (yLp T n (f + 1) k Y (.inl e)).1 p.2 ∧ fY v M p.2 ∧ (isOk (yLp T n (f + 1) k Y (.inl e)).1 → cY v (yLp T n (f + 1) k Y (.inl e)).2.1 p.2)) := by
        refine T_mono (c_78 (by omega) (by omega) h) ?_
        rintro ⟨p1, p2⟩ ⟨e1, e2⟩
        dsimp only at e1 e2 ⊢
        subst e2
        exact ⟨e1, h, fun _ _ _ _ => rfl, fun e => absurd e (fun h => h)⟩
      refine T_ite (fun _ => fin) (fun _ => ?_)
      rw [if_neg (by rw [h'.2.2.2.1]; exact h'.2.2.2.2.1)]
      exact fin
    | inr q =>
      have hX : cX T n q M := h.1
      have hq : qOK T n q := h.2
      have hk80 := hok trivial
      obtain ⟨hIq, hY⟩ := hI q rfl
      rw [if_neg (by omega), if_pos hX.2.2.2.2.2.1, hX.2.2.2.1]
      rw [show yLp T n (f + 1) k Y (.inr q) = (if n ≤ q.1 then (.inr q, Y, k) else if k = 80 then (.inl (5, q.1), Y, k) else yLp T n f (k + 1) (yStm T n Y q).2 (oS T n 59 (yStm T n Y q).1)) from rfl]
      by_cases c0 : n ≤ q.1
      · rw [if_pos (tD_0.mpr c0), if_pos c0]
        refine T_mono (c_78 (by omega) (by omega) h) ?_
        rintro ⟨p1, p2⟩ ⟨e1, e2⟩
        dsimp only at e1 e2 ⊢
        subst e2
        exact ⟨e1, h, fun _ _ _ _ => rfl, fun _ => hY⟩
      · rw [if_neg (fun e => c0 (tD_0.mp e)), if_neg c0]
        by_cases c8 : k = 80
        · rw [if_pos c8, if_pos c8, hX.2.1]
          refine T_seq (tx_fail hX (by decide)) ?_
          rintro M1 ⟨a1, b1⟩
          refine T_seq (tx_ns_f (by omega) a1) ?_
          rintro M2 ⟨a2, b2⟩
          rw [c8, w32_id (by decide) (by decide)]
          refine T_le (eVy_read_10_E (by omega) hv) ?_
          rw [if_pos (by decide)]
          refine T_mono (c_78 (T := T) (s := .inl (5, q.1)) (by omega) (by decide) a2) ?_
          rintro ⟨p1, p2⟩ ⟨e1, e2⟩
          dsimp only at e1 e2 ⊢
          subst e2
          exact ⟨⟨fun h => absurd h (fun h => h), fun h => e1.2 h⟩, a2, fY_T (fT_trans b1 b2), fun h => absurd h (fun h => h)⟩
        · rw [if_neg c8, if_neg (by omega), if_neg c8]
          refine T_seq (c_stm (by omega) hv hs ht hIq hY h) ?_
          rintro M1 ⟨a1, b1, y1⟩
          refine T_seq (cs_S (by omega) (fY_st hv b1 hs) (fY_tb hv b1 ht) (by decide) a1) ?_
          rintro M2 ⟨a2, b2⟩
          have f2 := fY_trans b1 (fY_T b2)
          rw [w32_id (by omega) (by omega)]
          refine T_mono (c_loop hd hv f (k + 1) (yStm T n Y q).2 (oS T n 59 (yStm T n Y q).1) M2 (by omega) (by omega) (fY_st hv f2 hs) (fY_tb hv f2 ht) a2 (fun q2 e2 => ?_) (fun _ => by omega)) ?_
          · have ok1 : isOk (yStm T n Y q).1 := ok_S (c := 59) (by rw [e2]; trivial)
            cases hst : (yStm T n Y q).1 with
            | inl e => rw [hst] at ok1; exact absurd ok1 (fun h => h)
            | inr q1 =>
              have so := stm_ok hq hIq hst
              have pp := ps_S (c := 59) (ps_r so.2.1 (Nat.le_refl _)) q2 (by rw [← hst]; exact e2)
              exact ⟨inv_z so.2.2 pp.1, cY_T hv (y1 ok1) b2⟩
          · rintro ⟨p1, p2⟩ ⟨x1, x2, x3, x4⟩
            exact ⟨x1, x2, fY_trans f2 x3, x4⟩
end YM

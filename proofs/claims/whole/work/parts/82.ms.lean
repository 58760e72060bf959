/-! THE REFERENCE READS SUMS -/
noncomputable def sK (Lg d : Nat) (b0 : Int) (p : Int × bz_M) : Option bz_M := if p.1 = 0 then eMo_qSums_15 Lg d b0 0 p.2 else eMo_qSums_15 Lg d b0 1 p.2
/-- behind a part; ahead of a part -/
def hG (Lg d : Nat) (b0 : Int) (Q : bz_M → Prop) (M : bz_M) : Prop := w_T (eMo_qGoesOn Lg (d - 1) M) (fun p => w_T (sK Lg d b0 p) Q)
def hH (Lg d : Nat) (b0 : Int) (Q : bz_M → Prop) (M : bz_M) : Prop := w_T (eMo_qPartTold_2 Lg (d - 1) 1 M) (fun M1 => w_T (if (M1 319 5) = 0 then ((eMo_qGoesOn Lg (d - 1) M1).bind (fun p1 => (if p1.1 = 0 then (eMo_qSums_15 Lg d b0 0 p1.2) else (eMo_qSums_15 Lg d b0 1 p1.2)))) else (eMo_qSums_15 Lg d b0 0 M1)) Q)
section MS
variable {Lg d n : Nat} {T : Nat → Int} {w : Int} {M0 : bz_M} {b b0 : Int}
theorem s_15 {Q : bz_M → Prop} {M : bz_M} (hd : 1 < d) (h5 : M 319 5 = 0) (h : hH Lg d b0 Q M) : w_T (eMo_qSums_15 Lg d b0 1 M) Q := by
  refine T_le (eMo_qSums_15_E (by omega)) ?_
  rw [if_neg (by decide), if_pos h5]
  exact T_lebd eMo_qPartTold_E (T_bind h)
theorem s_f {Q : bz_M → Prop} {M : bz_M} {k pl : Int} (hd : 0 < d) (h : mGf M0 k pl M) (hQ : ∀ M', mGf M0 k pl M' → Q M') : w_T (eMo_qSums_15 Lg d b0 0 M) Q := by
  refine T_le (eMo_qSums_15_E hd) ?_
  rw [if_pos rfl]
  refine T_le (eMo_qSums_53_E hd) ?_
  rw [if_neg (by rw [h.2.1.1]; exact h.2.1.2.1)]
  refine T_some (hQ _ ⟨gF_trans h.1 (gF_k (by decide)), ⟨?_, h.2.1.2.1, ?_⟩, ?_⟩)
  · rw [bz_up_nk (by decide)]; exact h.2.1.1
  · rw [bz_up_nk (by decide)]; exact h.2.1.2.2
  · rw [bz_up_nk (by decide)]; exact h.2.2
theorem h_f {Q : bz_M → Prop} {M : bz_M} {k pl : Int} (hd : 0 < d) (h : mGf M0 k pl M) (hQ : ∀ M', mGf M0 k pl M' → Q M') : w_T (if (M 319 5) = 0 then ((eMo_qGoesOn Lg (d - 1) M).bind (fun p1 => (if p1.1 = 0 then (eMo_qSums_15 Lg d b0 0 p1.2) else (eMo_qSums_15 Lg d b0 1 p1.2)))) else (eMo_qSums_15 Lg d b0 0 M)) Q := by
  rw [if_neg (by rw [h.2.1.1]; exact h.2.1.2.1)]
  exact s_f hd h hQ
theorem h_g {Q : bz_M → Prop} {M : bz_M} (h5 : M 319 5 = 0) (h : hG Lg d b0 Q M) : w_T (if (M 319 5) = 0 then ((eMo_qGoesOn Lg (d - 1) M).bind (fun p1 => (if p1.1 = 0 then (eMo_qSums_15 Lg d b0 0 p1.2) else (eMo_qSums_15 Lg d b0 1 p1.2)))) else (eMo_qSums_15 Lg d b0 0 M)) Q := by
  rw [if_pos h5]
  exact T_bind h
theorem k_1 {Q : bz_M → Prop} {M : bz_M} (h : w_T (eMo_qSums_15 Lg d b0 1 M) Q) : w_T (sK Lg d b0 (1, M)) Q := by
  unfold sK; rw [if_neg (show ¬ (1 : Int) = 0 by decide)]; exact h
theorem k_0 {Q : bz_M → Prop} {M : bz_M} (h : w_T (eMo_qSums_15 Lg d b0 0 M) Q) : w_T (sK Lg d b0 (0, M)) Q := by
  unfold sK; rw [if_pos (show (0 : Int) = 0 from rfl)]; exact h
abbrev ops4 (P : List Int) : Prop := ∀ p ∈ P, 1 ≤ p ∧ p ≤ 4
theorem ops4_b {P : List Int} (h : ops4 P) : ∀ p ∈ P, ¬ (20 ≤ p ∧ p ≤ 24) := fun p hp => by have := h p hp; omega
/-- a bracket closes -/
theorem g_43 {q : pL} {C P O W : List Int} {o z : Nat} {x : Int} {M : bz_M} {Q : bz_M → Prop} (hd : 4 < d) (ht0 : mt T n M0) (hz : z ≤ q.1) (hx : x = 20 ∨ x = 23 ∨ x = 24) (hP : ops4 P) (hO : ∀ p ∈ O, 60 ≤ p) (ho : o + O.length + 1 ≤ 6) (hW : W.headD 0 < 60) (hb : b ≤ (W.length : Int)) (hb0 : 0 ≤ b) (h : mG T n M0 q C (P ++ x :: (O ++ W)) (o + O.length + 1) b z M) (hm : M 319 2 = (q.1 : Int)) (hs : isS T n 41 q) (hQ : ∀ M', mG T n M0 (nx T n q) (C ++ P ++ (if x = 20 then [] else if x = 23 then [5] else [6]) ++ O) W o b (nx T n q).1 M' → w_T (eMo_qGoesOn Lg d M') (fun p => w_T (sK Lg (d + 1) b0 p) Q)) : w_T (eMo_qGoesOn_43 Lg d M) (fun p => w_T (sK Lg (d + 1) b0 p) Q) := by
  have hq := mX_qOK h.2.1
  have hn := ht0.1
  have hq1 := hq.1
  have gt := nx_gt hq (by rw [hs.1]; decide)
  have gtn := (nx_ok hq).1
  refine T_le (eMo_qGoesOn_43_E (by omega)) ?_
  rw [hm, w32_id (by omega) (by omega)]
  have hY : mY T n q M := ⟨h.2.1, hm⟩
  have h1 : mG T n M0 (nx T n q) C (P ++ x :: (O ++ W)) (o + O.length + 1) b z (bz_up M 319 2 ((q.1 : Int) + 1)) := mG_X h (gX_up (by decide)) (mX_nxs hY hs.1 (bz_up_eq _ _ _ _) (fun k hk => bz_up_nk (by omega) _))
  refine T_seq (g_dtb (by omega) (by omega) (ops4_b hP) (by omega) (by simp; omega) h1) ?_
  intro M1 h2
  have ht := g_top h2
  have hl : ((O ++ W).length : Int) = (O.length : Int) + (W.length : Int) := by simp
  rw [ht.1, w32_id (z := ((O ++ W).length : Int) + 1 - 1) (by omega) (by omega), if_pos (by omega), show (((O ++ W).length : Int) + 1 - 1).toNat = (O ++ W).length by omega, ht.2.1, h2.2.2.2.2.1, show ((O ++ W).length : Int) + 1 - 1 = ((O ++ W).length : Int) by omega, show bz_w32 (((o + O.length + 1 : Nat) : Int) - 1) = ((o + O.length : Nat) : Int) by rw [w32_id (by omega) (by omega)]; omega]
  have h3 : mG T n M0 (nx T n q) (C ++ P) (O ++ W) (o + O.length) b z (bz_up (bz_up M1 319 123 ((O ++ W).length : Int)) 319 124 ((o + O.length : Nat) : Int)) := g_o (g_pop h2)
  rcases hx with rfl | rfl | rfl
  · rw [if_pos rfl]
    refine T_seq (g_ends (by omega) (by omega) hW hb hb0 (by omega) O _ _ hO (by omega) h3) ?_
    intro M2 h4
    rw [go_eq]
    refine hQ M2 ?_
    rw [if_pos rfl, List.append_nil]
    exact mG_z h4 (by omega)
  · rw [if_neg (by decide), if_pos rfl]
    refine T_seq (g_code h3 (by omega)) ?_
    intro M2 h4
    refine T_seq (g_ends (by omega) (by omega) hW hb hb0 (by omega) O _ _ hO (by omega) h4) ?_
    intro M3 h5
    rw [go_eq]
    refine hQ M3 ?_
    rw [if_neg (by decide), if_pos rfl]
    exact mG_z h5 (by omega)
  · rw [if_neg (by decide), if_neg (by decide)]
    refine T_seq (g_code h3 (by omega)) ?_
    intro M2 h4
    refine T_seq (g_ends (by omega) (by omega) hW hb hb0 (by omega) O _ _ hO (by omega) h4) ?_
    intro M3 h5
    rw [go_eq]
    refine hQ M3 ?_
    rw [if_neg (by decide), if_neg (by decide)]
    exact mG_z h5 (by omega)
/-- at G: a bracket that may close closes -/
theorem g_close_in {q : pL} {C P O W : List Int} {o z : Nat} {x : Int} {M : bz_M} {Q : bz_M → Prop} (hd : 6 < d) (ht0 : mt T n M0) (hz : z ≤ q.1) (hx : x = 20 ∨ x = 23 ∨ x = 24) (hP : ops4 P) (hO : ∀ p ∈ O, 60 ≤ p) (ho : o + O.length + 1 ≤ 6) (hW : W.headD 0 < 60) (hb : b ≤ (W.length : Int)) (hb0 : 0 ≤ b) (h : mG T n M0 q C (P ++ x :: (O ++ W)) (o + O.length + 1) b z M) (hs : isS T n 41 q) (hQ : ∀ M', mG T n M0 (nx T n q) (C ++ P ++ (if x = 20 then [] else if x = 23 then [5] else [6]) ++ O) W o b (nx T n q).1 M' → hG Lg d b0 Q M') : hG Lg d b0 Q M := by
  have hn := ht0.1
  have hq := mX_qOK h.2.1
  have hq1 := hq.1
  unfold hG
  refine T_le (eMo_qGoesOn_E (by omega)) ?_
  rw [if_pos h.2.1.2.2.2.2.2.1]
  refine T_seq (mo_look (mG_mt ht0 h) h.2.1) ?_
  rintro ⟨p1, p2⟩ ⟨e1, e2, e3⟩
  dsimp only at e1 e2 e3 ⊢
  have h1 := mG_X h (gX_2 e3) e2.1
  rw [e1, if_pos ((lk_S (by decide) (by decide) (by decide)).mpr hs)]
  have hbr : ∀ d', 0 < d' → eMo_qBracket Lg d' p2 = some (x, p2) := fun d' hd' => g_brk hd' (by omega) (ops4_b hP) (by omega) (by simp; omega) hb0 h1
  have fin : w_T (eMo_qGoesOn_43 Lg (d - 1) p2) (fun p => w_T (sK Lg d b0 p) Q) := by
    have := g_43 (Lg := Lg) (d := d - 1) (b0 := b0) (Q := Q) (by omega) ht0 hz hx hP hO ho hW hb hb0 h1 e2.2 hs
    rw [show d - 1 + 1 = d by omega] at this
    exact this hQ
  refine T_run (hbr _ (by omega)) ?_
  dsimp only
  rcases hx with rfl | rfl | rfl
  · rw [if_pos rfl]; exact fin
  · rw [if_neg (by decide)]
    refine T_run (hbr _ (by omega)) ?_
    dsimp only
    rw [if_pos rfl]; exact fin
  · rw [if_neg (by decide)]
    refine T_run (hbr _ (by omega)) ?_
    dsimp only
    rw [if_neg (by decide)]
    refine T_run (hbr _ (by omega)) ?_
    dsimp only
    rw [if_pos rfl]; exact fin
/-- at G: nothing closes: on to the signs -/
theorem g_on {q : pL} {C W : List Int} {o z : Nat} {M : bz_M} {Q : bz_M → Prop} (hd : 6 < d) (ht0 : mt T n M0) (h : mG T n M0 q C W o b z M) (hcl : isS T n 41 q → ∃ x, (∀ M', mG T n M0 q C W o b z M' → ∀ d', 0 < d' → eMo_qBracket Lg d' M' = some (x, M')) ∧ x ≠ 20 ∧ x ≠ 23 ∧ x ≠ 24) (hQ : ∀ M', mG T n M0 q C W o b z M' → M' 319 2 = (q.1 : Int) → w_T (eMo_qGoesOn_122 Lg (d - 1) M') (fun p => w_T (sK Lg d b0 p) Q)) : hG Lg d b0 Q M := by
  unfold hG
  refine T_le (eMo_qGoesOn_E (by omega)) ?_
  rw [if_pos h.2.1.2.2.2.2.2.1]
  refine T_seq (mo_look (mG_mt ht0 h) h.2.1) ?_
  rintro ⟨p1, p2⟩ ⟨e1, e2, e3⟩
  dsimp only at e1 e2 e3 ⊢
  have h1 := mG_X h (gX_2 e3) e2.1
  rw [e1]
  by_cases s : isS T n 41 q
  · obtain ⟨x, hbr, n1, n2, n3⟩ := hcl s
    rw [if_pos ((lk_S (by decide) (by decide) (by decide)).mpr s)]
    refine T_run (hbr p2 h1 _ (by omega)) ?_
    dsimp only
    rw [if_neg n1]
    refine T_run (hbr p2 h1 _ (by omega)) ?_
    dsimp only
    rw [if_neg n2]
    refine T_run (hbr p2 h1 _ (by omega)) ?_
    dsimp only
    rw [if_neg n3]
    exact hQ p2 h1 e2.2
  · rw [if_neg (fun e => s ((lk_S (by decide) (by decide) (by decide)).mp e))]
    exact hQ p2 h1 e2.2
theorem g_162 {q : pL} {W : List Int} {o z : Nat} {x : Int} (hd : 1 < d) (hz : z ≤ 1649) (hW : W.headD 0 ≠ 3 ∧ W.headD 0 ≠ 4) : ∀ (P C : List Int) (M : bz_M), (∀ p ∈ P, p = 3 ∨ p = 4) → mG T n M0 q C (P ++ W) o b z M → w_T (eMo_qGoesOn_162 Lg d x M) (fun p => p.1 = 1 ∧ mG T n M0 q (C ++ P) (x :: W) o b (z + 1) p.2)
  | [], C, M, hP, h => by
    have h : mG T n M0 q C W o b z M := h
    refine T_le (eMo_qGoesOn_162_E (by omega)) ?_
    refine T_run (g_isOn h (by omega) (by decide)) ?_
    dsimp only
    rw [bz_b0.mpr (show ¬ W.headD 0 = 3 from hW.1), if_pos rfl]
    refine T_run (g_isOn h (by omega) (by decide)) ?_
    dsimp only
    have e4 : M 319 123 = (W.length : Int) := h.2.2.2.1.1
    have hl : C.length + W.length ≤ z := h.2.2.2.2.2.2
    rw [bz_b0.mpr (show ¬ W.headD 0 = 4 from hW.2), if_pos rfl, if_pos (by rw [e4]; omega), e4, Int.toNat_natCast, w32_id (by omega) (by omega), List.append_nil]
    exact T_some ⟨rfl, g_push h (by omega)⟩
  | y :: P, C, M, hP, h => by
    have rc1 : w_T ((eMo_qDrops Lg (d - 1) M).bind (fun M1 => eMo_qGoesOn_162 Lg d x M1)) (fun p => p.1 = 1 ∧ mG T n M0 q (C ++ y :: P) (x :: W) o b (z + 1) p.2) := by
      refine T_seq (g_drops (by omega) h (by omega)) ?_
      intro M1 h1
      refine T_mono (g_162 hd hz hW P (C ++ [y]) M1 (fun p hp => hP p (by simp [hp])) h1) (fun p hp => ⟨hp.1, ?_⟩)
      have := hp.2
      rw [List.append_assoc] at this
      exact this
    refine T_le (eMo_qGoesOn_162_E (by omega)) ?_
    refine T_run (g_isOn h (by omega) (by decide)) ?_
    dsimp only
    by_cases c : y = 3
    · rw [bz_b1.mpr (show (y :: P ++ W).headD 0 = 3 from c), if_neg (by decide)]
      exact rc1
    · rw [bz_b0.mpr (show ¬ (y :: P ++ W).headD 0 = 3 from c), if_pos rfl]
      refine T_run (g_isOn h (by omega) (by decide)) ?_
      dsimp only
      rw [bz_b1.mpr (show (y :: P ++ W).headD 0 = 4 by have := hP y (by simp); show y = 4; omega), if_neg (by decide)]
      exact rc1
theorem g_247 {q : pL} {W : List Int} {o z : Nat} {x : Int} (hd : 1 < d) (hz : z ≤ 1649) (hW : ¬ (1 ≤ W.headD 0 ∧ W.headD 0 ≤ 4)) : ∀ (P C : List Int) (M : bz_M), ops4 P → mG T n M0 q C (P ++ W) o b z M → w_T (eMo_qGoesOn_247 Lg d x M) (fun p => p.1 = 1 ∧ mG T n M0 q (C ++ P) (x :: W) o b (z + 1) p.2)
  | [], C, M, hP, h => by
    have h : mG T n M0 q C W o b z M := h
    refine T_le (eMo_qGoesOn_247_E (by omega)) ?_
    refine T_run (g_isOn h (by omega) (by decide)) ?_
    dsimp only
    rw [bz_b0.mpr (show ¬ W.headD 0 = 3 from fun e => hW (by rw [show W.headD 0 = 3 from e]; decide)), if_pos rfl]
    refine T_run (g_isOn h (by omega) (by decide)) ?_
    dsimp only
    rw [bz_b0.mpr (show ¬ W.headD 0 = 4 from fun e => hW (by rw [show W.headD 0 = 4 from e]; decide)), if_pos rfl]
    refine T_run (g_isOn h (by omega) (by decide)) ?_
    dsimp only
    rw [bz_b0.mpr (show ¬ W.headD 0 = 1 from fun e => hW (by rw [show W.headD 0 = 1 from e]; decide)), if_pos rfl]
    refine T_run (g_isOn h (by omega) (by decide)) ?_
    dsimp only
    have e4 : M 319 123 = (W.length : Int) := h.2.2.2.1.1
    have hl : C.length + W.length ≤ z := h.2.2.2.2.2.2
    rw [bz_b0.mpr (show ¬ W.headD 0 = 2 from fun e => hW (by rw [show W.headD 0 = 2 from e]; decide)), if_pos rfl, if_pos (by rw [e4]; omega), e4, Int.toNat_natCast, w32_id (by omega) (by omega), List.append_nil]
    exact T_some ⟨rfl, g_push h (by omega)⟩
  | y :: P, C, M, hP, h => by
    have rc1 : w_T ((eMo_qDrops Lg (d - 1) M).bind (fun M1 => eMo_qGoesOn_247 Lg d x M1)) (fun p => p.1 = 1 ∧ mG T n M0 q (C ++ y :: P) (x :: W) o b (z + 1) p.2) := by
      refine T_seq (g_drops (by omega) h (by omega)) ?_
      intro M1 h1
      refine T_mono (g_247 hd hz hW P (C ++ [y]) M1 (fun p hp => hP p (by simp [hp])) h1) (fun p hp => ⟨hp.1, ?_⟩)
      have := hp.2
      rw [List.append_assoc] at this
      exact this
    have hy := hP y (by simp)
    refine T_le (eMo_qGoesOn_247_E (by omega)) ?_
    refine T_run (g_isOn h (by omega) (by decide)) ?_
    dsimp only
    by_cases c : y = 3
    · rw [bz_b1.mpr (show (y :: P ++ W).headD 0 = 3 from c), if_neg (by decide)]
      exact rc1
    rw [bz_b0.mpr (show ¬ (y :: P ++ W).headD 0 = 3 from c), if_pos rfl]
    refine T_run (g_isOn h (by omega) (by decide)) ?_
    dsimp only
    by_cases c4 : y = 4
    · rw [bz_b1.mpr (show (y :: P ++ W).headD 0 = 4 from c4), if_neg (by decide)]
      exact rc1
    rw [bz_b0.mpr (show ¬ (y :: P ++ W).headD 0 = 4 from c4), if_pos rfl]
    refine T_run (g_isOn h (by omega) (by decide)) ?_
    dsimp only
    by_cases c1 : y = 1
    · rw [bz_b1.mpr (show (y :: P ++ W).headD 0 = 1 from c1), if_neg (by decide)]
      exact rc1
    rw [bz_b0.mpr (show ¬ (y :: P ++ W).headD 0 = 1 from c1), if_pos rfl]
    refine T_run (g_isOn h (by omega) (by decide)) ?_
    dsimp only
    rw [bz_b1.mpr (show (y :: P ++ W).headD 0 = 2 by show y = 2; omega), if_neg (by decide)]
    exact rc1
/-- at G: a sign that joins: on to the next part -/
theorem g_mul {q : pL} {C P W : List Int} {o : Nat} {k : Int} {M : bz_M} {Q : bz_M → Prop} (hd : 6 < d) (ht0 : mt T n M0) (hk : opM T n q = some k) (hP : ∀ p ∈ P, p = 3 ∨ p = 4) (hW : W.headD 0 ≠ 3 ∧ W.headD 0 ≠ 4) (h : mG T n M0 q C (P ++ W) o b q.1 M) (hQ : ∀ M', mG T n M0 (nx T n q) (C ++ P) (k :: W) o b (nx T n q).1 M' → hH Lg d b0 Q M') : hG Lg d b0 Q M := by
  have hn := ht0.1
  have hq := mX_qOK h.2.1
  have hq1 := hq.1
  have hk3 := (opM_in hk).2
  have gt := nx_gt hq (by rw [hk3]; decide)
  have hlt := tK_lt (T := T) (n := n) (p := q.1) (by rw [hk3]; decide)
  refine g_on hd ht0 h (fun s => ?_) (fun M1 h1 hm => ?_)
  · exfalso
    unfold opM at hk
    rw [if_neg (fun e => by have := e.2; have := s.2; omega), if_neg (fun e => by have := e.2; have := s.2; omega)] at hk
    cases hk
  have fin : ∀ p2, mX T n (nx T n q) p2 → gX M1 p2 → w_T (eMo_qGoesOn_162 Lg (d - 1) k p2) (fun p => w_T (sK Lg d b0 p) Q) := by
    intro p2 e2 e3
    refine T_mono (g_162 (x := k) (by omega) (by omega) hW P C p2 hP (mG_X h1 e3 e2)) ?_
    rintro ⟨r1, r2⟩ ⟨e4, e5⟩
    dsimp only at e4 e5
    rw [e4]
    refine k_1 (s_15 (by omega) e5.2.1.2.2.2.2.2.1 (hQ r2 (mG_z e5 (by omega))))
  refine T_le (eMo_qGoesOn_122_E (by omega)) ?_
  unfold opM at hk
  by_cases c1 : isS T n 42 q
  · rw [if_pos c1] at hk
    cases hk
    refine T_seq (mo_ts1 (by omega) (mG_mt ht0 h1) h1.2.1 (by decide) (by decide) (by decide) c1) ?_
    rintro ⟨p1, p2⟩ ⟨e1, e2, e3, e4⟩
    dsimp only at e1 e2 e3 e4 ⊢
    have hb := (mG_mt ht0 h1).2 q.1 (tK_lt (by rw [hk3]; decide))
    rw [e1, if_neg (by decide), if_pos (by rw [e4, w32_id (by omega) (by omega)]; omega), if_pos (by rw [e4, w32_id (by omega) (by omega), show ((q.1 : Int) + 1 - 1).toNat = q.1 by omega, e3.1 320 (by decide), hb.1]; exact c1.2)]
    exact fin p2 e2 e3
  · rw [if_neg c1] at hk
    by_cases c2 : isS T n 47 q
    · rw [if_pos c2] at hk
      cases hk
      refine T_seq (mo_ts0 (by omega) (mG_mt ht0 h1) h1.2.1 (by decide) (by decide) (by decide) c1) ?_
      rintro ⟨p1, p2⟩ ⟨e1, e2, e3⟩
      dsimp only at e1 e2 e3 ⊢
      rw [e1, if_pos rfl]
      have h2 := mG_X h1 (gX_2 e3) e2.1
      refine T_seq (mo_ts1 (by omega) (mG_mt ht0 h2) h2.2.1 (by decide) (by decide) (by decide) c2) ?_
      rintro ⟨r1, r2⟩ ⟨f1, f2, f3, f4⟩
      dsimp only at f1 f2 f3 f4 ⊢
      have hb := (mG_mt ht0 h2).2 q.1 (tK_lt (by rw [hk3]; decide))
      rw [f1, if_neg (by decide), if_pos (by rw [f4, w32_id (by omega) (by omega)]; omega), if_neg (by rw [f4, w32_id (by omega) (by omega), show ((q.1 : Int) + 1 - 1).toNat = q.1 by omega, f3.1 320 (by decide), hb.1, c2.2]; decide)]
      exact fin r2 f2 (gX_trans (gX_2 e3) f3)
    · rw [if_neg c2] at hk
      cases hk
/-- at G: neither * nor / -/
theorem g_nomul {q : pL} {C W : List Int} {o z d' : Nat} {M : bz_M} {R : Int × bz_M → Prop} (hd : 1 < d') (ht0 : mt T n M0) (hk : opM T n q = none) (h : mG T n M0 q C W o b z M) {F : bz_M → Option (Int × bz_M)} {A B : Int × bz_M → Option (Int × bz_M)} (hQ : ∀ M', mG T n M0 q C W o b z M' → w_T (F M') R) : w_T ((eMo_takesSign Lg (d' - 1) 42 M).bind (fun p1 => if p1.1 = 0 then ((eMo_takesSign Lg (d' - 1) 47 p1.2).bind (fun p2 => if p2.1 = 0 then F p2.2 else B p2)) else A p1)) R := by
  have c1 : ¬ isS T n 42 q := fun e => by unfold opM at hk; rw [if_pos e] at hk; cases hk
  have c2 : ¬ isS T n 47 q := fun e => by unfold opM at hk; rw [if_neg c1, if_pos e] at hk; cases hk
  refine T_seq (mo_ts0 (by omega) (mG_mt ht0 h) h.2.1 (by decide) (by decide) (by decide) c1) ?_
  rintro ⟨p1, p2⟩ ⟨e1, e2, e3⟩
  dsimp only at e1 e2 e3 ⊢
  rw [e1, if_pos rfl]
  have h2 := mG_X h (gX_2 e3) e2.1
  refine T_seq (mo_ts0 (by omega) (mG_mt ht0 h2) h2.2.1 (by decide) (by decide) (by decide) c2) ?_
  rintro ⟨r1, r2⟩ ⟨f1, f2, f3⟩
  dsimp only at f1 f2 f3 ⊢
  rw [f1, if_pos rfl]
  exact hQ r2 (mG_X h2 (gX_2 f3) f2.1)
theorem g_add {q : pL} {C P W : List Int} {o : Nat} {k : Int} {M : bz_M} {Q : bz_M → Prop} (hd : 6 < d) (ht0 : mt T n M0) (hk : opA T n q = some k) (hP : ops4 P) (hW : ¬ (1 ≤ W.headD 0 ∧ W.headD 0 ≤ 4)) (h : mG T n M0 q C (P ++ W) o b q.1 M) (hQ : ∀ M', mG T n M0 (nx T n q) (C ++ P) (k :: W) o b (nx T n q).1 M' → hH Lg d b0 Q M') : hG Lg d b0 Q M := by
  have hn := ht0.1
  have hq := mX_qOK h.2.1
  have hq1 := hq.1
  have hk3 := (opA_in hk).2
  have gt := nx_gt hq (by rw [hk3]; decide)
  have hlt := tK_lt (T := T) (n := n) (p := q.1) (by rw [hk3]; decide)
  have hsg : T q.1 = 43 ∨ T q.1 = 45 := by
    unfold opA at hk
    split at hk
    · rename_i e; exact Or.inl e.2
    · split at hk
      · rename_i e; exact Or.inr e.2
      · cases hk
  have hnm : opM T n q = none := by
    unfold opM
    rw [if_neg (fun e => by have := e.2; omega), if_neg (fun e => by have := e.2; omega)]
  refine g_on hd ht0 h (fun s => by have := s.2; omega) (fun M1 h1 hm => ?_)
  have fin : ∀ p2, mX T n (nx T n q) p2 → gX M1 p2 → w_T (eMo_qGoesOn_247 Lg (d - 1) k p2) (fun p => w_T (sK Lg d b0 p) Q) := by
    intro p2 e2 e3
    refine T_mono (g_247 (x := k) (by omega) (by omega) hW P C p2 hP (mG_X h1 e3 e2)) ?_
    rintro ⟨r1, r2⟩ ⟨e4, e5⟩
    dsimp only at e4 e5
    rw [e4]
    refine k_1 (s_15 (by omega) e5.2.1.2.2.2.2.2.1 (hQ r2 (mG_z e5 (by omega))))
  refine T_le (eMo_qGoesOn_122_E (by omega)) ?_
  have c1 : ¬ isS T n 42 q := fun e => by have := e.2; omega
  have c2 : ¬ isS T n 47 q := fun e => by have := e.2; omega
  refine T_seq (mo_ts0 (by omega) (mG_mt ht0 h1) h1.2.1 (by decide) (by decide) (by decide) c1) ?_
  rintro ⟨p1, p2⟩ ⟨e1, e2, e3⟩
  dsimp only at e1 e2 e3 ⊢
  rw [e1, if_pos rfl]
  have h2 := mG_X h1 (gX_2 e3) e2.1
  refine T_seq (mo_ts0 (by omega) (mG_mt ht0 h2) h2.2.1 (by decide) (by decide) (by decide) c2) ?_
  rintro ⟨r1, r2⟩ ⟨f1, f2, f3⟩
  dsimp only at f1 f2 f3 ⊢
  rw [f1, if_pos rfl]
  have h3 := mG_X h2 (gX_2 f3) f2.1
  have hb := (mG_mt ht0 h3).2 q.1 (tK_lt (by rw [hk3]; decide))
  unfold opA at hk
  by_cases c3 : isS T n 43 q
  · rw [if_pos c3] at hk
    cases hk
    refine T_seq (mo_ts1 (by omega) (mG_mt ht0 h3) h3.2.1 (by decide) (by decide) (by decide) c3) ?_
    rintro ⟨s1, s2⟩ ⟨k1, k2, k3, k4⟩
    dsimp only at k1 k2 k3 k4 ⊢
    rw [k1, if_neg (by decide), if_pos (by rw [k4, w32_id (by omega) (by omega)]; omega), if_pos (by rw [k4, w32_id (by omega) (by omega), show ((q.1 : Int) + 1 - 1).toNat = q.1 by omega, k3.1 320 (by decide), hb.1]; exact c3.2)]
    exact fin s2 k2 (gX_trans (gX_2 (g2_trans e3 f3)) k3)
  · rw [if_neg c3] at hk
    have c4 : isS T n 45 q := ⟨hk3, by
      by_cases e : T q.1 = 43
      · exact absurd ⟨hk3, e⟩ c3
      · omega⟩
    rw [if_pos c4] at hk
    cases hk
    refine T_seq (mo_ts0 (by omega) (mG_mt ht0 h3) h3.2.1 (by decide) (by decide) (by decide) c3) ?_
    rintro ⟨s1, s2⟩ ⟨k1, k2, k3⟩
    dsimp only at k1 k2 k3 ⊢
    rw [k1, if_pos rfl]
    have h4 := mG_X h3 (gX_2 k3) k2.1
    refine T_seq (mo_ts1 (by omega) (mG_mt ht0 h4) h4.2.1 (by decide) (by decide) (by decide) c4) ?_
    rintro ⟨t1, t2⟩ ⟨l1, l2, l3, l4⟩
    dsimp only at l1 l2 l3 l4 ⊢
    have hb4 := (mG_mt ht0 h4).2 q.1 (tK_lt (by rw [hk3]; decide))
    rw [l1, if_neg (by decide), if_pos (by rw [l4, w32_id (by omega) (by omega)]; omega), if_neg (by rw [l4, w32_id (by omega) (by omega), show ((q.1 : Int) + 1 - 1).toNat = q.1 by omega, l3.1 320 (by decide), hb4.1, c4.2]; decide)]
    exact fin t2 l2 (gX_trans (gX_2 (g2_trans (g2_trans e3 f3) k3)) l3)
/-- at G: no sign that joins: what stands open decides -/
theorem g_rest {q : pL} {C W : List Int} {o z : Nat} {M : bz_M} {Q : bz_M → Prop} {x : Int} (hd : 6 < d) (ht0 : mt T n M0) (hM : opM T n q = none) (hA : opA T n q = none) (hbr : ∀ M', mG T n M0 q C W o b z M' → ∀ d', 0 < d' → eMo_qBracket Lg d' M' = some (x, M')) (hcl : isS T n 41 q → x ≠ 20 ∧ x ≠ 23 ∧ x ≠ 24) (h : mG T n M0 q C W o b z M) (hQ : ∀ M', mG T n M0 q C W o b z M' → M' 319 2 = (q.1 : Int) → w_T (if x = 21 then ((eMo_asksSign Lg (d - 1 - 1) 44 M').bind (fun M1 => (if (M1 319 5) = 0 then ((eMo_qDropsToBracket Lg (d - 1 - 1) M1).bind (fun M2 => (if (0 : Int) ≤ (bz_w32 ((M2 319 123) - 1)) ∧ (bz_w32 ((M2 319 123) - 1)) < 1700 then (some (1, (bz_up M2 409 (Int.toNat (bz_w32 ((M2 319 123) - 1))) (bz_w32 ((M2 409 (Int.toNat (bz_w32 ((M2 319 123) - 1)))) + 2))))) else none))) else (some (0, M1))))) else (if x = 22 then ((eMo_asksSign Lg (d - 1 - 1) 44 M').bind (fun M1 => (if (M1 319 5) = 0 then ((eMo_qDropsToBracket Lg (d - 1 - 1) M1).bind (fun M2 => (if (0 : Int) ≤ (bz_w32 ((M2 319 123) - 1)) ∧ (bz_w32 ((M2 319 123) - 1)) < 1700 then (some (1, (bz_up M2 409 (Int.toNat (bz_w32 ((M2 319 123) - 1))) (bz_w32 ((M2 409 (Int.toNat (bz_w32 ((M2 319 123) - 1)))) + 2))))) else none))) else (some (0, M1))))) else (if x = (-1) then (some (0, M')) else ((eMo_fail Lg (d - 1 - 1) 1 (M' 319 2) M').bind (fun M5 => (some (0, M5))))))) (fun p => w_T (sK Lg d b0 p) Q)) : hG Lg d b0 Q M := by
  refine g_on hd ht0 h (fun s => ⟨x, hbr, hcl s⟩) (fun M1 h1 hm => ?_)
  have c1 : ¬ isS T n 42 q := fun e => by unfold opM at hM; rw [if_pos e] at hM; cases hM
  have c2 : ¬ isS T n 47 q := fun e => by unfold opM at hM; rw [if_neg c1, if_pos e] at hM; cases hM
  have c3 : ¬ isS T n 43 q := fun e => by unfold opA at hA; rw [if_pos e] at hA; cases hA
  have c4 : ¬ isS T n 45 q := fun e => by unfold opA at hA; rw [if_neg c3, if_pos e] at hA; cases hA
  refine T_le (eMo_qGoesOn_122_E (by omega)) ?_
  refine T_seq (mo_ts0 (by omega) (mG_mt ht0 h1) h1.2.1 (by decide) (by decide) (by decide) c1) ?_
  rintro ⟨p1, p2⟩ ⟨e1, e2, e3⟩
  dsimp only at e1 e2 e3 ⊢
  rw [e1, if_pos rfl]
  have h2 := mG_X h1 (gX_2 e3) e2.1
  refine T_seq (mo_ts0 (by omega) (mG_mt ht0 h2) h2.2.1 (by decide) (by decide) (by decide) c2) ?_
  rintro ⟨r1, r2⟩ ⟨f1, f2, f3⟩
  dsimp only at f1 f2 f3 ⊢
  rw [f1, if_pos rfl]
  have h3 := mG_X h2 (gX_2 f3) f2.1
  refine T_seq (mo_ts0 (by omega) (mG_mt ht0 h3) h3.2.1 (by decide) (by decide) (by decide) c3) ?_
  rintro ⟨s1, s2⟩ ⟨k1, k2, k3⟩
  dsimp only at k1 k2 k3 ⊢
  rw [k1, if_pos rfl]
  have h4 := mG_X h3 (gX_2 k3) k2.1
  refine T_seq (mo_ts0 (by omega) (mG_mt ht0 h4) h4.2.1 (by decide) (by decide) (by decide) c4) ?_
  rintro ⟨t1, t2⟩ ⟨l1, l2, l3⟩
  dsimp only at l1 l2 l3 ⊢
  rw [l1, if_pos rfl]
  have h5 := mG_X h4 (gX_2 l3) l2.1
  have fin := hQ t2 h5 l2.2
  refine T_run (hbr t2 h5 _ (by omega)) ?_
  dsimp only
  by_cases x1 : x = 21
  · rw [if_pos x1] at fin ⊢
    exact fin
  rw [if_neg x1] at fin ⊢
  refine T_run (hbr t2 h5 _ (by omega)) ?_
  dsimp only
  by_cases x2 : x = 22
  · rw [if_pos x2] at fin ⊢
    exact fin
  rw [if_neg x2] at fin ⊢
  refine T_run (hbr t2 h5 _ (by omega)) ?_
  dsimp only
  by_cases x3 : x = -1
  · rw [if_pos x3] at fin ⊢
    exact fin
  rw [if_neg x3] at fin ⊢
  rw [if_pos h5.2.1.2.2.2.2.2.1]
  exact fin
end MS

/-! THE REFERENCE READS TESTS -/
def tG (Lg d : Nat) (Q : bz_M → Prop) (M : bz_M) : Prop := w_T (eMo_qGoesOnTest Lg (d - 1) M) (fun p => w_T (if p.1 = 0 then (eMo_qTest_2 Lg d 0 p.2) else (eMo_qTest_2 Lg d 1 p.2)) Q)
abbrev wTe (W : List Int) : Prop := W.headD 0 = 0 ∨ W.headD 0 = 10 ∨ W.headD 0 = 11 ∨ W.headD 0 = 25
abbrev ops2 (P : List Int) : Prop := ∀ p ∈ P, p = 10 ∨ p = 11
def mFo (T : Nat → Int) (n : Nat) (M0 : bz_M) (C W : List Int) (o : Nat) (b : Int) (out : pO) (M' : bz_M) : Prop := match out with
  | .inl e => gF M0 M' ∧ mXf e.1 (e.2 : Int) M'
  | .inr p => mG T n M0 p.1 (C ++ p.2) W o b p.1.1 M'
section MV
variable {Lg d n : Nat} {T : Nat → Int} {w : Int} {M0 : bz_M} {b : Int}
theorem t_f {Q : bz_M → Prop} {M : bz_M} {k pl x : Int} (hd : 0 < d) (h : mGf M0 k pl M) (hx : x = 0 ∨ x = 1) (hQ : Q M) : w_T (eMo_qTest_2 Lg d x M) Q := by
  have h5 : ¬ M 319 5 = 0 := by rw [h.2.1.1]; exact h.2.1.2.1
  have e : w_T (eMo_qTest_110 Lg d M) Q := by
    refine T_le (eMo_qTest_110_E hd) ?_
    rw [if_neg h5]
    exact T_some hQ
  refine T_le (eMo_qTest_2_E hd) ?_
  rcases hx with rfl | rfl
  · rw [if_pos rfl]; exact e
  · rw [if_neg (by decide), if_neg h5]; exact e
theorem dn_f {M : bz_M} {k pl : Int} (hd : 0 < d) (h : mGf M0 k pl M) : eMo_qDropsNots Lg d M = some M := by
  refine eMo_qDropsNots_E hd _ ?_
  rw [if_neg (by rw [h.2.1.1]; exact h.2.1.2.1)]
theorem code_f {M : bz_M} {k pl v : Int} (h : mGf M0 k pl M) : w_T (eMo_qCode Lg d v M) (fun M' => gF M0 M' ∧ mXf k pl M' ∧ (0 ≤ M' 319 121 ∧ M' 319 121 ≤ 1661)) := by
  obtain ⟨h1, h2, h3⟩ := h
  refine T_le eMo_qCode_E ?_
  rw [if_pos (by omega), w32_id (by omega) (by omega)]
  refine T_some ⟨gF_trans h1 (gF_trans gF_8 (gF_k (by decide))), ⟨?_, h2.2.1, ?_⟩, ?_⟩
  · rw [bz_up_nk (by decide), bz_up_nr (by decide)]; exact h2.1
  · rw [bz_up_nk (by decide), bz_up_nr (by decide)]; exact h2.2.2
  · rw [bz_up_eq]; omega
/-- behind a fact: nots, then on -/
def mEn2 (M0 : bz_M) (Q : bz_M → Prop) (out : pO) : Prop := ∀ e, out = .inl e → ∀ M', gF M0 M' → mXf e.1 (e.2 : Int) M' → Q M'
theorem t_f2 {Q : bz_M → Prop} {M : bz_M} {k pl x : Int} (hd : 0 < d) (h : mXf k pl M) (hx : x = 0 ∨ x = 1) (hQ : Q M) : w_T (eMo_qTest_2 Lg d x M) Q := by
  have h5 : ¬ M 319 5 = 0 := by rw [h.1]; exact h.2.1
  have e : w_T (eMo_qTest_110 Lg d M) Q := by
    refine T_le (eMo_qTest_110_E hd) ?_
    rw [if_neg h5]
    exact T_some hQ
  refine T_le (eMo_qTest_2_E hd) ?_
  rcases hx with rfl | rfl
  · rw [if_pos rfl]; exact e
  · rw [if_neg (by decide), if_neg h5]; exact e
theorem dn_f2 {M : bz_M} {k pl : Int} (hd : 0 < d) (h : mXf k pl M) : eMo_qDropsNots Lg d M = some M := by
  refine eMo_qDropsNots_E hd _ ?_
  rw [if_neg (by rw [h.1]; exact h.2.1)]
/-- a comparison, or all -/
theorem mo_fact {f o z : Nat} {q : pL} {C W : List Int} {M : bz_M} {out : pO} (hd : 10 < d) (hw : w = 2 ∨ w = 4 ∨ w = 8) (ht0 : mt T n M0) (hs0 : stM M0) (h61 : M0 319 61 = tkW w) (ho : o ≤ 6) (hW4 : ¬ (1 ≤ W.headD 0 ∧ W.headD 0 ≤ 4)) (hW : W.headD 0 < 60) (hz : z ≤ q.1) (h : mG T n M0 q C W o b z M) (hr : (if isW T n 30 q then some (.inr (nx T n q, [13])) else rd T n w (f + 1) 5 o q) = some out) : w_T (eMo_qFact Lg d M) (mFo T n M0 C W o b out) := by
  have hn := ht0.1
  have hq := mX_qOK h.2.1
  have hq1 := hq.1
  refine T_le (eMo_qFact_E (by omega)) ?_
  by_cases c : isW T n 30 q
  · rw [if_pos c] at hr
    cases hr
    have gt := nx_gt hq (isW_k c)
    refine T_seq (mo_tk1 (r := 385) (by omega) (by decide) (mG_st hs0 h) (mG_mt ht0 h) h.2.1 c) ?_
    rintro ⟨p1, p2⟩ ⟨e1, e2, e3⟩
    dsimp only at e1 e2 e3 ⊢
    rw [e1, if_neg (by decide)]
    refine T_seq (g_code (mG_X h e3 e2) (by omega)) ?_
    intro M1 h1
    exact T_some (show mG T n M0 (nx T n q) (C ++ [13]) W o b (nx T n q).1 M1 from mG_z h1 (by omega))
  rw [if_neg c] at hr
  refine T_seq (mo_tk0 (r := 385) (by omega) (by decide) (mG_st hs0 h) (mG_mt ht0 h) h.2.1 c) ?_
  rintro ⟨p1, p2⟩ ⟨e1, e2, e3⟩
  dsimp only at e1 e2 e3 ⊢
  rw [e1, if_pos rfl]
  have g1 := mG_X h (gX_2 e3) e2.1
  change rCmp T n (rd T n w f) o q = some out at hr
  rcases rB_inv hr with ⟨e, e4, rfl⟩ | ⟨q1, c1, e4, hr1⟩
  · refine T_seq (mo_sumsR (by omega) hw ht0 hs0 h61 ho hW4 hW hz g1 e4) ?_
    intro M1 h1
    have h1 : mGf M0 e.1 (e.2 : Int) M1 := h1
    rw [if_neg (by rw [h1.2.1.1]; exact h1.2.1.2.1)]
    exact T_some ⟨h1.1, h1.2.1⟩
  · refine T_seq (mo_sumsR (by omega) hw ht0 hs0 h61 ho hW4 hW hz g1 e4) ?_
    intro M1 h1
    have h1 : mG T n M0 q1 (C ++ c1) W o b q1.1 M1 := h1
    have hqq := mX_qOK h1.2.1
    have hqq1 := hqq.1
    rw [if_pos h1.2.1.2.2.2.2.2.1]
    refine T_seq (mo_look (mG_mt ht0 h1) h1.2.1) ?_
    rintro ⟨r1, r2⟩ ⟨f1, f2, f3⟩
    dsimp only at f1 f2 f3 ⊢
    have g2 := mG_X h1 (gX_2 f3) f2.1
    have go : ∀ (x k : Int), isS T n x q1 → opC T n q1 = some k → ((x = 60 ∧ k = 7) ∨ (x = 62 ∧ k = 8) ∨ (x = 61 ∧ k = 9)) → w_T (eMo_qFact_63 Lg d x r2) (mFo T n M0 C W o b out) := by
      intro x k hs hk hxk
      rw [hk] at hr1
      change rB (rd T n w f 3 o (nx T n q1)) (fun q2 c2 => some (.inr (q2, c1 ++ c2 ++ [k]))) = some out at hr1
      have gt := nx_gt hqq (by rw [hs.1]; decide)
      refine T_le (eMo_qFact_63_E (by omega)) ?_
      rw [f2.2, w32_id (by omega) (by omega)]
      have g3 : mG T n M0 (nx T n q1) (C ++ c1) W o b q1.1 (bz_up r2 319 2 ((q1.1 : Int) + 1)) := mG_X g2 (gX_up (by decide)) (mX_nxs f2 hs.1 (bz_up_eq _ _ _ _) (fun k hk => bz_up_nk (by omega) _))
      rcases rB_inv hr1 with ⟨e, e5, rfl⟩ | ⟨q2, c2, e5, hr2⟩
      · refine T_seq (mo_sumsR (by omega) hw ht0 hs0 h61 ho hW4 hW (by omega) g3 e5) ?_
        intro M2 h2
        have h2 : mGf M0 e.1 (e.2 : Int) M2 := h2
        have fin : ∀ v, w_T ((eMo_qCode Lg (d - 1) v M2).bind (fun M3 => some M3)) (fun M' => gF M0 M' ∧ mXf e.1 (e.2 : Int) M') := fun v => T_seq (code_f h2) (fun M3 h3 => T_some ⟨h3.1, h3.2.1⟩)
        refine T_ite (fun _ => fin 7) (fun _ => T_ite (fun _ => fin 8) (fun _ => fin 9))
      · cases hr2
        have hg := (rd_good hw f 3 o (nx T n q1) q2 c2 (by omega) ho (nx_ok hqq) e5)
        refine T_seq (mo_sumsR (by omega) hw ht0 hs0 h61 ho hW4 hW (by omega) g3 e5) ?_
        intro M2 h2
        have h2 : mG T n M0 q2 (C ++ c1 ++ c2) W o b q2.1 M2 := h2
        have hq2 := (mX_qOK h2.2.1).1
        have hlen := g2.2.2.2.2.2.2
        have hl2 := hg.2.1
        have hz2 : mG T n M0 q2 (C ++ c1 ++ c2) W o b (q2.1 - 1) M2 := by
          obtain ⟨a1, a2, a3, a4, a5, a6, a7⟩ := h2
          refine ⟨a1, a2, a3, a4, a5, a6, ?_⟩
          rw [List.length_append] at a7 ⊢
          omega
        have fin : w_T ((eMo_qCode Lg (d - 1) k M2).bind (fun M3 => some M3)) (fun M' => mG T n M0 q2 (C ++ (c1 ++ c2 ++ [k])) W o b q2.1 M') := by
          refine T_seq (g_code hz2 (by omega)) (fun M3 h3 => T_some ?_)
          rw [show C ++ (c1 ++ c2 ++ [k]) = C ++ c1 ++ c2 ++ [k] by simp]
          exact mG_z h3 (by omega)
        rcases hxk with ⟨rfl, rfl⟩ | ⟨rfl, rfl⟩ | ⟨rfl, rfl⟩
        · rw [if_pos rfl]; exact fin
        · rw [if_neg (by decide), if_pos rfl]; exact fin
        · rw [if_neg (by decide), if_neg (by decide)]; exact fin
    rw [f1]
    by_cases s1 : isS T n 60 q1
    · rw [(lk_S (by decide) (by decide) (by decide)).mpr s1, if_pos rfl]
      exact go 60 7 s1 (by unfold opC; rw [if_pos s1]) (Or.inl ⟨rfl, rfl⟩)
    rw [if_neg (fun e => s1 ((lk_S (by decide) (by decide) (by decide)).mp e))]
    by_cases s2 : isS T n 62 q1
    · rw [(lk_S (by decide) (by decide) (by decide)).mpr s2, if_pos rfl]
      exact go 62 8 s2 (by unfold opC; rw [if_neg s1, if_pos s2]) (Or.inr (Or.inl ⟨rfl, rfl⟩))
    rw [if_neg (fun e => s2 ((lk_S (by decide) (by decide) (by decide)).mp e))]
    by_cases s3 : isS T n 61 q1
    · rw [(lk_S (by decide) (by decide) (by decide)).mpr s3, if_pos rfl]
      exact go 61 9 s3 (by unfold opC; rw [if_neg s1, if_neg s2, if_pos s3]) (Or.inr (Or.inr ⟨rfl, rfl⟩))
    rw [if_neg (fun e => s3 ((lk_S (by decide) (by decide) (by decide)).mp e)), f2.2]
    rw [show opC T n q1 = none by unfold opC; rw [if_neg s1, if_neg s2, if_neg s3]] at hr1
    cases hr1
    refine T_seq (mo_fail g2.2.1.2.2.2.2.2.1 (by decide)) ?_
    rintro M2 ⟨a1, a2, _⟩
    exact T_some ⟨gF_trans g2.1 (gF_X a2), a1⟩
/-- at G: a square bracket closes -/
theorem t_33 {q : pL} {W : List Int} {o N z d' : Nat} {Q : Int × bz_M → Prop} (hd : 2 < d') (hz : z ≤ 1650) (hW : W.headD 0 ≠ 12) (ho : o + N + 1 ≤ 6) {Cf : List Int} (hQ : ∀ M', mG T n M0 q (Cf ++ List.replicate N 12) W o b z M' → w_T (eMo_qGoesOnTest Lg d' M') Q) : ∀ (P C : List Int) (M : bz_M), ops2 P → C ++ P = Cf → mG T n M0 q C (P ++ 25 :: (List.replicate N 12 ++ W)) (o + N + 1) b z M → w_T (eMo_qGoesOnTest_33 Lg d' M) Q
  | [], C, M, hP, hC, h => by
    have h : mG T n M0 q C (25 :: (List.replicate N 12 ++ W)) (o + N + 1) b z M := h
    rw [List.append_nil] at hC
    have ht := g_top h
    refine T_le (eMo_qGoesOnTest_33_E (by omega)) ?_
    refine T_run (g_isOn h hz (by decide)) ?_
    dsimp only
    rw [bz_b1.mpr (show (25 :: (List.replicate N (12 : Int) ++ W)).headD 0 = 25 from rfl), if_neg (by decide), ht.1, w32_id (by omega) (by omega), show ((List.replicate N (12 : Int) ++ W).length : Int) + 1 - 1 = ((List.replicate N (12 : Int) ++ W).length : Int) by omega, h.2.2.2.2.1, show bz_w32 (((o + N + 1 : Nat) : Int) - 1) = ((o + N : Nat) : Int) by rw [w32_id (by omega) (by omega)]; omega]
    refine T_seq (g_nots (by omega) hz hW N C _ (by omega) (g_o (g_pop h))) ?_
    intro M1 h1
    rw [gt_eq]
    rw [hC] at h1
    exact hQ M1 h1
  | y :: P, C, M, hP, hC, h => by
    have hy := hP y (by simp)
    refine T_le (eMo_qGoesOnTest_33_E (by omega)) ?_
    refine T_run (g_isOn h hz (by decide)) ?_
    dsimp only
    rw [bz_b0.mpr (show ¬ (y :: P ++ 25 :: (List.replicate N (12 : Int) ++ W)).headD 0 = 25 by show ¬ y = 25; omega), if_pos rfl]
    refine T_seq (g_drops (by omega) h hz) ?_
    intro M1 h1
    exact t_33 hd hz hW ho hQ P (C ++ [y]) M1 (fun p hp => hP p (by simp [hp])) (by rw [← hC]; simp) h1
/-- at G: on to the words that join -/
theorem t_on {q : pL} {C W : List Int} {o z : Nat} {M : bz_M} {Q : bz_M → Prop} (hd : 6 < d) (hz : z ≤ 1650) (ht0 : mt T n M0) (h : mG T n M0 q C W o b z M) (hcl : isS T n 93 q → ¬ (25 : Int) ∈ W) (hQ : ∀ M', mG T n M0 q C W o b z M' → w_T (eMo_qGoesOnTest_76 Lg (d - 1) M') (fun p => w_T (if p.1 = 0 then (eMo_qTest_2 Lg d 0 p.2) else (eMo_qTest_2 Lg d 1 p.2)) Q)) : tG Lg d Q M := by
  unfold tG
  refine T_le (eMo_qGoesOnTest_E (by omega)) ?_
  rw [if_pos h.2.1.2.2.2.2.2.1]
  refine T_seq (mo_look (mG_mt ht0 h) h.2.1) ?_
  rintro ⟨p1, p2⟩ ⟨e1, e2, e3⟩
  dsimp only at e1 e2 e3 ⊢
  have h1 := mG_X h (gX_2 e3) e2.1
  rw [e1]
  by_cases s : isS T n 93 q
  · rw [if_pos ((lk_S (by decide) (by decide) (by decide)).mpr s)]
    refine T_run (g_sq hz h1) ?_
    dsimp only
    rw [bz_b0.mpr (hcl s), if_pos rfl]
    exact hQ p2 h1
  · rw [if_neg (fun e => s ((lk_S (by decide) (by decide) (by decide)).mp e))]
    exact hQ p2 h1
theorem t_close {q : pL} {C P W : List Int} {o N : Nat} {M : bz_M} {Q : bz_M → Prop} (hd : 8 < d) (ht0 : mt T n M0) (hW : W.headD 0 ≠ 12) (ho : o + N + 1 ≤ 6) (hP : ops2 P) (h : mG T n M0 q C (P ++ 25 :: (List.replicate N 12 ++ W)) (o + N + 1) b q.1 M) (hs : isS T n 93 q) (hQ : ∀ M', mG T n M0 (nx T n q) (C ++ P ++ List.replicate N 12) W o b (nx T n q).1 M' → tG Lg d Q M') : tG Lg d Q M := by
  have hn := ht0.1
  have hq := mX_qOK h.2.1
  have hq1 := hq.1
  have gt := nx_gt hq (by rw [hs.1]; decide)
  unfold tG
  refine T_le (eMo_qGoesOnTest_E (by omega)) ?_
  rw [if_pos h.2.1.2.2.2.2.2.1]
  refine T_seq (mo_look (mG_mt ht0 h) h.2.1) ?_
  rintro ⟨p1, p2⟩ ⟨e1, e2, e3⟩
  dsimp only at e1 e2 e3 ⊢
  have h1 := mG_X h (gX_2 e3) e2.1
  rw [e1, if_pos ((lk_S (by decide) (by decide) (by decide)).mpr hs)]
  refine T_run (g_sq (by omega) h1) ?_
  dsimp only
  rw [bz_b1.mpr (by simp), if_neg (by decide), e2.2, w32_id (by omega) (by omega)]
  have h2 : mG T n M0 (nx T n q) C (P ++ 25 :: (List.replicate N 12 ++ W)) (o + N + 1) b q.1 (bz_up p2 319 2 ((q.1 : Int) + 1)) := mG_X h1 (gX_up (by decide)) (mX_nxs e2 hs.1 (bz_up_eq _ _ _ _) (fun k hk => bz_up_nk (by omega) _))
  exact t_33 (d' := d - 1) (Cf := C ++ P) (by omega) (by omega) hW ho (fun M' h' => hQ M' (mG_z h' (by omega))) P C _ hP rfl h2
theorem t_87 {q : pL} {W : List Int} {o z d' : Nat} (hd : 1 < d') (hz : z ≤ 1649) (hW : W.headD 0 ≠ 10) : ∀ (P C : List Int) (M : bz_M), (∀ p ∈ P, p = 10) → mG T n M0 q C (P ++ W) o b z M → w_T (eMo_qGoesOnTest_87 Lg d' M) (fun p => p.1 = 1 ∧ mG T n M0 q (C ++ P) (10 :: W) o b (z + 1) p.2)
  | [], C, M, hP, h => by
    have h : mG T n M0 q C W o b z M := h
    refine T_le (eMo_qGoesOnTest_87_E (by omega)) ?_
    refine T_run (g_isOn h (by omega) (by decide)) ?_
    dsimp only
    have e4 : M 319 123 = (W.length : Int) := h.2.2.2.1.1
    have hl : C.length + W.length ≤ z := h.2.2.2.2.2.2
    rw [bz_b0.mpr hW, if_pos rfl, if_pos (by rw [e4]; omega), e4, Int.toNat_natCast, w32_id (by omega) (by omega), List.append_nil]
    exact T_some ⟨rfl, g_push h (by omega)⟩
  | y :: P, C, M, hP, h => by
    have hy := hP y (by simp)
    refine T_le (eMo_qGoesOnTest_87_E (by omega)) ?_
    refine T_run (g_isOn h (by omega) (by decide)) ?_
    dsimp only
    rw [bz_b1.mpr (show (y :: P ++ W).headD 0 = 10 from hy), if_neg (by decide)]
    refine T_seq (g_drops (by omega) h (by omega)) ?_
    intro M1 h1
    refine T_mono (t_87 hd hz hW P (C ++ [y]) M1 (fun p hp => hP p (by simp [hp])) h1) (fun p hp => ⟨hp.1, ?_⟩)
    have := hp.2
    rw [List.append_assoc] at this
    exact this
theorem t_137 {q : pL} {W : List Int} {o z d' : Nat} (hd : 1 < d') (hz : z ≤ 1649) (hW : W.headD 0 ≠ 10 ∧ W.headD 0 ≠ 11) : ∀ (P C : List Int) (M : bz_M), ops2 P → mG T n M0 q C (P ++ W) o b z M → w_T (eMo_qGoesOnTest_137 Lg d' M) (fun p => p.1 = 1 ∧ mG T n M0 q (C ++ P) (11 :: W) o b (z + 1) p.2)
  | [], C, M, hP, h => by
    have h : mG T n M0 q C W o b z M := h
    refine T_le (eMo_qGoesOnTest_137_E (by omega)) ?_
    refine T_run (g_isOn h (by omega) (by decide)) ?_
    dsimp only
    rw [bz_b0.mpr hW.1, if_pos rfl]
    refine T_run (g_isOn h (by omega) (by decide)) ?_
    dsimp only
    have e4 : M 319 123 = (W.length : Int) := h.2.2.2.1.1
    have hl : C.length + W.length ≤ z := h.2.2.2.2.2.2
    rw [bz_b0.mpr hW.2, if_pos rfl, if_pos (by rw [e4]; omega), e4, Int.toNat_natCast, w32_id (by omega) (by omega), List.append_nil]
    exact T_some ⟨rfl, g_push h (by omega)⟩
  | y :: P, C, M, hP, h => by
    have hy := hP y (by simp)
    have rc1 : w_T ((eMo_qDrops Lg (d' - 1) M).bind (fun M1 => eMo_qGoesOnTest_137 Lg d' M1)) (fun p => p.1 = 1 ∧ mG T n M0 q (C ++ y :: P) (11 :: W) o b (z + 1) p.2) := by
      refine T_seq (g_drops (by omega) h (by omega)) ?_
      intro M1 h1
      refine T_mono (t_137 hd hz hW P (C ++ [y]) M1 (fun p hp => hP p (by simp [hp])) h1) (fun p hp => ⟨hp.1, ?_⟩)
      have := hp.2
      rw [List.append_assoc] at this
      exact this
    refine T_le (eMo_qGoesOnTest_137_E (by omega)) ?_
    refine T_run (g_isOn h (by omega) (by decide)) ?_
    dsimp only
    by_cases c : y = 10
    · rw [bz_b1.mpr (show (y :: P ++ W).headD 0 = 10 from c), if_neg (by decide)]
      exact rc1
    · rw [bz_b0.mpr (show ¬ (y :: P ++ W).headD 0 = 10 from c), if_pos rfl]
      refine T_run (g_isOn h (by omega) (by decide)) ?_
      dsimp only
      rw [bz_b1.mpr (show (y :: P ++ W).headD 0 = 11 by show y = 11; omega), if_neg (by decide)]
      exact rc1
theorem t_and {q : pL} {C P W : List Int} {o : Nat} {M : bz_M} {Q : bz_M → Prop} (hd : 8 < d) (ht0 : mt T n M0) (hs0 : stM M0) (hk : isW T n 28 q) (hP : ∀ p ∈ P, p = 10) (hW : W.headD 0 ≠ 10) (h : mG T n M0 q C (P ++ W) o b q.1 M) (hQ : ∀ M', mG T n M0 (nx T n q) (C ++ P) (10 :: W) o b (nx T n q).1 M' → w_T (eMo_qTest_2 Lg d 1 M') Q) : tG Lg d Q M := by
  have hn := ht0.1
  have hq := mX_qOK h.2.1
  have hq1 := hq.1
  have gt := nx_gt hq (isW_k hk)
  have hk1 := (tD_k (Or.inl rfl) hk.1).1
  refine t_on (by omega) (by omega) ht0 h (fun s => by have := s.1; omega) (fun M1 h1 => ?_)
  refine T_le (eMo_qGoesOnTest_76_E (by omega)) ?_
  refine T_seq (mo_tk1 (r := 383) (by omega) (by decide) (mG_st hs0 h1) (mG_mt ht0 h1) h1.2.1 hk) ?_
  rintro ⟨p1, p2⟩ ⟨e1, e2, e3⟩
  dsimp only at e1 e2 e3 ⊢
  rw [e1, if_neg (by decide)]
  refine T_mono (t_87 (by omega) (by omega) hW P C p2 hP (mG_X h1 e3 e2)) ?_
  rintro ⟨r1, r2⟩ ⟨f1, f2⟩
  dsimp only at f1 f2 ⊢
  rw [f1, if_neg (by decide)]
  exact hQ r2 (mG_z f2 (by omega))
theorem t_or {q : pL} {C P W : List Int} {o : Nat} {M : bz_M} {Q : bz_M → Prop} (hd : 8 < d) (ht0 : mt T n M0) (hs0 : stM M0) (hk : isW T n 27 q) (hP : ops2 P) (hW : W.headD 0 ≠ 10 ∧ W.headD 0 ≠ 11) (h : mG T n M0 q C (P ++ W) o b q.1 M) (hQ : ∀ M', mG T n M0 (nx T n q) (C ++ P) (11 :: W) o b (nx T n q).1 M' → w_T (eMo_qTest_2 Lg d 1 M') Q) : tG Lg d Q M := by
  have hn := ht0.1
  have hq := mX_qOK h.2.1
  have hq1 := hq.1
  have gt := nx_gt hq (isW_k hk)
  have hk1 := (tD_k (Or.inl rfl) hk.1).1
  refine t_on (by omega) (by omega) ht0 h (fun s => by have := s.1; omega) (fun M1 h1 => ?_)
  refine T_le (eMo_qGoesOnTest_76_E (by omega)) ?_
  refine T_seq (mo_tk0 (r := 383) (by omega) (by decide) (mG_st hs0 h1) (mG_mt ht0 h1) h1.2.1 (fun e => by have e5 : wd T n q.1 = 28 := e.2; have := hk.2; omega)) ?_
  rintro ⟨p1, p2⟩ ⟨e1, e2, e3⟩
  dsimp only at e1 e2 e3 ⊢
  rw [e1, if_pos rfl]
  have h2 := mG_X h1 (gX_2 e3) e2.1
  refine T_seq (mo_tk1 (r := 384) (by omega) (by decide) (mG_st hs0 h2) (mG_mt ht0 h2) h2.2.1 hk) ?_
  rintro ⟨r1, r2⟩ ⟨f1, f2, f3⟩
  dsimp only at f1 f2 f3 ⊢
  rw [f1, if_neg (by decide)]
  refine T_mono (t_137 (by omega) (by omega) hW P C r2 hP (mG_X h2 f3 f2)) ?_
  rintro ⟨s1, s2⟩ ⟨k1, k2⟩
  dsimp only at k1 k2 ⊢
  rw [k1, if_neg (by decide)]
  exact hQ s2 (mG_z k2 (by omega))
/-- at G: no word that joins -/
theorem t_rest {q : pL} {C W : List Int} {o z : Nat} {M : bz_M} {Q : bz_M → Prop} (hd : 8 < d) (hz : z ≤ 1650) (ht0 : mt T n M0) (hs0 : stM M0) (hN : ¬ isW T n 28 q) (hO : ¬ isW T n 27 q) (h : mG T n M0 q C W o b z M) (hcl : isS T n 93 q → ¬ (25 : Int) ∈ W) (h1 : (25 : Int) ∈ W → ∀ M', mGf M0 1 (q.1 : Int) M' → Q M') (h0 : ¬ (25 : Int) ∈ W → ∀ M', mG T n M0 q C W o b z M' → w_T (eMo_qTest_110 Lg d M') Q) : tG Lg d Q M := by
  refine t_on (by omega) hz ht0 h hcl (fun M1 g1 => ?_)
  refine T_le (eMo_qGoesOnTest_76_E (by omega)) ?_
  refine T_seq (mo_tk0 (r := 383) (by omega) (by decide) (mG_st hs0 g1) (mG_mt ht0 g1) g1.2.1 hN) ?_
  rintro ⟨p1, p2⟩ ⟨e1, e2, e3⟩
  dsimp only at e1 e2 e3 ⊢
  rw [e1, if_pos rfl]
  have g2 := mG_X g1 (gX_2 e3) e2.1
  refine T_seq (mo_tk0 (r := 384) (by omega) (by decide) (mG_st hs0 g2) (mG_mt ht0 g2) g2.2.1 hO) ?_
  rintro ⟨r1, r2⟩ ⟨f1, f2, f3⟩
  dsimp only at f1 f2 f3 ⊢
  have g3 := mG_X g2 (gX_2 f3) f2.1
  rw [f1, if_pos rfl, if_pos g3.2.1.2.2.2.2.2.1]
  refine T_run (g_sq hz g3) ?_
  dsimp only
  by_cases c : (25 : Int) ∈ W
  · rw [bz_b1.mpr c, if_neg (by decide), f2.2]
    refine T_seq (mo_fail g3.2.1.2.2.2.2.2.1 (by decide)) ?_
    rintro M2 ⟨a1, a2, _⟩
    have g4 := mG_f g3 hz a2 a1
    refine T_some ?_
    dsimp only
    rw [if_pos rfl]
    exact t_f (by omega) g4 (Or.inl rfl) (h1 c M2 g4)
  · rw [bz_b0.mpr c, if_pos rfl]
    refine T_some ?_
    dsimp only
    rw [if_pos rfl]
    refine T_le (eMo_qTest_2_E (by omega)) ?_
    rw [if_pos rfl]
    exact h0 c r2 g3
end MV

/-! THE REFERENCE READS TESTS: all, by fuel -/
def mtT (Lg d : Nat) (T : Nat → Int) (n : Nat) (w : Int) (M0 : bz_M) (b : Int) (f : Nat) : Prop := ∀ (o N : Nat) (q : pL) (C W : List Int) (M : bz_M) (out : pO) (Q : bz_M → Prop), o + N ≤ 6 → wTe W → mG T n M0 q C (List.replicate N 12 ++ W) (o + N) b q.1 M → rd T n w f 6 (o + N) q = some out → mEn2 M0 Q out → (∀ q' cs, out = .inr (q', cs) → ∀ M', mG T n M0 q' (C ++ cs ++ List.replicate N 12) W o b q'.1 M' → tG Lg d Q M') → w_T (eMo_qTest_2 Lg d 1 M) Q
def mtB (Lg d : Nat) (T : Nat → Int) (n : Nat) (w : Int) (M0 : bz_M) (b : Int) (f : Nat) : Prop := ∀ (o : Nat) (q : pL) (C W : List Int) (M : bz_M) (out : pO) (Q : bz_M → Prop), o ≤ 6 → wTe W → W.headD 0 ≠ 10 → mG T n M0 q C W o b q.1 M → rd T n w f 7 o q = some out → mEn2 M0 Q out → (∀ q' cs, out = .inr (q', cs) → ¬ isW T n 28 q' → ∀ M' C' P, (∀ p ∈ P, p = 10) → C' ++ P = C ++ cs → mG T n M0 q' C' (P ++ W) o b q'.1 M' → tG Lg d Q M') → w_T (eMo_qTest_2 Lg d 1 M) Q
def mtC (Lg d : Nat) (T : Nat → Int) (n : Nat) (w : Int) (M0 : bz_M) (b : Int) (f : Nat) : Prop := ∀ (o : Nat) (q : pL) (C P W : List Int) (M : bz_M) (out : pO) (Q : bz_M → Prop), o ≤ 6 → (∀ p ∈ P, p = 10) → wTe W → W.headD 0 ≠ 10 → mG T n M0 q C (P ++ W) o b q.1 M → rd T n w f 8 o q = some out → mEn2 M0 Q out → (∀ q' cs, out = .inr (q', cs) → ¬ isW T n 28 q' → ∀ M' C' P', (∀ p ∈ P', p = 10) → C' ++ P' = C ++ P ++ cs → mG T n M0 q' C' (P' ++ W) o b q'.1 M' → tG Lg d Q M') → tG Lg d Q M
def mtA (Lg d : Nat) (T : Nat → Int) (n : Nat) (w : Int) (M0 : bz_M) (b : Int) (f : Nat) : Prop := ∀ (o : Nat) (q : pL) (C W : List Int) (M : bz_M) (out : pO) (Q : bz_M → Prop), o ≤ 6 → (W.headD 0 = 0 ∨ W.headD 0 = 25) → mG T n M0 q C W o b q.1 M → rd T n w f 9 o q = some out → mEn2 M0 Q out → (∀ q' cs, out = .inr (q', cs) → ¬ isW T n 28 q' → ¬ isW T n 27 q' → ∀ M' C' P, ops2 P → C' ++ P = C ++ cs → mG T n M0 q' C' (P ++ W) o b q'.1 M' → tG Lg d Q M') → w_T (eMo_qTest_2 Lg d 1 M) Q
def mtD (Lg d : Nat) (T : Nat → Int) (n : Nat) (w : Int) (M0 : bz_M) (b : Int) (f : Nat) : Prop := ∀ (o : Nat) (q : pL) (C P W : List Int) (M : bz_M) (out : pO) (Q : bz_M → Prop), o ≤ 6 → ops2 P → (W.headD 0 = 0 ∨ W.headD 0 = 25) → ¬ isW T n 28 q → mG T n M0 q C (P ++ W) o b q.1 M → rd T n w f 10 o q = some out → mEn2 M0 Q out → (∀ q' cs, out = .inr (q', cs) → ¬ isW T n 28 q' → ¬ isW T n 27 q' → ∀ M' C' P', ops2 P' → C' ++ P' = C ++ P ++ cs → mG T n M0 q' C' (P' ++ W) o b q'.1 M' → tG Lg d Q M') → tG Lg d Q M
section MZ
variable {Lg d n : Nat} {T : Nat → Int} {w : Int} {M0 : bz_M} {b : Int}
theorem en2_f {Q : bz_M → Prop} {k : Int} {pl : Nat} {M : bz_M} (hE : mEn2 M0 Q (.inl (k, pl))) (h : mGf M0 k (pl : Int) M) : Q M := hE _ rfl M h.1 h.2.1
theorem mt_truth {f : Nat} (hd : 12 < d) (hw : w = 2 ∨ w = 4 ∨ w = 8) (ht0 : mt T n M0) (hs0 : stM M0) (h61 : M0 319 61 = tkW w) (iT : mtT Lg d T n w M0 b f) (iA : mtA Lg d T n w M0 b f) : mtT Lg d T n w M0 b (f + 1) := by
  intro o N q C W M out Q ho hW h hr hE hQ
  have hn := ht0.1
  have hq := mX_qOK h.2.1
  have hq1 := hq.1
  have hW12 : W.headD 0 ≠ 12 := by omega
  have hhd : (List.replicate N (12 : Int) ++ W).headD 0 = 12 ∨ (List.replicate N (12 : Int) ++ W).headD 0 = W.headD 0 := by
    cases N with
    | zero => exact Or.inr rfl
    | succ N => exact Or.inl rfl
  change rTruth T n (rd T n w f) (o + N) q = some out at hr
  unfold rTruth at hr
  refine T_le (eMo_qTest_2_E (by omega)) ?_
  rw [if_neg (by decide), if_pos h.2.1.2.2.2.2.2.1]
  refine T_seq (mo_look (mG_mt ht0 h) h.2.1) ?_
  rintro ⟨p1, p2⟩ ⟨e1, e2, e3⟩
  dsimp only at e1 e2 e3 ⊢
  have g1 := mG_X h (gX_2 e3) e2.1
  rw [e1]
  by_cases s : isS T n 91 q
  · rw [if_neg (fun e => by have e4 := (tD_k (Or.inl rfl) e.1).1; have := s.1; omega), if_pos s] at hr
    have gt := nx_gt hq (by rw [s.1]; decide)
    rw [if_pos ((lk_S (by decide) (by decide) (by decide)).mpr s), e2.2]
    by_cases o6 : o + N < 6
    · rw [if_pos o6] at hr
      refine T_seq (g_opens (by omega) o6 g1 (by omega)) ?_
      rintro M1 ⟨g2, g3⟩
      rw [g3, e2.2, w32_id (by omega) (by omega)]
      have g4 : mG T n M0 (nx T n q) C (25 :: (List.replicate N 12 ++ W)) (o + N + 1) b (nx T n q).1 (bz_up M1 319 2 ((q.1 : Int) + 1)) := mG_z (mG_X g2 (gX_up (by decide)) (mX_nxs ⟨g2.2.1, by rw [g3]; exact e2.2⟩ s.1 (bz_up_eq _ _ _ _) (fun k hk => bz_up_nk (by omega) _))) (by omega)
      rcases rB_inv hr with ⟨e, e4, rfl⟩ | ⟨q1, c1, e4, hr1⟩
      · exact iA (o + N + 1) _ C (25 :: (List.replicate N 12 ++ W)) _ _ Q (by omega) (Or.inr rfl) g4 e4 hE (fun q' cs e5 => by cases e5)
      · refine iA (o + N + 1) _ C (25 :: (List.replicate N 12 ++ W)) _ (.inr (q1, c1)) Q (by omega) (Or.inr rfl) g4 e4 (fun e e5 => by cases e5) (fun q' cs e5 hN hO M' C' P hP hC h' => ?_)
        cases e5
        have hq1' := (mX_qOK h'.2.1).1
        by_cases s2 : isS T n 93 q1
        · rw [if_pos s2] at hr1
          cases hr1
          refine t_close (by omega) ht0 hW12 (by omega) hP h' s2 (fun M2 h2 => hQ _ _ rfl M2 ?_)
          rw [hC] at h2
          exact h2
        · rw [if_neg s2] at hr1
          cases hr1
          exact t_rest (by omega) (by omega) ht0 hs0 hN hO h' (fun e => absurd e s2) (fun _ M2 h2 => en2_f hE h2) (fun e => absurd (by simp) e)
    · rw [if_neg o6] at hr
      cases hr
      refine T_seq (g_opens0 (by omega) (by omega) g1 (by omega)) ?_
      rintro M1 ⟨g2, g3⟩
      exact t_f (by omega) (mGf_up g2) (Or.inr rfl) (en2_f hE (mGf_up g2))
  rw [if_neg (fun e => s ((lk_S (by decide) (by decide) (by decide)).mp e))]
  refine T_seq (mo_isHere (r := 382) (by omega) (by decide) (mG_st hs0 g1) (mG_mt ht0 g1) g1.2.1) ?_
  rintro ⟨r1, r2⟩ ⟨f1, f2, f3⟩
  dsimp only at f1 f2 f3 ⊢
  have g2 := mG_X g1 (gX_2 f3) f2.1
  have f1' : r1 = bz_b (isW T n 29 q) := f1
  rw [f1']
  by_cases c : isW T n 29 q
  · rw [if_pos c] at hr
    have gt := nx_gt hq (isW_k c)
    rw [bz_b1.mpr c, if_neg (by decide), f2.2]
    by_cases o6 : o + N < 6
    · rw [if_pos o6] at hr
      refine T_seq (g_opens (by omega) o6 g2 (by omega)) ?_
      rintro M1 ⟨g3, _⟩
      refine T_seq (mo_as1 (r := 382) (by omega) (by decide) (mG_st hs0 g3) (mG_mt ht0 g3) g3.2.1 c) ?_
      rintro M2 ⟨a1, a2⟩
      have g4 : mG T n M0 (nx T n q) C (List.replicate (N + 1) 12 ++ W) (o + (N + 1)) b (nx T n q).1 M2 := by
        rw [List.replicate_succ]
        exact mG_z (mG_X g3 a2 a1) (by omega)
      rcases rB_inv hr with ⟨e, e4, rfl⟩ | ⟨q1, c1, e4, hr1⟩
      · exact iT o (N + 1) _ C W M2 _ Q (by omega) hW g4 e4 hE (fun q' cs e5 => by cases e5)
      · cases hr1
        refine iT o (N + 1) _ C W M2 (.inr (q1, c1)) Q (by omega) hW g4 e4 (fun e e5 => by cases e5) (fun q' cs e5 M' h' => ?_)
        cases e5
        refine hQ _ _ rfl M' ?_
        rw [List.replicate_succ] at h'
        rw [show C ++ (c1 ++ [12]) ++ List.replicate N 12 = C ++ c1 ++ 12 :: List.replicate N 12 by simp]
        exact h'
    · rw [if_neg o6] at hr
      cases hr
      refine T_seq (g_opens0 (by omega) (by omega) g2 (by omega)) ?_
      rintro M1 ⟨g3, _⟩
      refine T_run (mo_as_f (by omega) g3.2.1) ?_
      exact t_f (by omega) g3 (Or.inr rfl) (en2_f hE g3)
  rw [if_neg c, if_neg s] at hr
  rw [bz_b0.mpr c, if_pos rfl]
  have hf : (if isW T n 30 q then some (.inr (nx T n q, [13])) else rd T n w f 5 (o + N) q) = some out := hr
  have hfact : w_T (eMo_qFact Lg (d - 1) r2) (mFo T n M0 C (List.replicate N 12 ++ W) (o + N) b out) := by
    cases f with
    | zero =>
      by_cases c30 : isW T n 30 q
      · rw [if_pos c30] at hf
        exact mo_fact (f := 0) (by omega) hw ht0 hs0 h61 ho (by omega) (by omega) (Nat.le_refl _) g2 (by rw [if_pos c30]; exact hf)
      · rw [if_neg c30] at hf
        cases hf
    | succ f => exact mo_fact (f := f) (by omega) hw ht0 hs0 h61 ho (by omega) (by omega) (Nat.le_refl _) g2 hf
  refine T_seq hfact ?_
  intro M1 h1
  cases out with
  | inl e =>
    have h1 : gF M0 M1 ∧ mXf e.1 (e.2 : Int) M1 := h1
    refine T_run (dn_f2 (by omega) h1.2) ?_
    rw [if_neg (by rw [h1.2.1]; exact h1.2.2.1)]
    exact t_f2 (by omega) h1.2 (Or.inl rfl) (hE e rfl M1 h1.1 h1.2)
  | inr p =>
    have h1 : mG T n M0 p.1 (C ++ p.2) (List.replicate N 12 ++ W) (o + N) b p.1.1 M1 := h1
    have hp1 := (mX_qOK h1.2.1).1
    refine T_seq (g_nots (by omega) (by omega) hW12 N _ M1 ho h1) ?_
    intro M2 h2
    rw [if_pos h2.2.1.2.2.2.2.2.1]
    exact T_bind (hQ p.1 p.2 rfl M2 h2)
theorem mt_all (hd : 12 < d) (hw : w = 2 ∨ w = 4 ∨ w = 8) (ht0 : mt T n M0) (hs0 : stM M0) (h61 : M0 319 61 = tkW w) : ∀ f : Nat, mtT Lg d T n w M0 b f ∧ mtB Lg d T n w M0 b f ∧ mtC Lg d T n w M0 b f ∧ mtA Lg d T n w M0 b f ∧ mtD Lg d T n w M0 b f
  | 0 => ⟨(fun o N q C W M out Q _ _ _ hr => by cases hr), (fun o q C W M out Q _ _ _ _ hr => by cases hr), (fun o q C P W M out Q _ _ _ _ _ hr => by cases hr), (fun o q C W M out Q _ _ _ hr => by cases hr), (fun o q C P W M out Q _ _ _ _ _ hr => by cases hr)⟩
  | f + 1 => by
    obtain ⟨iT, iB, iC, iA, iD⟩ := mt_all hd hw ht0 hs0 h61 f
    refine ⟨mt_truth hd hw ht0 hs0 h61 iT iA, ?_, ?_, ?_, ?_⟩
    · intro o q C W M out Q ho hW hW10 h hr hE hQ
      change rSeq (rd T n w f) 6 8 o q = some out at hr
      rcases rB_inv hr with ⟨e, e1, rfl⟩ | ⟨q1, c1, e1, hr1⟩
      · exact iT o 0 q C W M _ Q ho hW h e1 hE (fun q' cs e2 => by cases e2)
      · refine iT o 0 q C W M (.inr (q1, c1)) Q ho hW h e1 (fun e e2 => by cases e2) (fun q' cs e2 M' h' => ?_)
        cases e2
        rw [List.replicate_zero, List.append_nil] at h'
        rcases rB_inv hr1 with ⟨e, e3, rfl⟩ | ⟨q2, c2, e3, hr2⟩
        · exact iC o q1 (C ++ c1) [] W M' _ Q ho (by simp) hW hW10 h' e3 hE (fun q' cs e2 => by cases e2)
        · cases hr2
          refine iC o q1 (C ++ c1) [] W M' (.inr (q2, c2)) Q ho (by simp) hW hW10 h' e3 (fun e e2 => by cases e2) (fun q' cs e2 hN M2 C' P hP hC h2 => ?_)
          cases e2
          refine hQ _ _ rfl hN M2 C' P hP ?_ h2
          rw [hC, List.append_nil, List.append_assoc]
    · intro o q C P W M out Q ho hP hW hW10 h hr hE hQ
      change rLoop T n (rd T n w f) 6 8 o q (opN T n q) = some out at hr
      by_cases hk : isW T n 28 q
      · rw [show opN T n q = some 10 by unfold opN; rw [if_pos hk]] at hr
        change rB (rd T n w f 6 o (nx T n q)) (fun q1 c1 => rB (rd T n w f 8 o q1) (fun q2 c2 => some (.inr (q2, c1 ++ 10 :: c2)))) = some out at hr
        refine t_and (by omega) ht0 hs0 hk hP hW10 h (fun M1 h1 => ?_)
        have hW2 : wTe (10 :: W) := Or.inr (Or.inl rfl)
        rcases rB_inv hr with ⟨e, e1, rfl⟩ | ⟨q1, c1, e1, hr1⟩
        · exact iT o 0 _ (C ++ P) (10 :: W) M1 _ Q ho hW2 h1 e1 hE (fun q' cs e2 => by cases e2)
        · refine iT o 0 _ (C ++ P) (10 :: W) M1 (.inr (q1, c1)) Q ho hW2 h1 e1 (fun e e2 => by cases e2) (fun q' cs e2 M' h' => ?_)
          cases e2
          rw [List.replicate_zero, List.append_nil] at h'
          have hPk : ∀ p ∈ [(10 : Int)], p = 10 := fun p hp => List.mem_singleton.mp hp
          rcases rB_inv hr1 with ⟨e, e3, rfl⟩ | ⟨q2, c2, e3, hr2⟩
          · exact iC o q1 (C ++ P ++ c1) [10] W M' _ Q ho hPk hW hW10 h' e3 hE (fun q' cs e2 => by cases e2)
          · cases hr2
            refine iC o q1 (C ++ P ++ c1) [10] W M' (.inr (q2, c2)) Q ho hPk hW hW10 h' e3 (fun e e2 => by cases e2) (fun q' cs e2 hN M2 C' P' hP' hC h2 => ?_)
            cases e2
            refine hQ _ _ rfl hN M2 C' P' hP' ?_ h2
            rw [hC]
            simp
      · rw [show opN T n q = none by unfold opN; rw [if_neg hk]] at hr
        cases hr
        exact hQ _ _ rfl hk M C P hP (by rw [List.append_nil]) h
    · intro o q C W M out Q ho hW h hr hE hQ
      change rSeq (rd T n w f) 7 10 o q = some out at hr
      have hWt : wTe W := by
        rcases hW with e | e
        · exact Or.inl e
        · exact Or.inr (Or.inr (Or.inr e))
      rcases rB_inv hr with ⟨e, e1, rfl⟩ | ⟨q1, c1, e1, hr1⟩
      · exact iB o q C W M _ Q ho hWt (by omega) h e1 hE (fun q' cs e2 => by cases e2)
      · refine iB o q C W M (.inr (q1, c1)) Q ho hWt (by omega) h e1 (fun e e2 => by cases e2) (fun q' cs e2 hN M' C' P hP hC h' => ?_)
        cases e2
        have hP2 : ops2 P := fun p hp => Or.inl (hP p hp)
        rcases rB_inv hr1 with ⟨e, e3, rfl⟩ | ⟨q2, c2, e3, hr2⟩
        · exact iD o q1 C' P W M' _ Q ho hP2 hW hN h' e3 hE (fun q' cs e2 => by cases e2)
        · cases hr2
          refine iD o q1 C' P W M' (.inr (q2, c2)) Q ho hP2 hW hN h' e3 (fun e e2 => by cases e2) (fun q' cs e2 hN2 hO2 M2 C2 P2 hP3 hC2 h2 => ?_)
          cases e2
          refine hQ _ _ rfl hN2 hO2 M2 C2 P2 hP3 ?_ h2
          rw [hC2, hC, List.append_assoc]
    · intro o q C P W M out Q ho hP hW hN0 h hr hE hQ
      change rLoop T n (rd T n w f) 7 10 o q (opO T n q) = some out at hr
      by_cases hk : isW T n 27 q
      · rw [show opO T n q = some 11 by unfold opO; rw [if_pos hk]] at hr
        change rB (rd T n w f 7 o (nx T n q)) (fun q1 c1 => rB (rd T n w f 10 o q1) (fun q2 c2 => some (.inr (q2, c1 ++ 11 :: c2)))) = some out at hr
        refine t_or (by omega) ht0 hs0 hk hP (by omega) h (fun M1 h1 => ?_)
        have hW2 : wTe (11 :: W) := Or.inr (Or.inr (Or.inl rfl))
        rcases rB_inv hr with ⟨e, e1, rfl⟩ | ⟨q1, c1, e1, hr1⟩
        · exact iB o _ (C ++ P) (11 :: W) M1 _ Q ho hW2 (show (11 : Int) ≠ 10 by decide) h1 e1 hE (fun q' cs e2 => by cases e2)
        · refine iB o _ (C ++ P) (11 :: W) M1 (.inr (q1, c1)) Q ho hW2 (show (11 : Int) ≠ 10 by decide) h1 e1 (fun e e2 => by cases e2) (fun q' cs e2 hN M' C' P' hP' hC h' => ?_)
          cases e2
          have hPk : ops2 (P' ++ [11]) := fun p hp => by
            rcases List.mem_append.mp hp with hp | hp
            · exact Or.inl (hP' p hp)
            · exact Or.inr (List.mem_singleton.mp hp)
          have h'' : mG T n M0 q1 C' ((P' ++ [11]) ++ W) o b q1.1 M' := by rw [List.append_assoc]; exact h'
          rcases rB_inv hr1 with ⟨e, e3, rfl⟩ | ⟨q2, c2, e3, hr2⟩
          · exact iD o q1 C' (P' ++ [11]) W M' _ Q ho hPk hW hN h'' e3 hE (fun q' cs e2 => by cases e2)
          · cases hr2
            refine iD o q1 C' (P' ++ [11]) W M' (.inr (q2, c2)) Q ho hPk hW hN h'' e3 (fun e e2 => by cases e2) (fun q' cs e2 hN2 hO2 M2 C2 P2 hP2 hC2 h2 => ?_)
            cases e2
            refine hQ _ _ rfl hN2 hO2 M2 C2 P2 hP2 ?_ h2
            rw [hC2, ← List.append_assoc, hC]
            simp
      · rw [show opO T n q = none by unfold opO; rw [if_neg hk]] at hr
        cases hr
        exact hQ _ _ rfl hN0 hk M C P hP (by rw [List.append_nil]) h
theorem g_110 {q : pL} {o z : Nat} (hd : 1 < d) (hz : z ≤ 1650) : ∀ (P C : List Int) (M : bz_M), mG T n M0 q C P o b z M → w_T (eMo_qTest_110 Lg d M) (fun M' => mG T n M0 q (C ++ P) [] o b z M')
  | [], C, M, h => by
    have hl : M 319 123 = 0 := h.2.2.2.1.1
    refine T_le (eMo_qTest_110_E (by omega)) ?_
    rw [if_pos h.2.1.2.2.2.2.2.1, hl, if_neg (by decide), List.append_nil]
    exact T_some h
  | y :: P, C, M, h => by
    have hl : M 319 123 = ((y :: P).length : Int) := h.2.2.2.1.1
    refine T_le (eMo_qTest_110_E (by omega)) ?_
    rw [if_pos h.2.1.2.2.2.2.2.1, hl, if_pos (by rw [List.length_cons]; omega)]
    refine T_seq (g_drops (by omega) h hz) ?_
    intro M1 h1
    refine T_mono (g_110 hd hz P (C ++ [y]) M1 h1) (fun M2 h2 => ?_)
    rw [List.append_assoc] at h2
    exact h2
/-- a test -/
theorem mo_testR (hd : 12 < d) (hw : w = 2 ∨ w = 4 ∨ w = 8) (ht0 : mt T n M0) (hs0 : stM M0) (h61 : M0 319 61 = tkW w) {f : Nat} {q : pL} {C : List Int} {M : bz_M} {out : pO} (h : mG T n M0 q C [] 0 b q.1 M) (hr : rd T n w f 9 0 q = some out) : w_T (eMo_qTest Lg d M) (mFo T n M0 C [] 0 b out) := by
  have hn := ht0.1
  refine T_le eMo_qTest_E ?_
  refine (mt_all (Lg := Lg) (b := b) hd hw ht0 hs0 h61 f).2.2.2.1 0 q C [] M out _ (by decide) (Or.inl rfl) h hr ?_ ?_
  · intro e e1 M' h1 h2
    subst e1
    exact ⟨h1, h2⟩
  · intro q' cs e1 hN hO M' C' P hP hC h'
    subst e1
    have hq' := (mX_qOK h'.2.1).1
    have h25 : ¬ (25 : Int) ∈ P ++ [] := by
      rw [List.append_nil]
      intro e
      have := hP _ e
      omega
    refine t_rest (by omega) (by omega) ht0 hs0 hN hO h' (fun _ => h25) (fun e => absurd e h25) (fun _ M2 h2 => ?_)
    rw [List.append_nil] at h2
    refine T_mono (g_110 (by omega) (by omega) P C' M2 h2) (fun M3 h3 => ?_)
    rw [hC] at h3
    exact h3
end MZ

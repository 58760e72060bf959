/-! THE REFERENCE READS SUMS: all, by fuel -/
def msR (Lg d : Nat) (T : Nat → Int) (n : Nat) (w : Int) (M0 : bz_M) (b b0 : Int) (f : Nat) : Prop := ∀ (o : Nat) (q : pL) (C W : List Int) (z : Nat) (M : bz_M) (out : pO) (Q : bz_M → Prop), o ≤ 6 → (W.headD 0 ≠ 3 ∧ W.headD 0 ≠ 4) → W.headD 0 < 60 → b ≤ (W.length : Int) → z ≤ q.1 → mG T n M0 q C W o b z M → rd T n w f 1 o q = some out → mEnd M0 Q out → (∀ q' cs, out = .inr (q', cs) → opM T n q' = none → ∀ M' C' P, (∀ p ∈ P, p = 3 ∨ p = 4) → C' ++ P = C ++ cs → mG T n M0 q' C' (P ++ W) o b q'.1 M' → hG Lg d b0 Q M') → hH Lg d b0 Q M
def msL (Lg d : Nat) (T : Nat → Int) (n : Nat) (w : Int) (M0 : bz_M) (b b0 : Int) (f : Nat) : Prop := ∀ (o : Nat) (q : pL) (C P W : List Int) (M : bz_M) (out : pO) (Q : bz_M → Prop), o ≤ 6 → (∀ p ∈ P, p = 3 ∨ p = 4) → (W.headD 0 ≠ 3 ∧ W.headD 0 ≠ 4) → W.headD 0 < 60 → b ≤ (W.length : Int) → mG T n M0 q C (P ++ W) o b q.1 M → rd T n w f 2 o q = some out → mEnd M0 Q out → (∀ q' cs, out = .inr (q', cs) → opM T n q' = none → ∀ M' C' P', (∀ p ∈ P', p = 3 ∨ p = 4) → C' ++ P' = C ++ P ++ cs → mG T n M0 q' C' (P' ++ W) o b q'.1 M' → hG Lg d b0 Q M') → hG Lg d b0 Q M
def msT (Lg d : Nat) (T : Nat → Int) (n : Nat) (w : Int) (M0 : bz_M) (b b0 : Int) (f : Nat) : Prop := ∀ (o : Nat) (q : pL) (C P W : List Int) (M : bz_M) (out : pO) (Q : bz_M → Prop), o ≤ 6 → ops4 P → ¬ (1 ≤ W.headD 0 ∧ W.headD 0 ≤ 4) → W.headD 0 < 60 → b ≤ (W.length : Int) → opM T n q = none → mG T n M0 q C (P ++ W) o b q.1 M → rd T n w f 4 o q = some out → mEnd M0 Q out → (∀ q' cs, out = .inr (q', cs) → opM T n q' = none → opA T n q' = none → ∀ M' C' P', ops4 P' → C' ++ P' = C ++ P ++ cs → mG T n M0 q' C' (P' ++ W) o b q'.1 M' → hG Lg d b0 Q M') → hG Lg d b0 Q M
section MU
variable {Lg d n : Nat} {T : Nat → Int} {w : Int} {M0 : bz_M} {b b0 : Int}
theorem ms_part {f : Nat} (hd : 8 < d) (hw : w = 2 ∨ w = 4 ∨ w = 8) (ht0 : mt T n M0) (hs0 : stM M0) (h61 : M0 319 61 = tkW w) (hb0 : 0 ≤ b) (iP : msP Lg d T n w M0 b b0 f) (iS : msS Lg d T n w M0 b b0 f) : msP Lg d T n w M0 b b0 (f + 1) := by
  intro o q C O W z M out Q ho hO hW hb hz h hr hE hQ
  have hn := ht0.1
  have hq := mX_qOK h.2.1
  have hq1 := hq.1
  have h60 : ∀ p ∈ O, 60 ≤ p := fun p hp => by have := hO p hp; omega
  have hlW : b ≤ ((O ++ W).length : Int) := by rw [List.length_append]; omega
  change rPart T n w (rd T n w f) (o + O.length) q = some out at hr
  unfold rPart at hr
  have end_ : ∀ (k : Int) (pl : Nat) (M' : bz_M), out = .inl (k, pl) → mGf M0 k (pl : Int) M' → w_T (if (M' 319 5) = 0 then ((eMo_qGoesOn Lg (d - 1) M').bind (fun p1 => (if p1.1 = 0 then (eMo_qSums_15 Lg d b0 0 p1.2) else (eMo_qSums_15 Lg d b0 1 p1.2)))) else (eMo_qSums_15 Lg d b0 0 M')) Q := fun k pl M' e hm => h_f (by omega) hm (fun M2 h2 => hE _ e M2 h2)
  unfold hH
  refine h_look hd hw ht0 hs0 h61 h (fun p hp hm s => ?_) (fun p hp hm s ww => ?_) (fun p k hp hm s w1 w2 w8 hk => ?_) (fun p hp s w1 w2 w8 => ?_)
  · rw [if_neg (fun e => by rw [tD_3.mpr s.1] at e; cases e), if_pos s] at hr
    have gt := nx_gt hq (by rw [s.1]; decide)
    by_cases o6 : o + O.length < 6
    · rw [if_pos o6] at hr
      refine T_seq (g_opens (by omega) o6 hp (by omega)) ?_
      rintro M1 ⟨g1, g2⟩
      rw [g2, hm, w32_id (by omega) (by omega)]
      have g3 : mG T n M0 (nx T n q) C (20 :: (O ++ W)) (o + O.length + 1) b (nx T n q).1 (bz_up M1 319 2 ((q.1 : Int) + 1)) := mG_z (mG_X g1 (gX_up (by decide)) (mX_nxs ⟨g1.2.1, by rw [g2]; exact hm⟩ s.1 (bz_up_eq _ _ _ _) (fun k hk => bz_up_nk (by omega) _))) (by omega)
      rcases rB_inv hr with ⟨e, e1, rfl⟩ | ⟨q1, c1, e1, hr1⟩
      · exact iS (o + O.length + 1) _ C (20 :: (O ++ W)) _ _ _ Q (by omega) (show ¬ ((1 : Int) ≤ 20 ∧ (20 : Int) ≤ 4) by decide) (show (20 : Int) < 60 by decide) (by rw [List.length_cons]; omega) (Nat.le_refl _) g3 e1 hE (fun q' cs e2 => by cases e2)
      · refine iS (o + O.length + 1) _ C (20 :: (O ++ W)) _ _ (.inr (q1, c1)) Q (by omega) (show ¬ ((1 : Int) ≤ 20 ∧ (20 : Int) ≤ 4) by decide) (show (20 : Int) < 60 by decide) (by rw [List.length_cons]; omega) (Nat.le_refl _) g3 e1 (fun e e2 => by cases e2) (fun q' cs e2 hM hA M' C' P hP hC h' => ?_)
        cases e2
        by_cases s2 : isS T n 41 q1
        · rw [if_pos s2] at hr1
          cases hr1
          refine g_close_in (x := 20) (by omega) ht0 (Nat.le_refl _) (Or.inl rfl) hP h60 (by omega) hW hb hb0 h' s2 (fun M2 h2 => ?_)
          refine hQ _ _ rfl M2 ?_
          rw [if_pos rfl, List.append_nil, hC] at h2
          exact h2
        · rw [if_neg s2] at hr1
          cases hr1
          exact g_bad (y := 20) hd ht0 (Or.inl rfl) hM hA hP hlW hb0 h' (by omega) (fun _ => s2) (fun M2 h2 => hE _ rfl M2 h2)
    · rw [if_neg o6] at hr
      cases hr
      refine T_seq (g_opens0 (by omega) (by omega) hp (by omega)) ?_
      rintro M1 ⟨g1, g2⟩
      exact T_eq (pt_f (by omega) (mGf_up g1)) (end_ 4 q.1 _ rfl (mGf_up g1))
  · have pair : ∀ y k : Int, ((isW T n 31 q ∧ y = 21) ∨ (isW T n 32 q ∧ y = 22)) → ((y = 21 ∧ k = 5) ∨ (y = 22 ∧ k = 6)) → rPair T n (rd T n w f) (o + O.length) (nx T n q) k = some out → w_T (eMo_qPartTold_78 Lg (d - 1) 1 p) (fun M1 => w_T (if (M1 319 5) = 0 then ((eMo_qGoesOn Lg (d - 1) M1).bind (fun p1 => (if p1.1 = 0 then (eMo_qSums_15 Lg d b0 0 p1.2) else (eMo_qSums_15 Lg d b0 1 p1.2)))) else (eMo_qSums_15 Lg d b0 0 M1)) Q) := by
      intro y k hy hk hr
      unfold rPair at hr
      refine h_78 (y := y) hd ht0 hs0 hz hp ho hy (fun M1 s1 o6 g1 => ?_) (fun M1 s1 o6 g1 => ?_) (fun M1 s1 g1 => ?_)
      · rw [if_pos s1, if_pos o6] at hr
        have hyl : ¬ (1 ≤ (y :: (O ++ W)).headD 0 ∧ (y :: (O ++ W)).headD 0 ≤ 4) := by show ¬ (1 ≤ y ∧ y ≤ 4); omega
        have hy60 : (y :: (O ++ W)).headD 0 < 60 := by show y < 60; omega
        rcases rB_inv hr with ⟨e, e1, rfl⟩ | ⟨q1, c1, e1, hr1⟩
        · exact iS (o + O.length + 1) _ C (y :: (O ++ W)) _ _ _ Q (by omega) hyl hy60 (by rw [List.length_cons]; omega) (Nat.le_refl _) g1 e1 hE (fun q' cs e2 => by cases e2)
        · refine iS (o + O.length + 1) _ C (y :: (O ++ W)) _ _ (.inr (q1, c1)) Q (by omega) hyl hy60 (by rw [List.length_cons]; omega) (Nat.le_refl _) g1 e1 (fun e e2 => by cases e2) (fun q' cs e2 hM hA M' C' P hP hC h' => ?_)
          cases e2
          by_cases s2 : isS T n 44 q1
          · rw [if_pos s2] at hr1
            refine g_comma (y := y) hd ht0 (by omega) hM hA hP hlW hb0 h' s2 (fun M2 g2 => ?_)
            rw [hC] at g2
            have hyl2 : ¬ (1 ≤ ((y + 2) :: (O ++ W)).headD 0 ∧ ((y + 2) :: (O ++ W)).headD 0 ≤ 4) := by show ¬ (1 ≤ y + 2 ∧ y + 2 ≤ 4); omega
            have hy602 : ((y + 2) :: (O ++ W)).headD 0 < 60 := by show y + 2 < 60; omega
            rcases rB_inv hr1 with ⟨e, e3, rfl⟩ | ⟨q2, c2, e3, hr2⟩
            · exact iS (o + O.length + 1) _ (C ++ c1) ((y + 2) :: (O ++ W)) _ _ _ Q (by omega) hyl2 hy602 (by rw [List.length_cons]; omega) (Nat.le_refl _) g2 e3 hE (fun q' cs e2 => by cases e2)
            · refine iS (o + O.length + 1) _ (C ++ c1) ((y + 2) :: (O ++ W)) _ _ (.inr (q2, c2)) Q (by omega) hyl2 hy602 (by rw [List.length_cons]; omega) (Nat.le_refl _) g2 e3 (fun e e2 => by cases e2) (fun q' cs e2 hM2 hA2 M3 C3 P3 hP3 hC3 h3 => ?_)
              cases e2
              by_cases s3 : isS T n 41 q2
              · rw [if_pos s3] at hr2
                cases hr2
                refine g_close_in (x := y + 2) (by omega) ht0 (Nat.le_refl _) (by omega) hP3 h60 (by omega) hW hb hb0 h3 s3 (fun M4 h4 => ?_)
                refine hQ _ _ rfl M4 ?_
                rw [hC3] at h4
                have : (if y + 2 = 20 then ([] : List Int) else if y + 2 = 23 then [5] else [6]) = [k] := by
                  rcases hk with ⟨rfl, rfl⟩ | ⟨rfl, rfl⟩ <;> rfl
                rw [this] at h4
                rw [show C ++ (c1 ++ c2 ++ [k]) ++ O = C ++ c1 ++ c2 ++ [k] ++ O by simp]
                exact h4
              · rw [if_neg s3] at hr2
                cases hr2
                exact g_bad (y := y + 2) hd ht0 (by omega) hM2 hA2 hP3 hlW hb0 h3 (by omega) (fun _ => s3) (fun M2 h2 => hE _ rfl M2 h2)
          · rw [if_neg s2] at hr1
            cases hr1
            exact g_bad (y := y) hd ht0 (by omega) hM hA hP hlW hb0 h' (fun _ => s2) (by omega) (fun M2 h2 => hE _ rfl M2 h2)
      · rw [if_pos s1, if_neg o6] at hr
        cases hr
        exact end_ 4 _ M1 rfl g1
      · rw [if_neg s1] at hr
        cases hr
        exact end_ 1 _ M1 rfl g1
    by_cases w1 : isW T n 31 q
    · rw [if_neg (fun e => by rw [w1.1] at e; cases e), if_neg s, if_pos w1] at hr
      exact pair 21 5 (Or.inl ⟨w1, rfl⟩) (Or.inl ⟨rfl, rfl⟩) hr
    · have w2 : isW T n 32 q := by
        rcases ww with e | e
        · exact absurd e w1
        · exact e
      rw [if_neg (fun e => by rw [w2.1] at e; cases e), if_neg s, if_neg w1, if_pos w2] at hr
      exact pair 22 6 (Or.inr ⟨w2, rfl⟩) (Or.inr ⟨rfl, rfl⟩) hr
  · have hwd : tD T n q = 1 := by rcases hk with e | e <;> exact e.1.1
    have hF : ¬ isF T n w q := by
      intro e
      have e2 := e.2.2
      subst w8
      rcases hk with e3 | e3
      · rw [e3.1.2] at e2; exact e2 (by decide)
      · rw [e3.1.2] at e2; exact e2 (by decide)
    have hor : isW T n 16 q ∨ isW T n 17 q := by
      rcases hk with e | e
      · exact Or.inl e.1
      · exact Or.inr e.1
    have gt := nx_gt hq (by rw [(tD_k (Or.inl rfl) hwd).1]; decide)
    rw [if_neg (fun e => by rw [hwd] at e; cases e), if_neg s, if_neg w1, if_neg w2, if_neg hF, if_pos ⟨w8, hor⟩] at hr
    have hkk : (if isW T n 16 q then (60 : Int) else 61) = 42 + k := by
      rcases hk with e | e
      · rw [if_pos e.1, e.2]; rfl
      · rw [if_neg (fun e3 => by have := e3.2; have := e.1.2; omega), e.2]; rfl
    have hk18 : k = 18 ∨ k = 19 := by rcases hk with e | e <;> omega
    rw [show bz_w32 (bz_w32 (60 + k) - 18) = 42 + k by rw [w32_id (z := 60 + k) (by omega) (by omega), w32_id (by omega) (by omega)]; omega]
    by_cases o6 : o + O.length < 6
    · rw [if_pos o6, hkk] at hr
      refine T_seq (g_opens (by omega) o6 hp (by omega)) ?_
      rintro M1 ⟨g1, g2⟩
      refine T_seq (g_askw (by omega) (mG_st hs0 g1) (mG_mt ht0 g1) g1.2.1 (by omega) (by omega) (by
        rcases hk with e | e
        · rw [e.2]; exact e.1
        · rw [e.2]; exact e.1)) ?_
      rintro M2 ⟨a1, a2⟩
      have g3 : mG T n M0 (nx T n q) C ((42 + k) :: O ++ W) (o + ((42 + k) :: O).length) b (nx T n q).1 M2 := mG_z (mG_X g1 a2 a1) (by omega)
      rcases rB_inv hr with ⟨e, e1, rfl⟩ | ⟨q1, c1, e1, hr1⟩
      · refine iP o _ C ((42 + k) :: O) W _ M2 _ Q (by rw [List.length_cons]; omega) (fun p hp2 => ?_) hW hb (Nat.le_refl _) g3 e1 hE (fun q' cs e2 => by cases e2)
        rcases List.mem_cons.mp hp2 with e3 | e3
        · omega
        · exact hO p e3
      · cases hr1
        refine iP o _ C ((42 + k) :: O) W _ M2 (.inr (q1, c1)) Q (by rw [List.length_cons]; omega) (fun p hp2 => ?_) hW hb (Nat.le_refl _) g3 e1 (fun e e2 => by cases e2) (fun q' cs e2 M' h' => ?_)
        · rcases List.mem_cons.mp hp2 with e3 | e3
          · omega
          · exact hO p e3
        · cases e2
          refine hQ _ _ rfl M' ?_
          rw [show C ++ (c1 ++ [42 + k]) ++ O = C ++ c1 ++ (42 + k) :: O by simp]
          exact h'
    · rw [if_neg o6] at hr
      cases hr
      refine T_seq (g_opens0 (by omega) (by omega) hp (by omega)) ?_
      rintro M1 ⟨g1, g2⟩
      refine T_run (aw_f (by omega) g1 hk18) ?_
      exact T_eq (pt_f (by omega) g1) (end_ 4 q.1 M1 rfl g1)
  · refine h_atom (out := out) hd hw ht0 hs0 h61 hb0 ho hO hW hb hz hp ?_ (fun e e1 M' h' => end_ e.1 e.2 M' e1 h') (fun q' cs e1 M' h' => h_g h'.2.1.2.2.2.2.2.1 (hQ q' cs e1 M' h'))
    by_cases k2 : tD T n q = 2
    · rw [if_pos k2] at hr
      rw [if_neg (fun e => by rw [e.1] at k2; cases k2)]
      exact hr
    · rw [if_neg k2, if_neg s, if_neg w1, if_neg w2] at hr
      by_cases hF : isF T n w q
      · rw [if_pos hF] at hr ⊢
        exact hr
      · rw [if_neg hF] at hr ⊢
        rw [if_neg w8] at hr
        unfold rNum tNum
        rw [if_neg k2]
        exact hr
theorem ms_all (hd : 8 < d) (hw : w = 2 ∨ w = 4 ∨ w = 8) (ht0 : mt T n M0) (hs0 : stM M0) (h61 : M0 319 61 = tkW w) (hb0 : 0 ≤ b) : ∀ f : Nat, msP Lg d T n w M0 b b0 f ∧ msR Lg d T n w M0 b b0 f ∧ msL Lg d T n w M0 b b0 f ∧ msS Lg d T n w M0 b b0 f ∧ msT Lg d T n w M0 b b0 f
  | 0 => ⟨(fun o q C O W z M out Q _ _ _ _ _ _ hr => by cases hr), (fun o q C W z M out Q _ _ _ _ _ _ hr => by cases hr), (fun o q C P W M out Q _ _ _ _ _ _ hr => by cases hr), (fun o q C W z M out Q _ _ _ _ _ _ hr => by cases hr), (fun o q C P W M out Q _ _ _ _ _ _ _ hr => by cases hr)⟩
  | f + 1 => by
    obtain ⟨iP, iR, iL, iS, iT⟩ := ms_all hd hw ht0 hs0 h61 hb0 f
    refine ⟨ms_part hd hw ht0 hs0 h61 hb0 iP iS, ?_, ?_, ?_, ?_⟩
    · intro o q C W z M out Q ho hW3 hW hb hz h hr hE hQ
      change rSeq (rd T n w f) 0 2 o q = some out at hr
      rcases rB_inv hr with ⟨e, e1, rfl⟩ | ⟨q1, c1, e1, hr1⟩
      · exact iP o q C [] W z M _ Q (by simpa using ho) (by simp) hW hb hz h e1 hE (fun q' cs e2 => by cases e2)
      · refine iP o q C [] W z M (.inr (q1, c1)) Q (by simpa using ho) (by simp) hW hb hz h e1 (fun e e2 => by cases e2) (fun q' cs e2 M' h' => ?_)
        cases e2
        rw [List.append_nil] at h'
        rcases rB_inv hr1 with ⟨e, e3, rfl⟩ | ⟨q2, c2, e3, hr2⟩
        · exact iL o q1 (C ++ c1) [] W M' _ Q ho (by simp) hW3 hW hb h' e3 hE (fun q' cs e2 => by cases e2)
        · cases hr2
          refine iL o q1 (C ++ c1) [] W M' (.inr (q2, c2)) Q ho (by simp) hW3 hW hb h' e3 (fun e e2 => by cases e2) (fun q' cs e2 hM M2 C' P hP hC h2 => ?_)
          cases e2
          refine hQ _ _ rfl hM M2 C' P hP ?_ h2
          rw [hC, List.append_nil, List.append_assoc]
    · intro o q C P W M out Q ho hP hW3 hW hb h hr hE hQ
      change rLoop T n (rd T n w f) 0 2 o q (opM T n q) = some out at hr
      cases hk : opM T n q with
      | none =>
        rw [hk] at hr
        cases hr
        exact hQ _ _ rfl hk M C P hP (by rw [List.append_nil]) h
      | some k =>
        rw [hk] at hr
        change rB (rd T n w f 0 o (nx T n q)) (fun q1 c1 => rB (rd T n w f 2 o q1) (fun q2 c2 => some (.inr (q2, c1 ++ k :: c2)))) = some out at hr
        have hk3 := (opM_in hk).1
        refine g_mul (by omega) ht0 hk hP hW3 h (fun M1 h1 => ?_)
        rcases rB_inv hr with ⟨e, e1, rfl⟩ | ⟨q1, c1, e1, hr1⟩
        · exact iP o _ (C ++ P) [] (k :: W) _ M1 _ Q (by simpa using ho) (by simp) (by show k < 60; omega) (by rw [List.length_cons]; omega) (Nat.le_refl _) h1 e1 hE (fun q' cs e2 => by cases e2)
        · refine iP o _ (C ++ P) [] (k :: W) _ M1 (.inr (q1, c1)) Q (by simpa using ho) (by simp) (by show k < 60; omega) (by rw [List.length_cons]; omega) (Nat.le_refl _) h1 e1 (fun e e2 => by cases e2) (fun q' cs e2 M' h' => ?_)
          cases e2
          rw [List.append_nil] at h'
          have hPk : ∀ p ∈ [k], p = 3 ∨ p = 4 := fun p hp => by rw [List.mem_singleton.mp hp]; exact hk3
          rcases rB_inv hr1 with ⟨e, e3, rfl⟩ | ⟨q2, c2, e3, hr2⟩
          · exact iL o q1 (C ++ P ++ c1) [k] W M' _ Q ho hPk hW3 hW hb h' e3 hE (fun q' cs e2 => by cases e2)
          · cases hr2
            refine iL o q1 (C ++ P ++ c1) [k] W M' (.inr (q2, c2)) Q ho hPk hW3 hW hb h' e3 (fun e e2 => by cases e2) (fun q' cs e2 hM M2 C' P' hP' hC h2 => ?_)
            cases e2
            refine hQ _ _ rfl hM M2 C' P' hP' ?_ h2
            rw [hC]
            simp
    · intro o q C W z M out Q ho hW4 hW hb hz h hr hE hQ
      change rSeq (rd T n w f) 1 4 o q = some out at hr
      have hW3 : W.headD 0 ≠ 3 ∧ W.headD 0 ≠ 4 := by omega
      have o4 : ∀ P : List Int, (∀ p ∈ P, p = 3 ∨ p = 4) → ops4 P := fun P hP p hp => by have := hP p hp; omega
      rcases rB_inv hr with ⟨e, e1, rfl⟩ | ⟨q1, c1, e1, hr1⟩
      · exact iR o q C W z M _ Q ho hW3 hW hb hz h e1 hE (fun q' cs e2 => by cases e2)
      · refine iR o q C W z M (.inr (q1, c1)) Q ho hW3 hW hb hz h e1 (fun e e2 => by cases e2) (fun q' cs e2 hM M' C' P hP hC h' => ?_)
        cases e2
        rcases rB_inv hr1 with ⟨e, e3, rfl⟩ | ⟨q2, c2, e3, hr2⟩
        · exact iT o q1 C' P W M' _ Q ho (o4 P hP) hW4 hW hb hM h' e3 hE (fun q' cs e2 => by cases e2)
        · cases hr2
          refine iT o q1 C' P W M' (.inr (q2, c2)) Q ho (o4 P hP) hW4 hW hb hM h' e3 (fun e e2 => by cases e2) (fun q' cs e2 hM2 hA2 M2 C2 P2 hP2 hC2 h2 => ?_)
          cases e2
          refine hQ _ _ rfl hM2 hA2 M2 C2 P2 hP2 ?_ h2
          rw [hC2, hC, List.append_assoc]
    · intro o q C P W M out Q ho hP hW4 hW hb hM0 h hr hE hQ
      change rLoop T n (rd T n w f) 1 4 o q (opA T n q) = some out at hr
      cases hk : opA T n q with
      | none =>
        rw [hk] at hr
        cases hr
        exact hQ _ _ rfl hM0 hk M C P hP (by rw [List.append_nil]) h
      | some k =>
        rw [hk] at hr
        change rB (rd T n w f 1 o (nx T n q)) (fun q1 c1 => rB (rd T n w f 4 o q1) (fun q2 c2 => some (.inr (q2, c1 ++ k :: c2)))) = some out at hr
        have hk3 := (opA_in hk).1
        have kW3 : (k :: W).headD 0 ≠ 3 ∧ (k :: W).headD 0 ≠ 4 := by show k ≠ 3 ∧ k ≠ 4; omega
        refine g_add (by omega) ht0 hk hP hW4 h (fun M1 h1 => ?_)
        rcases rB_inv hr with ⟨e, e1, rfl⟩ | ⟨q1, c1, e1, hr1⟩
        · exact iR o _ (C ++ P) (k :: W) _ M1 _ Q ho kW3 (by show k < 60; omega) (by rw [List.length_cons]; omega) (Nat.le_refl _) h1 e1 hE (fun q' cs e2 => by cases e2)
        · refine iR o _ (C ++ P) (k :: W) _ M1 (.inr (q1, c1)) Q ho kW3 (by show k < 60; omega) (by rw [List.length_cons]; omega) (Nat.le_refl _) h1 e1 (fun e e2 => by cases e2) (fun q' cs e2 hM M' C' P' hP' hC h' => ?_)
          cases e2
          have hPk : ops4 (P' ++ [k]) := fun p hp => by
            rcases List.mem_append.mp hp with hp | hp
            · have := hP' p hp; omega
            · rw [List.mem_singleton.mp hp]; omega
          have h'' : mG T n M0 q1 C' ((P' ++ [k]) ++ W) o b q1.1 M' := by rw [List.append_assoc]; exact h'
          rcases rB_inv hr1 with ⟨e, e3, rfl⟩ | ⟨q2, c2, e3, hr2⟩
          · exact iT o q1 C' (P' ++ [k]) W M' _ Q ho hPk hW4 hW hb hM h'' e3 hE (fun q' cs e2 => by cases e2)
          · cases hr2
            refine iT o q1 C' (P' ++ [k]) W M' (.inr (q2, c2)) Q ho hPk hW4 hW hb hM h'' e3 (fun e e2 => by cases e2) (fun q' cs e2 hM2 hA2 M2 C2 P2 hP2 hC2 h2 => ?_)
            cases e2
            refine hQ _ _ rfl hM2 hA2 M2 C2 P2 hP2 ?_ h2
            rw [hC2, ← List.append_assoc, hC]
            simp
theorem g_53 {q : pL} {W : List Int} {o z : Nat} (hd : 1 < d) (hz : z ≤ 1650) (hb : b = (W.length : Int)) : ∀ (P C : List Int) (M : bz_M), mG T n M0 q C (P ++ W) o b z M → w_T (eMo_qSums_53 Lg d b0 M) (fun M' => mG T n M0 q (C ++ P) W o b0 z M')
  | [], C, M, h => by
    have h : mG T n M0 q C W o b z M := h
    refine T_le (eMo_qSums_53_E (by omega)) ?_
    rw [if_pos h.2.1.2.2.2.2.2.1, h.2.2.2.2.2.1, h.2.2.2.1.1, if_neg (by omega), List.append_nil]
    exact T_some (g_b h)
  | y :: P, C, M, h => by
    have hl : M 319 123 = ((y :: P ++ W).length : Int) := h.2.2.2.1.1
    refine T_le (eMo_qSums_53_E (by omega)) ?_
    rw [if_pos h.2.1.2.2.2.2.2.1, h.2.2.2.2.2.1, hl, if_pos (by simp; omega)]
    refine T_seq (g_drops (by omega) h hz) ?_
    intro M1 h1
    refine T_mono (g_53 hd hz hb P (C ++ [y]) M1 h1) (fun M2 h2 => ?_)
    rw [List.append_assoc] at h2
    exact h2
/-- a sum -/
theorem mo_sumsR (hd : 8 < d) (hw : w = 2 ∨ w = 4 ∨ w = 8) (ht0 : mt T n M0) (hs0 : stM M0) (h61 : M0 319 61 = tkW w) {f o z : Nat} {q : pL} {C W : List Int} {M : bz_M} {out : pO} (ho : o ≤ 6) (hW4 : ¬ (1 ≤ W.headD 0 ∧ W.headD 0 ≤ 4)) (hW : W.headD 0 < 60) (hz : z ≤ q.1) (h : mG T n M0 q C W o b z M) (hr : rd T n w f 3 o q = some out) : w_T (eMo_qSums Lg d M) (fun M' => match out with | .inl e => mGf M0 e.1 (e.2 : Int) M' | .inr p => mG T n M0 p.1 (C ++ p.2) W o b p.1.1 M') := by
  have hn := ht0.1
  refine T_le eMo_qSums_E ?_
  have h1 : mG T n M0 q C W o (W.length : Int) z (bz_up M 319 125 (M 319 123)) := by rw [h.2.2.2.1.1]; exact g_b h
  rw [h.2.2.2.2.2.1]
  refine s_15 (by omega) h1.2.1.2.2.2.2.2.1 ?_
  refine (ms_all (Lg := Lg) (b0 := b) hd hw ht0 hs0 h61 (b := (W.length : Int)) (by omega) f).2.2.2.1 o q C W z _ out _ ho hW4 hW (Int.le_refl _) hz h1 hr ?_ ?_
  · intro e e1 M' h'
    subst e1
    exact h'
  · intro q' cs e1 hM hA M' C' P hP hC h'
    subst e1
    have hq' := (mX_qOK h'.2.1).1
    refine g_rest (x := -1) (by omega) ht0 hM hA (fun M2 h2 d' hd' => g_brk0 hd' (by omega) (ops4_b hP) rfl h2) (fun _ => by decide) h' (fun M2 h2 hm => ?_)
    rw [if_neg (by decide), if_neg (by decide), if_pos rfl]
    refine T_some (k_0 ?_)
    refine T_le (eMo_qSums_15_E (by omega)) ?_
    rw [if_pos rfl]
    refine T_mono (g_53 (by omega) (by omega) rfl P C' M2 h2) (fun M3 h3 => ?_)
    rw [hC] at h3
    exact h3
end MU

/-! THE REFERENCE READS SUMS: a part -/
def mEnd (M0 : bz_M) (Q : bz_M → Prop) (out : pO) : Prop := ∀ e, out = .inl e → ∀ M', mGf M0 e.1 (e.2 : Int) M' → Q M'
def msP (Lg d : Nat) (T : Nat → Int) (n : Nat) (w : Int) (M0 : bz_M) (b b0 : Int) (f : Nat) : Prop := ∀ (o : Nat) (q : pL) (C O W : List Int) (z : Nat) (M : bz_M) (out : pO) (Q : bz_M → Prop), o + O.length ≤ 6 → (∀ p ∈ O, p = 60 ∨ p = 61) → W.headD 0 < 60 → b ≤ (W.length : Int) → z ≤ q.1 → mG T n M0 q C (O ++ W) (o + O.length) b z M → rd T n w f 0 (o + O.length) q = some out → mEnd M0 Q out → (∀ q' cs, out = .inr (q', cs) → ∀ M', mG T n M0 q' (C ++ cs ++ O) W o b q'.1 M' → hG Lg d b0 Q M') → hH Lg d b0 Q M
def msS (Lg d : Nat) (T : Nat → Int) (n : Nat) (w : Int) (M0 : bz_M) (b b0 : Int) (f : Nat) : Prop := ∀ (o : Nat) (q : pL) (C W : List Int) (z : Nat) (M : bz_M) (out : pO) (Q : bz_M → Prop), o ≤ 6 → ¬ (1 ≤ W.headD 0 ∧ W.headD 0 ≤ 4) → W.headD 0 < 60 → b ≤ (W.length : Int) → z ≤ q.1 → mG T n M0 q C W o b z M → rd T n w f 3 o q = some out → mEnd M0 Q out → (∀ q' cs, out = .inr (q', cs) → opM T n q' = none → opA T n q' = none → ∀ M' C' P, ops4 P → C' ++ P = C ++ cs → mG T n M0 q' C' (P ++ W) o b q'.1 M' → hG Lg d b0 Q M') → hH Lg d b0 Q M
section MT
variable {Lg d n : Nat} {T : Nat → Int} {w : Int} {M0 : bz_M} {b b0 : Int}
theorem mGf_up {k pl x : Int} {M : bz_M} (h : mGf M0 k pl M) : mGf M0 k pl (bz_up M 319 2 x) := ⟨gF_trans h.1 (gF_k (by decide)), ⟨by rw [bz_up_nk (by decide)]; exact h.2.1.1, h.2.1.2.1, by rw [bz_up_nk (by decide)]; exact h.2.1.2.2⟩, by rw [bz_up_nk (by decide)]; exact h.2.2⟩
theorem pt_f {k pl : Int} {M : bz_M} (hd : 0 < d) (h : mGf M0 k pl M) : eMo_qPartTold_2 Lg d 1 M = some M := by
  refine eMo_qPartTold_2_E hd _ ?_
  have h5 : ¬ M 319 5 = 0 := by rw [h.2.1.1]; exact h.2.1.2.1
  rw [if_neg (by decide), if_neg h5, if_neg h5]
theorem aw_f {k pl x : Int} {M : bz_M} (hd : 1 < d) (h : mGf M0 k pl M) (hx : x = 18 ∨ x = 19) : eMo_qAsksWord Lg d x M = some M := by
  refine eMo_qAsksWord_E (by omega) _ ?_
  rcases hx with rfl | rfl
  · rw [if_neg (by decide), if_neg (by decide), if_neg (by decide), if_neg (by decide), if_neg (by decide), if_neg (by decide), if_neg (by decide), if_neg (by decide), if_neg (by decide), if_neg (by decide), if_neg (by decide), if_neg (by decide), if_neg (by decide), if_neg (by decide), if_neg (by decide), if_neg (by decide), if_neg (by decide), if_neg (by decide), if_pos rfl, mo_as_f (by omega) h.2.1]
    rfl
  · rw [if_neg (by decide), if_neg (by decide), if_neg (by decide), if_neg (by decide), if_neg (by decide), if_neg (by decide), if_neg (by decide), if_neg (by decide), if_neg (by decide), if_neg (by decide), if_neg (by decide), if_neg (by decide), if_neg (by decide), if_neg (by decide), if_neg (by decide), if_neg (by decide), if_neg (by decide), if_neg (by decide), if_neg (by decide), mo_as_f (by omega) h.2.1]
    rfl
/-- ahead of a part: what is looked at first -/
theorem h_look {q : pL} {C W : List Int} {o z : Nat} {M : bz_M} {Q : bz_M → Prop} (hd : 8 < d) (hw : w = 2 ∨ w = 4 ∨ w = 8) (ht0 : mt T n M0) (hs0 : stM M0) (h61 : M0 319 61 = tkW w) (h : mG T n M0 q C W o b z M) (h1 : ∀ p, mG T n M0 q C W o b z p → p 319 2 = (q.1 : Int) → isS T n 40 q → w_T ((eMo_qOpens Lg (d - 1 - 1) 20 (q.1 : Int) p).bind (fun M2 => eMo_qPartTold_2 Lg (d - 1) 1 (bz_up M2 319 2 (bz_w32 ((M2 319 2) + 1))))) Q) (h2 : ∀ p, mG T n M0 q C W o b z p → p 319 2 = (q.1 : Int) → ¬ isS T n 40 q → (isW T n 31 q ∨ isW T n 32 q) → w_T (eMo_qPartTold_78 Lg (d - 1) 1 p) Q) (h3 : ∀ p k, mG T n M0 q C W o b z p → p 319 2 = (q.1 : Int) → ¬ isS T n 40 q → ¬ isW T n 31 q → ¬ isW T n 32 q → w = 8 → ((isW T n 16 q ∧ k = 18) ∨ (isW T n 17 q ∧ k = 19)) → w_T ((eMo_qOpens Lg (d - 1 - 1) (bz_w32 ((bz_w32 (60 + k)) - 18)) (q.1 : Int) p).bind (fun M3 => (eMo_qAsksWord Lg (d - 1 - 1) k M3).bind (fun M4 => eMo_qPartTold_2 Lg (d - 1) 1 M4))) Q) (h4 : ∀ p, mG T n M0 q C W o b z p → ¬ isS T n 40 q → ¬ isW T n 31 q → ¬ isW T n 32 q → ¬ (w = 8 ∧ (isW T n 16 q ∨ isW T n 17 q)) → w_T (eMo_qPartTold_2 Lg (d - 1) 0 p) Q) : w_T (eMo_qPartTold_2 Lg (d - 1) 1 M) Q := by
  have e61 : ∀ p, mG T n M0 q C W o b z p → p 319 61 = tkW w := fun p hp => by rw [hp.1.2 61 (by decide)]; exact h61
  refine T_le (eMo_qPartTold_2_E (by omega)) ?_
  rw [if_neg (by decide), if_pos h.2.1.2.2.2.2.2.1]
  refine T_seq (mo_look (mG_mt ht0 h) h.2.1) ?_
  rintro ⟨p1, p2⟩ ⟨e1, e2, e3⟩
  dsimp only at e1 e2 e3 ⊢
  have g1 := mG_X h (gX_2 e3) e2.1
  refine T_seq (g_wof (by omega) hw (mG_st hs0 g1) (mG_mt ht0 g1) g1.2.1 (e61 p2 g1) (by decide)) ?_
  rintro ⟨r1, r2⟩ ⟨f1, f2, f3⟩
  dsimp only at f1 f2 f3 ⊢
  have g2 := mG_X g1 (gX_2 f3) f2.1
  rw [kOf_of hw] at f1
  rw [e1]
  by_cases c1 : isS T n 40 q
  · rw [if_pos ((lk_S (by decide) (by decide) (by decide)).mpr c1), f2.2]
    exact h1 r2 g2 f2.2 c1
  rw [if_neg (fun e => c1 ((lk_S (by decide) (by decide) (by decide)).mp e))]
  refine T_seq (mo_isHere (r := 386) (by omega) (by decide) (mG_st hs0 g2) (mG_mt ht0 g2) g2.2.1) ?_
  rintro ⟨s1, s2⟩ ⟨k1, k2, k3⟩
  dsimp only at k1 k2 k3 ⊢
  have g3 := mG_X g2 (gX_2 k3) k2.1
  have k1' : s1 = bz_b (isW T n 31 q) := k1
  rw [k1']
  by_cases c2 : isW T n 31 q
  · rw [bz_b1.mpr c2, if_neg (by decide)]
    exact h2 s2 g3 k2.2 c1 (Or.inl c2)
  rw [bz_b0.mpr c2, if_pos rfl]
  refine T_seq (mo_isHere (r := 387) (by omega) (by decide) (mG_st hs0 g3) (mG_mt ht0 g3) g3.2.1) ?_
  rintro ⟨t1, t2⟩ ⟨l1, l2, l3⟩
  dsimp only at l1 l2 l3 ⊢
  have g4 := mG_X g3 (gX_2 l3) l2.1
  have l1' : t1 = bz_b (isW T n 32 q) := l1
  rw [l1']
  by_cases c3 : isW T n 32 q
  · rw [bz_b1.mpr c3, if_neg (by decide)]
    exact h2 t2 g4 l2.2 c1 (Or.inr c3)
  rw [bz_b0.mpr c3, if_pos rfl]
  by_cases c4 : w = 8 ∧ (isW T n 16 q ∨ isW T n 17 q)
  · rw [l2.2]
    by_cases c5 : isW T n 16 q
    · rw [if_pos ⟨c4.1, c5⟩] at f1
      rw [f1, if_neg (by decide)]
      exact h3 t2 18 g4 l2.2 c1 c2 c3 c4.1 (Or.inl ⟨c5, rfl⟩)
    · have c6 : isW T n 17 q := by
        rcases c4.2 with e | e
        · exact absurd e c5
        · exact e
      rw [if_neg (fun e => c5 e.2), if_pos ⟨c4.1, c6⟩] at f1
      rw [f1, if_neg (by decide)]
      exact h3 t2 19 g4 l2.2 c1 c2 c3 c4.1 (Or.inr ⟨c6, rfl⟩)
  · rw [if_neg (fun e => c4 ⟨e.1, Or.inl e.2⟩), if_neg (fun e => c4 ⟨e.1, Or.inr e.2⟩)] at f1
    rw [f1, if_pos rfl]
    exact h4 t2 g4 c1 c2 c3 c4
/-- a number or a word -/
theorem h_atom {q : pL} {C O W : List Int} {o z : Nat} {M : bz_M} {Q : bz_M → Prop} {out : pO} (hd : 8 < d) (hw : w = 2 ∨ w = 4 ∨ w = 8) (ht0 : mt T n M0) (hs0 : stM M0) (h61 : M0 319 61 = tkW w) (hb0 : 0 ≤ b) (ho : o + O.length ≤ 6) (hO : ∀ p ∈ O, p = 60 ∨ p = 61) (hW : W.headD 0 < 60) (hb : b ≤ (W.length : Int)) (hz : z ≤ q.1) (h : mG T n M0 q C (O ++ W) (o + O.length) b z M) (hr : (if isF T n w q then some (.inr (nx T n q, [40 + wFa (wd T n q.1)])) else rNum T n q) = some out) (hE : mEnd M0 (fun M' => Q M') out) (hQ : ∀ q' cs, out = .inr (q', cs) → ∀ M', mG T n M0 q' (C ++ cs ++ O) W o b q'.1 M' → Q M') : w_T (eMo_qPartTold_2 Lg (d - 1) 0 M) Q := by
  have hn := ht0.1
  have hq := mX_qOK h.2.1
  have hq1 := hq.1
  have e61 : M 319 61 = tkW w := by rw [h.1.2 61 (by decide)]; exact h61
  have h60 : ∀ p ∈ O, 60 ≤ p := fun p hp => by have := hO p hp; omega
  refine T_le (eMo_qPartTold_2_E (by omega)) ?_
  rw [if_pos rfl, if_pos h.2.1.2.2.2.2.2.1]
  refine T_seq (g_wof (by omega) hw (mG_st hs0 h) (mG_mt ht0 h) h.2.1 e61 (by decide)) ?_
  rintro ⟨r1, r2⟩ ⟨f1, f2, f3⟩
  dsimp only at f1 f2 f3 ⊢
  have g2 := mG_X h (gX_2 f3) f2.1
  rw [kOf_part hw] at f1
  by_cases c : isF T n w q
  · rw [if_pos c] at hr f1
    cases hr
    have hfr := wFa_rg hw c.2.1 c.2.2
    have gt := nx_gt hq (by rw [(tD_k (Or.inl rfl) c.1).1]; decide)
    rw [f1, if_neg (by omega)]
    have hri : rI (388 + (wFa (wd T n q.1)).toNat) = wd T n q.1 := by
      have c2 := c.2.2
      rcases hw with rfl | rfl | rfl
      · exact rI_2 _ c.2.1 c2
      · exact rI_4 _ c.2.1 c2
      · exact rI_8 _ c.2.1 c2
    refine T_seq (g_askw (by omega) (mG_st hs0 g2) (mG_mt ht0 g2) g2.2.1 hfr.1 (by omega) (by rw [hri]; exact ⟨c.1, rfl⟩)) ?_
    rintro M1 ⟨a1, a2⟩
    have g3 := mG_X g2 a2 a1
    refine T_le (eMo_qPartTold_212_E (by omega)) ?_
    rw [if_neg (by omega), w32_id (by omega) (by omega)]
    refine T_seq (g_code g3 (by omega)) ?_
    intro M2 g4
    refine T_seq (g_ends (by omega) (by omega) hW hb hb0 (by omega) O _ _ h60 ho g4) ?_
    intro M3 g5
    exact T_some (hQ _ _ rfl M3 (mG_z g5 (by omega)))
  · rw [if_neg c] at hr f1
    rw [f1, if_pos rfl]
    refine T_le (eMo_qPartTold_212_E (by omega)) ?_
    rw [if_pos rfl]
    refine T_seq (mo_num (by omega) (mG_mt ht0 g2) g2.2.1) ?_
    rintro ⟨v1, v2⟩ ⟨a1, a2⟩
    dsimp only at a2 ⊢
    unfold rNum at hr
    cases hv : tNum T n 0 9999 q with
    | inl e =>
      rw [hv] at hr a1
      cases hr
      obtain ⟨b1, b2⟩ := a1
      dsimp only at b1 b2
      have e121 : v2 319 121 = (C.length : Int) := by rw [a2.2 121 (by decide) (by decide) (by decide) (by decide) (by decide) (by decide)]; exact g2.2.2.1.1
      have hl : C.length ≤ z := by have := g2.2.2.2.2.2.2; omega
      refine T_seq (R := fun M' => mGf M0 e.1 (e.2 : Int) M') (T_le eMo_qCode_E ?_) ?_
      · rw [e121, if_pos (by omega), w32_id (z := (C.length : Int) + 1) (by omega) (by omega)]
        refine T_some ⟨gF_trans g2.1 (gF_trans (gF_X a2) (gF_trans gF_8 (gF_k (by decide)))), ⟨?_, b2.2.1, ?_⟩, ?_⟩
        · rw [bz_up_nk (by decide), bz_up_nr (by decide)]; exact b2.1
        · rw [bz_up_nk (by decide), bz_up_nr (by decide)]; exact b2.2.2
        · rw [bz_up_eq]; omega
      · intro M2 g4
        have : eMo_qEndsPart Lg (d - 1 - 1) M2 = some M2 := eMo_qEndsPart_E (by omega) _ (by rw [if_neg (by rw [g4.2.1.1]; exact g4.2.1.2.1)])
        rw [this]
        exact T_some (hE _ rfl M2 g4)
    | inr v =>
      rw [hv] at hr a1
      cases hr
      obtain ⟨b1, b2, _⟩ := a1
      dsimp only at b1 b2
      have hvb := (tNum_in hv).1
      have gt := nx_gt hq (by rw [(tD_k (Or.inr rfl) (tNum_in hv).2).1]; decide)
      have g3 := mG_X g2 a2 b2
      rw [b1, w32_id (by omega) (by omega)]
      refine T_seq (g_code g3 (by omega)) ?_
      intro M2 g4
      refine T_seq (g_ends (by omega) (by omega) hW hb hb0 (by omega) O _ _ h60 ho g4) ?_
      intro M3 g5
      exact T_some (hQ _ _ rfl M3 (mG_z g5 (by omega)))
/-- min or max, behind its word -/
theorem h_118 {q : pL} {C W : List Int} {o z : Nat} {M : bz_M} {R : bz_M → Prop} {x y : Int} (hd : 8 < d) (ht0 : mt T n M0) (hz : z ≤ q.1) (h : mG T n M0 q C W o b z M) (ho6 : o ≤ 6) (hm : M 319 2 = (q.1 : Int)) (hx : (x = 0 ∧ y = 22) ∨ (x = 1 ∧ y = 21)) (h1 : ∀ M', isS T n 40 q → o < 6 → mG T n M0 (nx T n q) C (y :: W) (o + 1) b (nx T n q).1 M' → w_T (eMo_qPartTold_2 Lg (d - 1) 1 M') R) (h2 : ∀ M', isS T n 40 q → ¬ o < 6 → mGf M0 4 (q.1 : Int) M' → R M') (h3 : ∀ M', ¬ isS T n 40 q → mGf M0 1 (q.1 : Int) M' → R M') : w_T (if lkV T n q = 40 then eMo_qPartTold_118 Lg (d - 1) 1 x (M 319 2) M else eMo_qPartTold_118 Lg (d - 1) 1 x (-1) M) R := by
  have hn := ht0.1
  have hq := mX_qOK h.2.1
  have hq1 := hq.1
  by_cases s : isS T n 40 q
  · have gt := nx_gt hq (by rw [s.1]; decide)
    rw [if_pos ((lk_S (by decide) (by decide) (by decide)).mpr s), hm]
    refine T_le (eMo_qPartTold_118_E (by omega)) ?_
    rw [if_neg (by omega)]
    have fin : w_T ((eMo_qOpens Lg (d - 1 - 1) y (q.1 : Int) M).bind (fun M2 => (eMo_asksSign Lg (d - 1 - 1) 40 M2).bind (fun M3 => eMo_qPartTold_2 Lg (d - 1) 1 M3))) R := by
      by_cases o6 : o < 6
      · refine T_seq (g_opens (by omega) o6 h (by omega)) ?_
        rintro M1 ⟨g1, _⟩
        refine T_seq (mo_asg1 (by omega) (mG_mt ht0 g1) g1.2.1 (by decide) (by decide) (by decide) s) ?_
        rintro M2 ⟨a1, a2⟩
        exact h1 M2 s o6 (mG_z (mG_X g1 a2 a1) (by omega))
      · refine T_seq (g_opens0 (by omega) (by omega) h (by omega)) ?_
        rintro M1 ⟨g1, _⟩
        refine T_run (mo_asg_f (by omega) g1.2.1) ?_
        exact T_eq (pt_f (by omega) g1) (h2 M1 s o6 g1)
    rcases hx with ⟨rfl, rfl⟩ | ⟨rfl, rfl⟩
    · rw [if_pos rfl]; exact fin
    · rw [if_neg (by decide)]; exact fin
  · rw [if_neg (fun e => s ((lk_S (by decide) (by decide) (by decide)).mp e))]
    refine T_le (eMo_qPartTold_118_E (by omega)) ?_
    rw [if_pos rfl]
    refine T_seq (mo_asg0 (by omega) (mG_mt ht0 h) h.2.1 (by decide) (by decide) (by decide) s) ?_
    rintro M1 ⟨a1, a2⟩
    have g1 := mG_f h (by omega) a2 a1
    exact T_eq (pt_f (by omega) g1) (h3 M1 s g1)
theorem h_78 {q : pL} {C W : List Int} {o z : Nat} {M : bz_M} {R : bz_M → Prop} {y : Int} (hd : 8 < d) (ht0 : mt T n M0) (hs0 : stM M0) (hz : z ≤ q.1) (h : mG T n M0 q C W o b z M) (ho6 : o ≤ 6) (hx : (isW T n 31 q ∧ y = 21) ∨ (isW T n 32 q ∧ y = 22)) (h1 : ∀ M', isS T n 40 (nx T n q) → o < 6 → mG T n M0 (nx T n (nx T n q)) C (y :: W) (o + 1) b (nx T n (nx T n q)).1 M' → w_T (eMo_qPartTold_2 Lg (d - 1) 1 M') R) (h2 : ∀ M', isS T n 40 (nx T n q) → ¬ o < 6 → mGf M0 4 ((nx T n q).1 : Int) M' → R M') (h3 : ∀ M', ¬ isS T n 40 (nx T n q) → mGf M0 1 ((nx T n q).1 : Int) M' → R M') : w_T (eMo_qPartTold_78 Lg (d - 1) 1 M) R := by
  have hq := mX_qOK h.2.1
  refine T_le (eMo_qPartTold_78_E (by omega)) ?_
  by_cases c : isW T n 31 q
  · have hy : y = 21 := by
      rcases hx with e | e
      · exact e.2
      · have := e.1.2; have := c.2; omega
    have gt := nx_gt hq (isW_k c)
    refine T_seq (mo_tk1 (r := 386) (by omega) (by decide) (mG_st hs0 h) (mG_mt ht0 h) h.2.1 c) ?_
    rintro ⟨p1, p2⟩ ⟨e1, e2, e3⟩
    dsimp only at e1 e2 e3 ⊢
    rw [e1, if_neg (by decide)]
    have g1 := mG_X h e3 e2
    refine T_seq (mo_look (mG_mt ht0 g1) g1.2.1) ?_
    rintro ⟨r1, r2⟩ ⟨f1, f2, f3⟩
    dsimp only at f1 f2 f3 ⊢
    rw [f1]
    exact h_118 hd ht0 (by omega) (mG_X g1 (gX_2 f3) f2.1) ho6 f2.2 (Or.inr ⟨rfl, hy⟩) h1 h2 h3
  · have c2 : isW T n 32 q ∧ y = 22 := by
      rcases hx with e | e
      · exact absurd e.1 c
      · exact e
    have gt := nx_gt hq (isW_k c2.1)
    refine T_seq (mo_tk0 (r := 386) (by omega) (by decide) (mG_st hs0 h) (mG_mt ht0 h) h.2.1 c) ?_
    rintro ⟨p1, p2⟩ ⟨e1, e2, e3⟩
    dsimp only at e1 e2 e3 ⊢
    rw [e1, if_pos rfl]
    have g1 := mG_X h (gX_2 e3) e2.1
    refine T_seq (mo_as1 (r := 387) (by omega) (by decide) (mG_st hs0 g1) (mG_mt ht0 g1) g1.2.1 c2.1) ?_
    rintro M2 ⟨a1, a2⟩
    have g2 := mG_X g1 a2 a1
    refine T_seq (mo_look (mG_mt ht0 g2) g2.2.1) ?_
    rintro ⟨r1, r2⟩ ⟨f1, f2, f3⟩
    dsimp only at f1 f2 f3 ⊢
    rw [f1]
    exact h_118 hd ht0 (by omega) (mG_X g2 (gX_2 f3) f2.1) ho6 f2.2 (Or.inl ⟨rfl, c2.2⟩) h1 h2 h3
/-- between the two of a pair -/
theorem g_comma {q : pL} {C P W : List Int} {o : Nat} {M : bz_M} {Q : bz_M → Prop} {y : Int} (hd : 8 < d) (ht0 : mt T n M0) (hy : y = 21 ∨ y = 22) (hM : opM T n q = none) (hA : opA T n q = none) (hP : ops4 P) (hb : b ≤ (W.length : Int)) (hb0 : 0 ≤ b) (h : mG T n M0 q C (P ++ y :: W) o b q.1 M) (hs : isS T n 44 q) (hQ : ∀ M', mG T n M0 (nx T n q) (C ++ P) ((y + 2) :: W) o b (nx T n q).1 M' → hH Lg d b0 Q M') : hG Lg d b0 Q M := by
  have hn := ht0.1
  have hq := mX_qOK h.2.1
  have hq1 := hq.1
  have gt := nx_gt hq (by rw [hs.1]; decide)
  refine g_rest (x := y) (by omega) ht0 hM hA (fun M' h' d' hd' => g_brk hd' (by omega) (ops4_b hP) (by omega) (by simpa using hb) hb0 h') (fun _ => by omega) h (fun M1 h1 hm => ?_)
  have fin : w_T ((eMo_asksSign Lg (d - 1 - 1) 44 M1).bind (fun M1 => (if (M1 319 5) = 0 then ((eMo_qDropsToBracket Lg (d - 1 - 1) M1).bind (fun M2 => (if (0 : Int) ≤ (bz_w32 ((M2 319 123) - 1)) ∧ (bz_w32 ((M2 319 123) - 1)) < 1700 then (some ((1 : Int), (bz_up M2 409 (Int.toNat (bz_w32 ((M2 319 123) - 1))) (bz_w32 ((M2 409 (Int.toNat (bz_w32 ((M2 319 123) - 1)))) + 2))))) else none))) else (some (0, M1))))) (fun p => w_T (sK Lg d b0 p) Q) := by
    refine T_seq (mo_asg1 (by omega) (mG_mt ht0 h1) h1.2.1 (by decide) (by decide) (by decide) hs) ?_
    rintro M2 ⟨a1, a2⟩
    have g1 := mG_X h1 a2 a1
    rw [if_pos g1.2.1.2.2.2.2.2.1]
    refine T_seq (g_dtb (by omega) (by omega) (ops4_b hP) (by omega) hb g1) ?_
    intro M3 g2
    have ht := g_top g2
    rw [ht.1, w32_id (z := (W.length : Int) + 1 - 1) (by omega) (by omega), if_pos (by omega), show ((W.length : Int) + 1 - 1).toNat = W.length by omega, ht.2.1, w32_id (by omega) (by omega)]
    refine T_some (k_1 (s_15 (by omega) ?_ (hQ _ ?_)))
    · rw [bz_up_nr (by decide)]; exact g2.2.1.2.2.2.2.2.1
    · obtain ⟨b1, b2, b3, b4, b5, b6, b7⟩ := g2
      rw [List.length_cons] at b7
      refine ⟨gF_trans b1 gF_9, mX_co b2 (fun k hk => bz_up_nr (by decide) _), ⟨?_, ?_⟩, ⟨?_, ?_, ?_⟩, ?_, ?_, ?_⟩
      · rw [bz_up_nr (by decide)]; exact b3.1
      · rw [bz_up_fn (by decide)]; exact b3.2
      · rw [bz_up_nr (by decide)]; exact b4.1
      · exact bz_up_eq _ _ _ _
      · exact zStk_co (fun k hk => bz_up_nk (by omega) _) b4.2.2
      · rw [bz_up_nr (by decide)]; exact b5
      · rw [bz_up_nr (by decide)]; exact b6
      · rw [List.length_cons]; omega
  rcases hy with rfl | rfl
  · rw [if_pos rfl]; exact fin
  · rw [if_neg (by decide), if_pos rfl]; exact fin
/-- what stands open isn't closed: a fault -/
theorem g_bad {q : pL} {C P W : List Int} {o : Nat} {M : bz_M} {Q : bz_M → Prop} {y : Int} (hd : 8 < d) (ht0 : mt T n M0) (hy : y = 20 ∨ y = 21 ∨ y = 22 ∨ y = 23 ∨ y = 24) (hM : opM T n q = none) (hA : opA T n q = none) (hP : ops4 P) (hb : b ≤ (W.length : Int)) (hb0 : 0 ≤ b) (h : mG T n M0 q C (P ++ y :: W) o b q.1 M) (hs : (y = 21 ∨ y = 22) → ¬ isS T n 44 q) (hs2 : (y = 20 ∨ y = 23 ∨ y = 24) → ¬ isS T n 41 q) (hQ : ∀ M', mGf M0 1 (q.1 : Int) M' → Q M') : hG Lg d b0 Q M := by
  have hn := ht0.1
  have hq := mX_qOK h.2.1
  have hq1 := hq.1
  refine g_rest (x := y) (by omega) ht0 hM hA (fun M' h' d' hd' => g_brk hd' (by omega) (ops4_b hP) (by omega) (by simpa using hb) hb0 h') (fun s => ?_) h (fun M1 h1 hm => ?_)
  · by_cases c : y = 20 ∨ y = 23 ∨ y = 24
    · exact absurd s (hs2 c)
    · omega
  have fin : (y = 21 ∨ y = 22) → w_T ((eMo_asksSign Lg (d - 1 - 1) 44 M1).bind (fun M1 => (if (M1 319 5) = 0 then ((eMo_qDropsToBracket Lg (d - 1 - 1) M1).bind (fun M2 => (if (0 : Int) ≤ (bz_w32 ((M2 319 123) - 1)) ∧ (bz_w32 ((M2 319 123) - 1)) < 1700 then (some ((1 : Int), (bz_up M2 409 (Int.toNat (bz_w32 ((M2 319 123) - 1))) (bz_w32 ((M2 409 (Int.toNat (bz_w32 ((M2 319 123) - 1)))) + 2))))) else none))) else (some (0, M1))))) (fun p => w_T (sK Lg d b0 p) Q) := by
    intro c
    refine T_seq (mo_asg0 (by omega) (mG_mt ht0 h1) h1.2.1 (by decide) (by decide) (by decide) (hs c)) ?_
    rintro M2 ⟨a1, a2⟩
    have g1 := mG_f h1 (by omega) a2 a1
    rw [if_neg (by rw [g1.2.1.1]; exact g1.2.1.2.1)]
    exact T_some (k_0 (s_f (by omega) g1 hQ))
  by_cases c1 : y = 21
  · rw [if_pos c1]; exact fin (Or.inl c1)
  rw [if_neg c1]
  by_cases c2 : y = 22
  · rw [if_pos c2]; exact fin (Or.inr c2)
  rw [if_neg c2, if_neg (by omega), hm]
  refine T_seq (mo_fail h1.2.1.2.2.2.2.2.1 (by decide)) ?_
  rintro M2 ⟨a1, a2, _⟩
  have g1 := mG_f h1 (by omega) a2 a1
  exact T_some (k_0 (s_f (by omega) g1 hQ))
theorem mEnd_l {Q : bz_M → Prop} {e : Int × Nat} (h : mEnd M0 Q (.inl e)) {M : bz_M} {k pl : Int} (hk : e = (k, pl.toNat)) (hpl : 0 ≤ pl) (hm : mGf M0 k pl M) : Q M := by
  refine h e rfl M ?_
  rw [hk]
  show mGf M0 k ((pl.toNat : Nat) : Int) M
  rw [Int.toNat_of_nonneg hpl]
  exact hm
end MT

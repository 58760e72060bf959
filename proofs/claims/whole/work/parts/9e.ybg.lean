/-! THE TOLD VALLEY STANDS: the class begins -/
section YX
variable {n : Nat} {T : Nat → Int}
theorem lp_inv : ∀ (f : Nat) (k : Int) (Y : bz_M) (s : sT), (∀ q, s = .inr q → qOK T n q ∧ yInv Y q.1) → ∀ q, (yLp T n f k Y s).1 = .inr q → qOK T n q ∧ yInv (yLp T n f k Y s).2.1 q.1
  | 0, k, Y, s, h, q, e => h q e
  | f + 1, k, Y, .inl x, h, q, e => by cases e
  | f + 1, k, Y, .inr q0, h, q, e => by
    obtain ⟨hq, hI⟩ := h q0 rfl
    rw [show yLp T n (f + 1) k Y (.inr q0) = (if n ≤ q0.1 then (.inr q0, Y, k) else if k = 80 then (.inl (5, q0.1), Y, k) else yLp T n f (k + 1) (yStm T n Y q0).2 (oS T n 59 (yStm T n Y q0).1)) from rfl] at e ⊢
    by_cases c0 : n ≤ q0.1
    · rw [if_pos c0] at e ⊢
      cases e
      exact ⟨hq, hI⟩
    rw [if_neg c0] at e ⊢
    by_cases c8 : k = 80
    · rw [if_pos c8] at e
      cases e
    rw [if_neg c8] at e ⊢
    refine lp_inv f (k + 1) _ _ (fun q2 e2 => ?_) q e
    have ok1 : isOk (yStm T n Y q0).1 := ok_S (c := 59) (T := T) (n := n) (by rw [e2]; trivial)
    cases hst : (yStm T n Y q0).1 with
    | inl e => rw [hst] at ok1; exact absurd ok1 (fun h => h)
    | inr q1 =>
      have so := stm_ok hq hI hst
      have pp := ps_S (c := 59) (ps_r so.2.1 (Nat.le_refl _)) q2 (by rw [← hst]; exact e2)
      exact ⟨pp.2, inv_z so.2.2 pp.1⟩
theorem yV_inv {a b c z8 z9 : Int} {q : pL} (e : (yV T n (yZ a b c z8 z9)).1 = .inr q) : qOK T n q ∧ yInv (yV T n (yZ a b c z8 z9)).2.1 q.1 := by
  refine lp_inv 81 1 _ _ (fun q2 e2 => ?_) q e
  have p0 : psO T n (.inr (nxq T n 0 false)) 0 := fun q' e' => by cases e'; exact ⟨Nat.zero_le _, nxq_ok (Nat.zero_le _)⟩
  have ok1 := ok_S (c := 59) (T := T) (n := n) (s := (ySz T n (yZ a b c z8 z9) (.inr (nxq T n 0 false))).1) (by rw [e2]; trivial)
  have p3 : psO T n (ySz T n (yZ a b c z8 z9) (.inr (nxq T n 0 false))).1 0 := ps_N (ps_W (ps_N (ps_W (ps_N (ps_W p0)))))
  exact ⟨(ps_S p3 q2 e2).2, inv_sz ok1⟩
end YX
def cBg (u i j l : Nat) (M M' : bz_M) : Prop := (M' 131 0 = (u : Int) ∧ ∀ k, k ≠ 0 → M' 131 k = M 131 k) ∧ (∀ r, r ≠ 131 → ¬ (148 ≤ r ∧ r ≤ 153) → M' r = M r) ∧ (M' 148 0 = 0 ∧ M' 148 1 = 0 ∧ M' 148 2 = 0) ∧ (∀ k, k < i → M' 149 k = M (u + 1) k) ∧ (∀ k, k < j → M' 150 k = M (u + 3) k ∧ M' 151 k = 0) ∧ (∀ k : Nat, k < l → M' 152 k = (if (k : Int) < M u 3 then 1 else 0) ∧ M' 153 k = M (u + 9) k)
section YY
variable {Lg d u : Nat} {M : bz_M}
theorem c_begin (hd : 1 < d) (hu : bz_oV u) : w_T (eRi_begin Lg d u M) (cBg u 10 80 5 M) := by
  have huu := oV_c hu
  have h148 : bz_oS 148 := by decide
  have l3 : ∀ (f i : Nat) (M1 : bz_M), i + f = 5 → cBg u 10 80 i M M1 → w_T (eSt_begin_76 Lg (d - 1) 148 u (i : Int) M1) (cBg u 10 80 5 M) := by
    intro f
    induction f with
    | zero =>
      intro i M1 hi h
      refine T_le (eSt_begin_76_E h148 hu) ?_
      rw [if_neg (by omega)]
      rw [show i = 5 by omega] at h
      exact T_some h
    | succ f ih =>
      intro i M1 hi h
      obtain ⟨a1, a2, a3, a4, a5, a6⟩ := h
      have go : ∀ x : Int, x = (if (i : Int) < M u 3 then 1 else 0) → cBg u 10 80 (i + 1) M (bz_up (bz_up M1 (148 + 4) i x) (148 + 5) i (bz_up M1 (148 + 4) i x (u + 9) i)) := by
        intro x hx
        refine ⟨⟨?_, fun k hk => ?_⟩, fun r x1 x2 => ?_, ⟨?_, ?_, ?_⟩, fun k hk => ?_, fun k hk => ?_, fun k hk => ?_⟩
        · rw [bz_up_nr (by decide), bz_up_nr (by decide)]; exact a1.1
        · rw [bz_up_nr (by decide), bz_up_nr (by decide)]; exact a1.2 k hk
        · rw [bz_up_fn (by omega), bz_up_fn (by omega)]; exact a2 r x1 x2
        · rw [bz_up_nr (by decide), bz_up_nr (by decide)]; exact a3.1
        · rw [bz_up_nr (by decide), bz_up_nr (by decide)]; exact a3.2.1
        · rw [bz_up_nr (by decide), bz_up_nr (by decide)]; exact a3.2.2
        · rw [bz_up_nr (by decide), bz_up_nr (by decide)]; exact a4 k hk
        · rw [bz_up_nr (by decide), bz_up_nr (by decide), bz_up_nr (by decide), bz_up_nr (by decide)]; exact a5 k hk
        · by_cases e : k = i
          · subst e
            refine ⟨?_, ?_⟩
            · rw [bz_up_nr (by decide), bz_up_eq]; exact hx
            · rw [bz_up_eq, bz_up_nr (by omega), a2 (u + 9) (by omega) (by omega)]
          · have := a6 k (by omega)
            refine ⟨?_, ?_⟩
            · rw [bz_up_nr (by decide), bz_up_nk e]; exact this.1
            · rw [bz_up_nk e, bz_up_nr (by decide)]; exact this.2
      refine T_le (eSt_begin_76_E h148 hu) ?_
      rw [if_pos (by omega), w32_id (by omega) (by omega), Int.toNat_natCast, a2 u (by omega) (by omega)]
      by_cases c : (i : Int) < M u 3
      · rw [if_pos c, if_pos (by omega)]
        exact ih (i + 1) _ (by omega) (go 1 (by rw [if_pos c]))
      · rw [if_neg c, if_pos (by omega)]
        exact ih (i + 1) _ (by omega) (go 0 (by rw [if_neg c]))
  have l2 : ∀ (f i : Nat) (M1 : bz_M), i + f = 80 → cBg u 10 i 0 M M1 → w_T (eSt_begin_43 Lg (d - 1) 148 u (i : Int) M1) (cBg u 10 80 5 M) := by
    intro f
    induction f with
    | zero =>
      intro i M1 hi h
      refine T_le (eSt_begin_43_E h148 hu) ?_
      rw [if_neg (by omega)]
      rw [show i = 80 by omega] at h
      exact l3 5 0 M1 (by omega) h
    | succ f ih =>
      intro i M1 hi h
      obtain ⟨a1, a2, a3, a4, a5, a6⟩ := h
      refine T_le (eSt_begin_43_E h148 hu) ?_
      rw [if_pos (by omega), if_pos (by omega), w32_id (by omega) (by omega), Int.toNat_natCast]
      refine ih (i + 1) _ (by omega) ⟨⟨?_, fun k hk => ?_⟩, fun r x1 x2 => ?_, ⟨?_, ?_, ?_⟩, fun k hk => ?_, fun k hk => ?_, fun k hk => by omega⟩
      · rw [bz_up_nr (by decide), bz_up_nr (by decide)]; exact a1.1
      · rw [bz_up_nr (by decide), bz_up_nr (by decide)]; exact a1.2 k hk
      · rw [bz_up_fn (by omega), bz_up_fn (by omega)]; exact a2 r x1 x2
      · rw [bz_up_nr (by decide), bz_up_nr (by decide)]; exact a3.1
      · rw [bz_up_nr (by decide), bz_up_nr (by decide)]; exact a3.2.1
      · rw [bz_up_nr (by decide), bz_up_nr (by decide)]; exact a3.2.2
      · rw [bz_up_nr (by decide), bz_up_nr (by decide)]; exact a4 k hk
      · by_cases e : k = i
        · subst e
          refine ⟨?_, bz_up_eq _ _ _ _⟩
          rw [bz_up_nr (by decide), bz_up_eq, a2 (u + 3) (by omega) (by omega)]
        · have := a5 k (by omega)
          refine ⟨?_, ?_⟩
          · rw [bz_up_nr (by decide), bz_up_nk e]; exact this.1
          · rw [bz_up_nk e, bz_up_nr (by decide)]; exact this.2
  have l1 : ∀ (f i : Nat) (M1 : bz_M), i + f = 10 → cBg u i 0 0 M M1 → w_T (eSt_begin_17 Lg (d - 1) 148 u (i : Int) M1) (cBg u 10 80 5 M) := by
    intro f
    induction f with
    | zero =>
      intro i M1 hi h
      refine T_le (eSt_begin_17_E h148 hu) ?_
      rw [if_neg (by omega)]
      rw [show i = 10 by omega] at h
      exact l2 80 0 M1 (by omega) h
    | succ f ih =>
      intro i M1 hi h
      obtain ⟨a1, a2, a3, a4, a5, a6⟩ := h
      refine T_le (eSt_begin_17_E h148 hu) ?_
      rw [if_pos (by omega), if_pos (by omega), w32_id (by omega) (by omega), Int.toNat_natCast]
      refine ih (i + 1) _ (by omega) ⟨⟨?_, fun k hk => ?_⟩, fun r x1 x2 => ?_, ⟨?_, ?_, ?_⟩, fun k hk => ?_, fun k hk => by omega, fun k hk => by omega⟩
      · rw [bz_up_nr (by decide)]; exact a1.1
      · rw [bz_up_nr (by decide)]; exact a1.2 k hk
      · rw [bz_up_fn (by omega)]; exact a2 r x1 x2
      · rw [bz_up_nr (by decide)]; exact a3.1
      · rw [bz_up_nr (by decide)]; exact a3.2.1
      · rw [bz_up_nr (by decide)]; exact a3.2.2
      · by_cases e : k = i
        · subst e
          rw [bz_up_eq, a2 (u + 1) (by omega) (by omega)]
        · rw [bz_up_nk e]; exact a4 k (by omega)
  refine T_le (eRi_begin_E (by omega)) ?_
  refine T_seq (Q := cBg u 10 80 5 M) (T_le (eSt_begin_E h148) ?_) (fun M1 h => T_some h)
  refine l1 10 0 _ (by omega) ⟨⟨?_, fun k hk => ?_⟩, fun r x1 x2 => ?_, ⟨?_, ?_, ?_⟩, fun k hk => by omega, fun k hk => by omega, fun k hk => by omega⟩
  · rw [bz_up_nr (by decide), bz_up_nr (by decide), bz_up_nr (by decide), bz_up_eq]; rfl
  · rw [bz_up_nr (by decide), bz_up_nr (by decide), bz_up_nr (by decide), bz_up_nk hk]
  · rw [bz_up_fn (by omega), bz_up_fn (by omega), bz_up_fn (by omega), bz_up_fn x1]
  · rw [bz_up_nk (by decide), bz_up_nk (by decide), bz_up_eq]
  · rw [bz_up_nk (by decide), bz_up_eq]
  · rw [bz_up_eq]
end YY

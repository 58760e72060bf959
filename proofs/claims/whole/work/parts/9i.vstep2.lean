/-! SIM: a valley is told, step -/
def fO (M M' : bz_M) : Prop := ∀ r, r < 2 ∨ 412 ≤ r → M' r = M r
section SC
variable {Lg d n : Nat} {T : Nat → Int} {V M M' C Y : bz_M} {S : Nat → Int} {v u s : Nat} {R : sT × bz_M × Int}
theorem fO_trans {A B C : bz_M} (h : fO A B) (g : fO B C) : fO A C := fun r x => (g r x).trans (h r x)
theorem mYv_k {k : Nat} {x : Int} (h : mYv Y M) (h1 : k ≠ 46) (h2 : k ≠ 53) (h3 : k ≠ 58) : mYv Y (bz_up M 319 k x) := by
  unfold mYv at h ⊢
  rw [bz_up_fn (show 355 ≠ 319 by decide), bz_up_fn (show 356 ≠ 319 by decide), bz_up_fn (show 357 ≠ 319 by decide), bz_up_fn (show 358 ≠ 319 by decide), bz_up_fn (show 359 ≠ 319 by decide), bz_up_fn (show 360 ≠ 319 by decide), bz_up_fn (show 361 ≠ 319 by decide), bz_up_fn (show 362 ≠ 319 by decide), bz_up_fn (show 363 ≠ 319 by decide), bz_up_nk (Ne.symm h1), bz_up_nk (Ne.symm h2), bz_up_nk (Ne.symm h3)]
  exact h
/-- what the reference holds when it has read -/
def mVp (R : sT × bz_M × Int) (C : bz_M) (p : Int × bz_M) : Prop := ∃ Z, vW C Z ∧ Z 319 1 = 0 ∧ (∀ q, R.1 = .inr q → p.1 = R.2.2 ∧ Z 319 5 = 0 ∧ Z 319 6 = -1 ∧ mYv R.2.1 (bz_up (bz_up Z 319 7 (Z 319 5)) 319 8 (Z 319 6)) ∧ mSd (bz_up (bz_up Z 319 7 (Z 319 5)) 319 8 (Z 319 6)) p.2) ∧ ∀ e, R.1 = .inl e → p.1 = -1 ∧ Z 319 5 = e.1 ∧ Z 319 6 = (e.2 : Int) ∧ p.2 = bz_up (bz_up (bz_up Z 319 7 (Z 319 5)) 319 8 (Z 319 6)) 321 1 (bz_w32 (Z 321 1 + 1))
theorem m_valley (hd : 26 < d) (hs : stM C) (ht : mt T n C) (h1 : C 319 1 = (n : Int)) (hR : yV T n (yZ 0 0 0 (C 362 0) (C 362 1)) = R) : w_T (eMo_valley Lg d C) (mVp R C) := by
  refine my_read (by omega) hs ht h1 (fun Z z1 z2 z3 z4 => ?_)
  rw [hR] at z1 z4
  refine T_le (eMo_valley_142_E (by omega)) ?_
  cases hq : R.1 with
  | inl e =>
    rw [hq] at z1
    have z1 : mXf e.1 (e.2 : Int) Z := z1
    rw [if_neg (by rw [z1.1]; exact z1.2.1)]
    refine T_some ⟨Z, z2, z3, fun q eq => (by rw [hq] at eq; cases eq), fun e' ee => ?_⟩
    rw [hq] at ee
    cases ee
    exact ⟨rfl, z1.1, z1.2.2, rfl⟩
  | inr q =>
    rw [hq] at z1
    have z1 : mX T n q Z := z1
    obtain ⟨z4, z5⟩ := z4 (by rw [hq]; trivial)
    obtain ⟨i1, i2⟩ := yV_inv (T := T) (n := n) (q := q) (by rw [hR]; exact hq)
    rw [hR] at i2
    have i1' := i1.1
    have ht' := ht.1
    have i4 := i2.1.2.2.2.1
    have i5 := i2.2.1.1
    have i6 := i2.2.2.2.1
    rw [if_pos z1.2.2.2.2.2.1]
    have y2 : mYv R.2.1 (bz_up (bz_up Z 319 7 (Z 319 5)) 319 8 (Z 319 6)) := mYv_k (mYv_k z4 (by decide) (by decide) (by decide)) (by decide) (by decide) (by decide)
    refine T_seq (my_stands (by rw [y2.1.2.2.2.1]; exact i4) (by rw [y2.1.2.2.2.2.2]; omega)) ?_
    intro M1 hM1
    refine T_some ⟨Z, z2, z3, fun q' eq => ⟨?_, z1.2.2.2.2.2.1, z1.2.2.2.2.2.2, y2, hM1⟩, fun e' ee => by rw [hq] at ee; cases ee⟩
    show M1 319 59 = R.2.2
    rw [hM1.2.1 59 (by decide) (by decide) (by decide) (by decide) (by decide), bz_up_nk (by decide), bz_up_nk (by decide)]
    exact z5
/-- what the class holds when it has read -/
def cVp (R : sT × bz_M × Int) (u v : Nat) (M : bz_M) (p : Int × bz_M) : Prop := ∃ C, fY u M C ∧ (∀ q, R.1 = .inr q → p.1 = R.2.2 ∧ C 123 6 = 0 ∧ C 123 7 = -1 ∧ cY u R.2.1 (bz_up C 123 1 0) ∧ ∃ B, cBg u 10 80 5 (bz_up C 123 1 0) B ∧ p.2 = bz_up (bz_up (bz_up B 122 11 (v : Int)) 157 0 0) 279 1 0) ∧ ∀ e, R.1 = .inl e → p.1 = -1 ∧ C 123 6 = e.1 ∧ C 123 7 = (e.2 : Int) ∧ p.2 = bz_up (bz_up C 123 1 0) 302 1 (bz_w32 (C 302 1 + 1))
theorem c_valley (hd : 52 < d) (hu : bz_oV u) (hv : bz_oV v) (h131 : M 131 0 = (v : Int)) (h122 : M 122 11 = (u : Int)) (hs : stC M) (ht : tb T n M) (h1 : M 123 1 = (n : Int)) {z8 z9 : Int} (hR : yV T n (yZ 0 0 0 z8 z9) = R) : w_T (eBr_valley Lg d M) (cVp R u v M) := by
  have huu := oV_c hu
  refine T_le (eBr_valley_E (v := v) (by omega) hu) ?_
  rw [if_pos h122]
  have cr := c_read (Lg := Lg) (d := d - 1) (z8 := z8) (z9 := z9) (by omega) hu hs ht h1
  rw [yV_abc, hR] at cr
  refine T_seq cr ?_
  rintro ⟨p1, M1⟩ ⟨e1, s1, f1, y1⟩
  dsimp only at e1 s1 f1 y1 ⊢
  cases hq : R.1 with
  | inl e =>
    rw [hq] at s1
    have s1 : cXf n e.1 (e.2 : Int) M1 := s1
    have e2 : p1 = -1 := e1.2 (by rw [hq]; exact fun h => h)
    rw [if_pos e2]
    refine T_seq (Q := cVp R u v M) (R := fun p => p = ((-1 : Int), bz_up (bz_up M1 123 1 0) 302 1 (bz_w32 (M1 302 1 + 1)))) (T_le eBr_refusal_E ?_) ?_
    · rw [if_pos (by decide)]
      refine T_some ?_
      rw [bz_up_nr (show 302 ≠ 123 by decide)]
      rfl
    · rintro p rfl
      refine T_some ⟨M1, f1, fun q eq => (by rw [hq] at eq; cases eq), fun e' ee => ?_⟩
      rw [hq] at ee
      cases ee
      exact ⟨rfl, s1.2.2.2.1, s1.2.2.2.2.2, rfl⟩
  | inr q =>
    rw [hq] at s1
    have s1 : cX T n q M1 ∧ qOK T n q := s1
    have ok : isOk R.1 := by rw [hq]; trivial
    have e2 : p1 = R.2.2 := e1.1 ok
    have k1 : 1 ≤ R.2.2 := by
      rw [← hR]
      unfold yV
      exact lp_k 81 1 _ _ (by decide)
    rw [if_neg (by omega), if_pos (by rw [f1 131 (by decide) (by decide) (by omega)]; exact h131), if_pos (by rw [f1 122 (by decide) (by decide) (by omega)]; exact h122)]
    refine T_seq (c_begin (by omega) hu) ?_
    intro B hB
    refine T_seq (Q := cVp R u v M) (R := fun B' => B' = bz_up (bz_up B 122 11 (v : Int)) 157 0 0) (T_le ePa_forget_E (T_some rfl)) ?_
    rintro B' rfl
    refine T_some ⟨M1, f1, fun q' eq => ⟨e2, s1.1.2.2.2.2.2.1, s1.1.2.2.2.2.2.2, ?_, B, hB, rfl⟩, fun e' ee => by rw [hq] at ee; cases ee⟩
    have y2 := y1 ok
    have kk : ∀ r, r ≠ 123 → bz_up M1 123 1 0 r = M1 r := fun r hr => bz_up_fn hr
    unfold cY cY0 cY4 cC at y2 ⊢
    rw [kk u (by omega), kk (u + 1) (by omega), kk (u + 2) (by omega), kk (u + 3) (by omega), kk (u + 4) (by omega), kk (u + 5) (by omega), kk (u + 6) (by omega), kk (u + 7) (by omega), kk (u + 8) (by omega), kk (u + 9) (by omega), kk (u + 10) (by omega), kk (u + 10 + 1) (by omega), kk (u + 13) (by omega), kk (u + 13 + 1) (by omega)]
    exact y2
end SC

/-! A VALLEY IS TOLD: the reference's codes -/
section YR
variable {Lg d n : Nat} {T : Nat → Int} {Y M M' : bz_M} {s : sT}
theorem my_92 {w c0 : Nat} {cs : List Int} (hw : w < 2) (hb : c0 + cs.length ≤ 1600) {Q : bz_M → Prop} (hQ : ∀ M', M' 319 58 = ((c0 + cs.length : Nat) : Int) → (∀ j, j < cs.length → M' 363 (c0 + j) = cs.getD j 0) → (∀ k, ¬ (c0 ≤ k ∧ k < c0 + cs.length) → M' 363 k = M 363 k) → (∀ r, r ≠ 319 → r ≠ 363 → M' r = M r) → (∀ k, k ≠ 58 → M' 319 k = M 319 k) → Q (bz_up M' 362 w (((c0 + cs.length : Nat) : Int)))) : ∀ (f i : Nat) (M1 : bz_M), i + f = cs.length → M1 319 121 = (cs.length : Int) → (∀ j, j < cs.length → M1 408 j = cs.getD j 0) → M1 319 58 = ((c0 + i : Nat) : Int) → (∀ j, j < i → M1 363 (c0 + j) = cs.getD j 0) → (∀ k, ¬ (c0 ≤ k ∧ k < c0 + cs.length) → M1 363 k = M 363 k) → (∀ r, r ≠ 319 → r ≠ 363 → M1 r = M r) → (∀ k, k ≠ 58 → M1 319 k = M 319 k) → w_T (eMo_codesTold_92 Lg d (w : Int) (i : Int) M1) Q
  | 0, i, M1, hi, h1, h2, h3, h4, h5, h6, h7 => by
    refine T_le eMo_codesTold_92_E ?_
    rw [h1, if_neg (by omega), if_pos (by omega), Int.toNat_natCast, h3, show c0 + i = c0 + cs.length by omega]
    exact T_some (hQ M1 (by rw [h3, show c0 + i = c0 + cs.length by omega]) (fun j hj => h4 j (by omega)) h5 h6 h7)
  | f + 1, i, M1, hi, h1, h2, h3, h4, h5, h6, h7 => by
    refine T_le eMo_codesTold_92_E ?_
    rw [h1, if_pos (by omega), if_pos (by omega), if_pos (by rw [h3]; omega), h3, Int.toNat_natCast, Int.toNat_natCast, h2 i (by omega), w32_id (by omega) (by omega), w32_id (by omega) (by omega)]
    refine my_92 hw hb hQ f (i + 1) _ (by omega) ?_ (fun j hj => ?_) ?_ (fun j hj => ?_) (fun k hk => ?_) (fun r x1 x2 => ?_) (fun k hk => ?_)
    · rw [bz_up_nk (by decide), bz_up_nr (by decide)]; exact h1
    · rw [bz_up_nr (by decide), bz_up_nr (by decide)]; exact h2 j hj
    · rw [bz_up_eq]; omega
    · rw [bz_up_nr (by decide)]
      by_cases e : j = i
      · rw [e, bz_up_eq]
      · rw [bz_up_nk (by omega)]; exact h4 j (by omega)
    · rw [bz_up_nr (by decide), bz_up_nk (by omega)]; exact h5 k hk
    · rw [bz_up_fn x1, bz_up_fn x2]; exact h6 r x1 x2
    · rw [bz_up_nk hk, bz_up_nr (by decide)]; exact h7 k hk
theorem zSeg_at {A : Nat → Int} : ∀ (l : List Int) (k : Nat), zSeg A k l → ∀ j, j < l.length → A (k + j) = l.getD j 0
  | [], _, _, j, hj => absurd hj (by simp)
  | x :: l, k, h, j, hj => by
    cases j with
    | zero => exact h.1
    | succ j =>
      have := zSeg_at l (k + 1) h.2 j (by simpa using hj)
      rw [show k + (j + 1) = k + 1 + j by omega]
      exact this
theorem my_addY {w : Nat} {cs : List Int} (hw : w < 2) (hC : yCd Y) (hY : mYv Y M) (h58 : M' 319 58 = Y 319 58 + (cs.length : Int)) (h46 : M' 319 46 = M 319 46) (h53 : M' 319 53 = M 319 53) (ho : ∀ r, r = 355 ∨ r = 356 ∨ r = 357 ∨ r = 358 ∨ r = 359 ∨ r = 360 → M' r = M r) (h61 : ∀ k, M' 361 k = if k = w then Y 319 58 else M 361 k) (h62 : ∀ k, M' 362 k = if k = w then Y 319 58 + (cs.length : Int) else M 362 k) (h63 : ∀ j, j < cs.length → M' 363 ((Y 319 58).toNat + j) = cs.getD j 0) (h63' : ∀ k, ¬ ((Y 319 58).toNat ≤ k ∧ k < (Y 319 58).toNat + cs.length) → M' 363 k = M 363 k) : mYv (yAdd Y w cs) M' := by
  obtain ⟨c1, c2, c3, c4, c5, c6, c7⟩ := hY
  have c58 := hC.1
  have yo : ∀ r, r ≠ 361 → r ≠ 362 → r ≠ 363 → r ≠ 319 → yAdd Y w cs r = Y r := fun r x1 x2 x3 x4 => by
    funext k
    exact yAdd_o x1 x2 x3 (fun h => x4 h.1)
  have y46 : yAdd Y w cs 319 46 = Y 319 46 := yAdd_o (by decide) (by decide) (by decide) (by decide)
  have y53 : yAdd Y w cs 319 53 = Y 319 53 := yAdd_o (by decide) (by decide) (by decide) (by decide)
  have y58 : yAdd Y w cs 319 58 = Y 319 58 + (cs.length : Int) := by
    unfold yAdd
    rw [if_neg (fun h => absurd h.1 (by decide)), if_neg (fun h => absurd h.1 (by decide)), if_pos ⟨rfl, rfl⟩]
  have y62 : ∀ w', yAdd Y w cs 362 w' = if w' = w then Y 319 58 + (cs.length : Int) else Y 362 w' := fun w' => by
    unfold yAdd
    by_cases e : w' = w
    · rw [if_neg (fun h => absurd h.1 (by decide)), if_pos ⟨rfl, e⟩, if_pos e]
    · rw [if_neg (fun h => e h.2), if_neg (fun h => e h.2), if_neg (fun h => absurd h.1 (by decide)), if_neg (fun h => absurd h.1 (by decide)), if_neg e]
  refine ⟨⟨?_, ?_, ?_, ?_, ?_, ?_⟩, ?_, ?_, ?_, ?_, ⟨?_, ?_, ?_, ?_⟩, fun k hk => ?_⟩
  · rw [ho 355 (by decide), yo 355 (by decide) (by decide) (by decide) (by decide)]; exact c1.1
  · rw [ho 355 (by decide), yo 355 (by decide) (by decide) (by decide) (by decide)]; exact c1.2.1
  · rw [ho 355 (by decide), yo 355 (by decide) (by decide) (by decide) (by decide)]; exact c1.2.2.1
  · rw [h46, y46]; exact c1.2.2.2.1
  · rw [h53, y53]; exact c1.2.2.2.2.1
  · rw [h58, y58]
  · rw [ho 359 (by decide), yo 359 (by decide) (by decide) (by decide) (by decide)]; exact c2
  · rw [ho 358 (by decide), yo 358 (by decide) (by decide) (by decide) (by decide)]; exact c3
  · rw [ho 360 (by decide), yo 360 (by decide) (by decide) (by decide) (by decide)]; exact c4
  · rw [ho 356 (by decide), ho 357 (by decide), yo 356 (by decide) (by decide) (by decide) (by decide), yo 357 (by decide) (by decide) (by decide) (by decide), y46]; exact c5
  · rw [h61, yAdd_361, c6.1]
  · rw [h61, yAdd_361, c6.2.1]
  · rw [h62, y62, c6.2.2.1]
  · rw [h62, y62, c6.2.2.2]
  · rw [y58] at hk
    by_cases c : (Y 319 58).toNat ≤ k ∧ k < (Y 319 58).toNat + cs.length
    · have := h63 (k - (Y 319 58).toNat) (by omega)
      rw [show (Y 319 58).toNat + (k - (Y 319 58).toNat) = k by omega] at this
      rw [this]
      unfold yAdd
      rw [if_neg (fun h => absurd h.1 (by decide)), if_neg (fun h => absurd h.1 (by decide)), if_neg (fun h => absurd h.1 (by decide)), if_pos ⟨rfl, c⟩]
    · rw [h63' k c]
      unfold yAdd
      rw [if_neg (fun h => absurd h.1 (by decide)), if_neg (fun h => absurd h.1 (by decide)), if_neg (fun h => absurd h.1 (by decide)), if_neg (fun h => c h.2)]
      exact c7 k (by omega)
theorem my_code (hd : 16 < d) {w : Nat} (hw : w < 2) {q : pL} (hq : qOK T n q) (hI : yInv Y q.1) (hs : stM M) (ht : mt T n M) (hY : mYv Y M) (h : mX T n (nx T n q) M) : w_T (eMo_codesTold Lg d (w : Int) (q.1 : Int) M) (mPo T n M (yCo T n Y w q)) := by
  have hn := ht.1
  have hps := ps_nx hq (Nat.le_refl _)
  have h5 : M 319 5 = 0 := h.2.2.2.2.2.1
  have hC := hI.2.1
  have hz := hI.2.2.2.1
  have c58 := hC.1
  have m61 : M 361 w = Y 361 w := by
    rcases (show w = 0 ∨ w = 1 by omega) with rfl | rfl
    · exact hY.2.2.2.2.2.1.1
    · exact hY.2.2.2.2.2.1.2.1
  refine T_le (eMo_codesTold_E (by omega)) ?_
  rw [if_pos h5, if_pos (by omega), Int.toNat_natCast]
  unfold yCo
  by_cases c : Y 361 w = -1
  · rw [if_pos (by rw [m61]; exact c), if_pos c]
    have hww : (if w = 0 then (2 : Int) else 4) = 2 ∨ (if w = 0 then (2 : Int) else 4) = 4 ∨ (if w = 0 then (2 : Int) else 4) = 8 := by split <;> decide
    have tot := rd_total (T := T) (n := n) hww (12 * n + 60) (if w = 0 then 3 else 9) 0 (nx T n q) (by split <;> decide) (by decide) (nx_ok hq) (by split <;> omega)
    obtain ⟨out, ho⟩ := Option.ne_none_iff_exists'.mp tot
    rw [ho]
    refine T_le (eMo_codesTold_23_E (by omega)) ?_
    rw [if_pos h5]
    generalize hM0 : bz_up (bz_up (bz_up (bz_up (bz_up M 319 61 (w : Int)) 319 121 0) 319 123 0) 319 124 0) 319 125 0 = M0
    have k0 : ∀ k, k ≠ 61 → k ≠ 121 → k ≠ 123 → k ≠ 124 → k ≠ 125 → M0 319 k = M 319 k := fun k x1 x2 x3 x4 x5 => by rw [← hM0, bz_up_nk x5, bz_up_nk x4, bz_up_nk x3, bz_up_nk x2, bz_up_nk x1]
    have r0 : ∀ r, r ≠ 319 → M0 r = M r := fun r hr => by rw [← hM0, bz_up_fn hr, bz_up_fn hr, bz_up_fn hr, bz_up_fn hr, bz_up_fn hr]
    have hX0 : mX T n (nx T n q) M0 := mX_co h (fun k hk => k0 k (by omega) (by omega) (by omega) (by omega) (by omega))
    have hG : mG T n M0 (nx T n q) [] [] 0 0 (nx T n q).1 M0 := by
      refine ⟨gF_refl _, hX0, ⟨?_, trivial⟩, ⟨?_, trivial⟩, ?_, ?_, by simp⟩
      · rw [← hM0]; simp [bz_up_rk]
      · rw [← hM0]; simp [bz_up_rk]
      · rw [← hM0]; simp [bz_up_rk]
      · rw [← hM0]; simp [bz_up_rk]
    have ht0 : mt T n M0 := mt_co ht (r0 320 (by decide))
    have hs0 : stM M0 := fun r k x1 x2 => by rw [r0 r (by omega)]; exact hs r k x1 x2
    have e61 : M0 319 61 = tkW (if w = 0 then 2 else 4) := by
      rw [← hM0, bz_up_nk (by decide), bz_up_nk (by decide), bz_up_nk (by decide), bz_up_nk (by decide), bz_up_eq]
      rcases (show w = 0 ∨ w = 1 by omega) with rfl | rfl <;> rfl
    have fM0 : vF M M0 := vF_of (fun r a _ _ => r0 r a) (fun k hk => k0 k (by omega) (by omega) (by omega) (by omega) (by omega))
    have fG : ∀ M1, gF M0 M1 → vF M M1 := fun M1 g => vF_trans fM0 (vF_of (fun r a b c => g.1 r a b c) (fun k hk => g.2 k (by omega)))
    have fin : ∀ M1, mFo T n M0 [] [] 0 0 out M1 → w_T (if (M1 319 5) = 0 then (if (0 : Int) ≤ (w : Int) ∧ (w : Int) < 4 then (eMo_codesTold_92 Lg d (w : Int) 0 (bz_up M1 361 (Int.toNat (w : Int)) (M1 319 58))) else none) else (some M1)) (mPo T n M (yOu Y w (some out))) := by
      intro M1 h1
      cases out with
      | inl e =>
        have h1 : gF M0 M1 ∧ mXf e.1 (e.2 : Int) M1 := h1
        rw [if_neg (by rw [h1.2.1]; exact h1.2.2.1)]
        exact T_some ⟨h1.2, fG M1 h1.1, fun h => absurd h (fun h => h)⟩
      | inr p =>
        have h1 : mG T n M0 p.1 ([] ++ p.2) [] 0 0 p.1.1 M1 := h1
        rw [List.nil_append] at h1
        have hg := rd_good hww (12 * n + 60) (if w = 0 then 3 else 9) 0 (nx T n q) p.1 p.2 (by split <;> decide) (by decide) (nx_ok hq) ho
        have hg2 := hg.2.1
        have hg1 := hg.1.1
        have f1 := fG M1 h1.1
        have m58 : M1 319 58 = Y 319 58 := by rw [h1.1.2 58 (by decide), k0 58 (by decide) (by decide) (by decide) (by decide) (by decide)]; exact hY.1.2.2.2.2.2
        rw [if_pos h1.2.1.2.2.2.2.2.1, if_pos (by omega), Int.toNat_natCast, m58]
        have e58 : Y 319 58 = (((Y 319 58).toNat : Nat) : Int) := by omega
        have rM : ∀ r, r = 355 ∨ r = 356 ∨ r = 357 ∨ r = 358 ∨ r = 359 ∨ r = 360 ∨ r = 361 ∨ r = 362 ∨ r = 363 → M1 r = M r := fun r hr => by rw [h1.1.1 r (by omega) (by omega) (by omega), r0 r (by omega)]
        refine my_92 (M := bz_up M1 361 w (Y 319 58)) hw (c0 := (Y 319 58).toNat) (cs := p.2) (by omega) (fun M2 x1 x2 x3 x4 x5 => ?_) p.2.length 0 _ (by omega) ?_ (fun j hj => ?_) ?_ (fun j hj => by omega) (fun _ _ => rfl) (fun _ _ _ => rfl) (fun _ _ => rfl)
        · refine ⟨?_, ?_, fun _ => ?_⟩
          · refine mSt_up (mSt_co (s := .inr p.1) h1.2.1 (fun k hk => ?_)) (by decide)
            rw [x5 k (by omega), bz_up_nr (by decide)]
          · refine vF_trans f1 (vF_trans (vF_up (r := 361) (k := w) (x := Y 319 58) (by omega)) (vF_trans (B := M2) ?_ (vF_up (by omega))))
            refine ⟨fun r hr => x4 r (by omega) (by omega), fun k hk => x5 k (by omega), fun k _ => by rw [x4 355 (by decide) (by decide)], fun k _ => by rw [x4 356 (by decide) (by decide)], fun k _ => by rw [x4 357 (by decide) (by decide)], fun k _ => by rw [x4 358 (by decide) (by decide)], fun k _ => ⟨by rw [x4 361 (by decide) (by decide)], by rw [x4 362 (by decide) (by decide)]⟩, fun k hk => x3 k (by omega)⟩
          · refine my_addY (M := M) hw hC hY ?_ ?_ ?_ (fun r hr => ?_) (fun k => ?_) (fun k => ?_) (fun j hj => ?_) (fun k hk => ?_)
            · rw [bz_up_nr (by decide), x1]; omega
            · rw [bz_up_nr (by decide), x5 46 (by decide), bz_up_nr (by decide), h1.1.2 46 (by decide), k0 46 (by decide) (by decide) (by decide) (by decide) (by decide)]
            · rw [bz_up_nr (by decide), x5 53 (by decide), bz_up_nr (by decide), h1.1.2 53 (by decide), k0 53 (by decide) (by decide) (by decide) (by decide) (by decide)]
            · rw [bz_up_fn (by omega), x4 r (by omega) (by omega), bz_up_fn (by omega)]; exact rM r (by omega)
            · rw [bz_up_nr (by decide), x4 361 (by decide) (by decide), bz_up_rk, rM 361 (by decide)]
              by_cases ek : k = w
              · rw [if_pos ⟨rfl, ek⟩, if_pos ek]
              · rw [if_neg (fun h => ek h.2), if_neg ek]
            · rw [bz_up_rk, x4 362 (by decide) (by decide), bz_up_fn (by decide), rM 362 (by decide)]
              by_cases ek : k = w
              · rw [if_pos ⟨rfl, ek⟩, if_pos ek]; omega
              · rw [if_neg (fun h => ek h.2), if_neg ek]
            · rw [bz_up_nr (by decide)]; exact x2 j hj
            · rw [bz_up_nr (by decide), x3 k hk, bz_up_nr (by decide), rM 363 (by decide)]
        · rw [bz_up_nr (by decide)]; exact h1.2.2.1.1
        · rw [bz_up_nr (by decide)]
          have := zSeg_at p.2 0 h1.2.2.1.2 j hj
          rw [Nat.zero_add] at this
          exact this
        · rw [bz_up_nr (by decide), m58]; omega
    rcases (show w = 0 ∨ w = 1 by omega) with rfl | rfl
    · rw [if_neg (by decide)]
      have run := mo_sumsR (Lg := Lg) (d := d - 1) (by omega) hww ht0 hs0 e61 (W := []) (by decide) (by decide) (by decide) (Nat.le_refl _) hG ho
      refine T_seq run (fun M1 h1 => fin M1 ?_)
      cases out with
      | inl e =>
        have h1 : mGf M0 e.1 (e.2 : Int) M1 := h1
        exact ⟨h1.1, h1.2.1⟩
      | inr p => exact h1
    · rw [if_pos (by decide)]
      exact T_seq (mo_testR (Lg := Lg) (d := d - 1) (by omega) hww ht0 hs0 e61 hG ho) fin
  · rw [if_neg (by rw [m61]; exact c), if_neg c]
    refine T_seq (mo_fail h5 (by decide)) ?_
    rintro M1 ⟨a1, b1, _⟩
    refine T_le (eMo_codesTold_23_E (by omega)) ?_
    rw [if_neg (by rw [a1.1]; exact a1.2.1)]
    exact T_some ⟨a1, vF_X b1, fun h => absurd h (fun h => h)⟩
end YR

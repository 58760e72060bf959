/-! A VALLEY IS TOLD: the reference's plain statements -/
abbrev vFq (r : Nat) : Prop := r = 319 ∨ (355 ≤ r ∧ r ≤ 363) ∨ r = 408 ∨ r = 409
abbrev vFk (k : Nat) : Prop := gFk k ∨ k = 61 ∨ k = 46 ∨ k = 53 ∨ k = 58
def vF (M M' : bz_M) : Prop := (∀ r, ¬ vFq r → M' r = M r) ∧ (∀ k, ¬ vFk k → M' 319 k = M 319 k) ∧ (∀ k, 3 ≤ k → M' 355 k = M 355 k) ∧ (∀ k, 5 ≤ k → M' 356 k = M 356 k) ∧ (∀ k, 25 ≤ k → M' 357 k = M 357 k) ∧ (∀ k, 80 ≤ k → M' 358 k = M 358 k) ∧ (∀ k, 2 ≤ k → M' 361 k = M 361 k ∧ M' 362 k = M 362 k) ∧ (∀ k, 1600 ≤ k → M' 363 k = M 363 k)
theorem vF_refl (M : bz_M) : vF M M := ⟨fun _ _ => rfl, fun _ _ => rfl, fun _ _ => rfl, fun _ _ => rfl, fun _ _ => rfl, fun _ _ => rfl, fun _ _ => ⟨rfl, rfl⟩, fun _ _ => rfl⟩
theorem vF_trans {A B C : bz_M} (h : vF A B) (g : vF B C) : vF A C := by
  obtain ⟨a1, a2, a3, a4, a5, a6, a7, a8⟩ := h
  obtain ⟨b1, b2, b3, b4, b5, b6, b7, b8⟩ := g
  exact ⟨fun r x => (b1 r x).trans (a1 r x), fun r x => (b2 r x).trans (a2 r x), fun r x => (b3 r x).trans (a3 r x), fun r x => (b4 r x).trans (a4 r x), fun r x => (b5 r x).trans (a5 r x), fun r x => (b6 r x).trans (a6 r x), fun r x => ⟨(b7 r x).1.trans (a7 r x).1, (b7 r x).2.trans (a7 r x).2⟩, fun r x => (b8 r x).trans (a8 r x)⟩
theorem vF_of {M M' : bz_M} (h1 : ∀ r, r ≠ 319 → r ≠ 408 → r ≠ 409 → M' r = M r) (h2 : ∀ k, ¬ vFk k → M' 319 k = M 319 k) : vF M M' := ⟨fun r x => h1 r (by omega) (by omega) (by omega), h2, fun k _ => by rw [h1 355 (by decide) (by decide) (by decide)], fun k _ => by rw [h1 356 (by decide) (by decide) (by decide)], fun k _ => by rw [h1 357 (by decide) (by decide) (by decide)], fun k _ => by rw [h1 358 (by decide) (by decide) (by decide)], fun k _ => ⟨by rw [h1 361 (by decide) (by decide) (by decide)], by rw [h1 362 (by decide) (by decide) (by decide)]⟩, fun k _ => by rw [h1 363 (by decide) (by decide) (by decide)]⟩
theorem vF_X {M M' : bz_M} (h : gX M M') : vF M M' := vF_of (fun r a _ _ => h.1 r a) (fun k hk => h.2 k (by omega) (by omega) (by omega) (by omega) (by omega) (by omega))
theorem vF_k {M : bz_M} {k : Nat} {x : Int} (h : vFk k) : vF M (bz_up M 319 k x) := vF_of (fun r a _ _ => bz_up_fn a) (fun j hj => bz_up_nk (fun e => hj (by rw [e]; exact h)) _)
theorem vF_up {M : bz_M} {r k : Nat} {x : Int} (h : (r = 355 ∧ k < 3) ∨ (r = 356 ∧ k < 5) ∨ (r = 357 ∧ k < 25) ∨ (r = 358 ∧ k < 80) ∨ r = 359 ∨ r = 360 ∨ (r = 361 ∧ k < 2) ∨ (r = 362 ∧ k < 2) ∨ (r = 363 ∧ k < 1600)) : vF M (bz_up M r k x) := by
  refine ⟨fun q x => bz_up_fn (by omega), fun j _ => bz_up_nr (by omega) _, fun j hj => ?_, fun j hj => ?_, fun j hj => ?_, fun j hj => ?_, fun j hj => ⟨?_, ?_⟩, fun j hj => ?_⟩
  all_goals (rw [bz_up_rk, if_neg (by omega)])
section YO
variable {Lg d n : Nat} {T : Nat → Int} {Y M M' : bz_M} {s : sT}
theorem vF_st (f : vF M M') (h : stM M) : stM M' := fun r k h1 h2 => by rw [f.1 r (by omega)]; exact h r k h1 h2
theorem vF_mt (f : vF M M') (h : mt T n M) : mt T n M' := mt_co h (f.1 320 (by decide))
theorem mYv_X (h : mYv Y M) (f : gX M M') : mYv Y M' := by
  unfold mYv at h ⊢
  rw [f.1 355 (by decide), f.1 356 (by decide), f.1 357 (by decide), f.1 358 (by decide), f.1 359 (by decide), f.1 360 (by decide), f.1 361 (by decide), f.1 362 (by decide), f.1 363 (by decide), f.2 46 (by decide) (by decide) (by decide) (by decide) (by decide) (by decide), f.2 53 (by decide) (by decide) (by decide) (by decide) (by decide) (by decide), f.2 58 (by decide) (by decide) (by decide) (by decide) (by decide) (by decide)]
  exact h
theorem mSt_up {r k : Nat} {x : Int} (h : mSt2 T n s M) (hr : r ≠ 319) : mSt2 T n s (bz_up M r k x) := mSt_co h (fun j _ => by rw [bz_up_fn (Ne.symm hr)])
/-- what the rows are that a told row changes -/
theorem mYv_row {R k : Nat} {x : Int} (hR : R = 359 ∨ R = 358 ∨ R = 360) (h : mYv Y M) : mYv (bz_up Y R k x) (bz_up M R k x) := by
  obtain ⟨a1, a2, a3, a4, a5, a6, a7⟩ := h
  have e : ∀ (A : bz_M) r, r ≠ 359 → r ≠ 358 → r ≠ 360 → bz_up A R k x r = A r := fun A r x1 x2 x3 => bz_up_fn (by omega)
  have g : ∀ r j, M r j = Y r j → bz_up M R k x r j = bz_up Y R k x r j := fun r j h => by rw [bz_up_rk, bz_up_rk, h]
  refine ⟨?_, fun j hj => g _ _ (a2 j hj), fun j hj => g _ _ (a3 j hj), fun j hj => g _ _ (a4 j hj), ?_, ?_, ?_⟩
  · rw [e M 355 (by decide) (by decide) (by decide), e Y 355 (by decide) (by decide) (by decide), e M 319 (by decide) (by decide) (by decide), e Y 319 (by decide) (by decide) (by decide)]; exact a1
  · rw [e M 356 (by decide) (by decide) (by decide), e Y 356 (by decide) (by decide) (by decide), e M 357 (by decide) (by decide) (by decide), e Y 357 (by decide) (by decide) (by decide), e Y 319 (by decide) (by decide) (by decide)]; exact a5
  · rw [e M 361 (by decide) (by decide) (by decide), e Y 361 (by decide) (by decide) (by decide), e M 362 (by decide) (by decide) (by decide), e Y 362 (by decide) (by decide) (by decide)]; exact a6
  · rw [e M 363 (by decide) (by decide) (by decide), e Y 363 (by decide) (by decide) (by decide), e Y 319 (by decide) (by decide) (by decide)]; exact a7
def mPo (T : Nat → Int) (n : Nat) (M : bz_M) (r : sT × bz_M) (M' : bz_M) : Prop := mSt2 T n r.1 M' ∧ vF M M' ∧ (isOk r.1 → mYv r.2 M')
theorem m_col (hd : 1 < d) (ht : mt T n M) (hO : yOK Y) (hY : mYv Y M) (h : mSt2 T n s M) : w_T (eMo_columnTold Lg d M) (fun p => (isOk (oN T n 0 (Y 355 0 - 1) s).1 → p.1 = (oN T n 0 (Y 355 0 - 1) s).2) ∧ mSt2 T n (oN T n 0 (Y 355 0 - 1) s).1 p.2 ∧ gX M p.2) := by
  have := hO.1
  refine T_le (eMo_columnTold_E (by omega)) ?_
  rw [hY.1.1, w32_id (by omega) (by omega)]
  refine T_seq (ms_N (by omega) ht h) ?_
  rintro ⟨p1, p2⟩ ⟨e1, e2, e3, e4⟩
  exact T_some ⟨fun h => (e1 h).1, e3, e4⟩
theorem m_row (hd : 1 < d) (ht : mt T n M) (hO : yOK Y) (hY : mYv Y M) (h : mSt2 T n s M) : w_T (eMo_rowTold Lg d M) (fun p => (isOk (oN T n 0 (Y 355 1 - 1) s).1 → p.1 = (oN T n 0 (Y 355 1 - 1) s).2 ∧ p.2 319 10 = sPc s) ∧ mSt2 T n (oN T n 0 (Y 355 1 - 1) s).1 p.2 ∧ gX M p.2) := by
  have := hO.2.1
  refine T_le (eMo_rowTold_E (by omega)) ?_
  rw [hY.1.2.1, w32_id (by omega) (by omega)]
  refine T_seq (ms_N (by omega) ht h) ?_
  rintro ⟨p1, p2⟩ ⟨e1, e2, e3, e4⟩
  exact T_some ⟨fun h => e1 h, e3, e4⟩
theorem m_runs (hd : 2 < d) (ht : mt T n M) (hO : yOK Y) (hY : mYv Y M) (h : mSt2 T n s M) : w_T (eMo_runsTold Lg d M) (mPo T n M (yRu T n Y s)) := by
  have hc := hO.1
  refine T_le (eMo_runsTold_E (by omega)) ?_
  refine T_seq (m_col (by omega) ht hO hY h) ?_
  rintro ⟨p1, M1⟩ ⟨e1, a1, b1⟩
  dsimp only at e1 a1 b1 ⊢
  refine T_seq (m_row (by omega) (mt_g ht b1) hO (mYv_X hY b1) a1) ?_
  rintro ⟨p2, M2⟩ ⟨e2, a2, b2⟩
  dsimp only at e2 a2 b2 ⊢
  have b12 := gX_trans b1 b2
  by_cases ok : isOk (yRu T n Y s).1
  · have ok2 : isOk (oN T n 0 (Y 355 1 - 1) (oN T n 0 (Y 355 0 - 1) s).1).1 := ok
    have n1 := oN_in (ok_N ok2)
    rw [if_pos ((mSt_bad a2).mpr ok2), e1 (ok_N ok2), (e2 ok2).1, if_pos (by omega)]
    exact T_some ⟨mSt_up a2 (by decide), vF_trans (vF_X b12) (vF_up (by omega)), fun _ => mYv_row (Or.inl rfl) (mYv_X hY b12)⟩
  · rw [if_neg (fun e => ok ((mSt_bad a2).mp e))]
    exact T_some ⟨a2, vF_X b12, fun h => absurd h ok⟩
theorem m_soil (hd : 2 < d) (ht : mt T n M) (hO : yOK Y) (hY : mYv Y M) (h : mSt2 T n s M) : w_T (eMo_soilTold Lg d M) (mPo T n M (ySo T n Y s)) := by
  have hc := hO.1
  have hr := hO.2.1
  refine T_le (eMo_soilTold_E (by omega)) ?_
  refine T_seq (m_col (by omega) ht hO hY h) ?_
  rintro ⟨p1, M1⟩ ⟨e1, a1, b1⟩
  dsimp only at e1 a1 b1 ⊢
  refine T_seq (m_row (by omega) (mt_g ht b1) hO (mYv_X hY b1) a1) ?_
  rintro ⟨p2, M2⟩ ⟨e2, a2, b2⟩
  dsimp only at e2 a2 b2 ⊢
  have b12 := gX_trans b1 b2
  refine T_seq (ms_N (by omega) (mt_g ht b12) a2) ?_
  rintro ⟨p3, M3⟩ ⟨e3, _, a3, b3⟩
  dsimp only at e3 a3 b3 ⊢
  have b13 := gX_trans b12 b3
  by_cases ok : isOk (ySo T n Y s).1
  · have ok3 : isOk (oN T n 0 9 (oN T n 0 (Y 355 1 - 1) (oN T n 0 (Y 355 0 - 1) s).1).1).1 := ok
    have ok2 := ok_N ok3
    have n1 := oN_in (ok_N ok2)
    have n2 := oN_in ok2
    rw [if_pos ((mSt_bad a3).mpr ok3), e1 (ok_N ok2), (e2 ok2).1, (e3 ok3).1, w32_id (z := 8 * (oN T n 0 (Y 355 0 - 1) s).2) (by omega) (by omega), w32_id (by omega) (by omega), if_pos (by omega)]
    exact T_some ⟨mSt_up a3 (by decide), vF_trans (vF_X b13) (vF_up (by omega)), fun _ => mYv_row (Or.inr (Or.inl rfl)) (mYv_X hY b13)⟩
  · rw [if_neg (fun e => ok ((mSt_bad a3).mp e))]
    exact T_some ⟨a3, vF_X b13, fun h => absurd h ok⟩
theorem m_willow (hd : 2 < d) (ht : mt T n M) (hO : yOK Y) (hw : yW Y) (hY : mYv Y M) (h : mSt2 T n s M) : w_T (eMo_willowTold Lg d M) (mPo T n M (yWi T n Y s)) := by
  have hc := hO.1
  have hr := hO.2.1
  refine T_le (eMo_willowTold_E (by omega)) ?_
  refine T_seq (m_col (by omega) ht hO hY h) ?_
  rintro ⟨p1, M1⟩ ⟨e1, a1, b1⟩
  dsimp only at e1 a1 b1 ⊢
  refine T_seq (m_row (by omega) (mt_g ht b1) hO (mYv_X hY b1) a1) ?_
  rintro ⟨p2, M2⟩ ⟨e2, a2, b2⟩
  dsimp only at e2 a2 b2 ⊢
  have b12 := gX_trans b1 b2
  have hY2 := mYv_X hY b12
  by_cases ok2 : isOk (oN T n 0 (Y 355 1 - 1) (oN T n 0 (Y 355 0 - 1) s).1).1
  · have n1 := oN_in (ok_N ok2)
    have n2 := oN_in ok2
    have x1 := e1 (ok_N ok2)
    have x2 := e2 ok2
    unfold yWi
    dsimp only
    cases hs2 : (oN T n 0 (Y 355 1 - 1) (oN T n 0 (Y 355 0 - 1) s).1).1 with
    | inl e => rw [hs2] at ok2; exact absurd ok2 (fun h => h)
    | inr q =>
      rw [hs2] at a2
      dsimp only
      have a2' : mX T n q M2 := a2
      have h5 : M2 319 5 = 0 := a2'.2.2.2.2.2.1
      generalize (oN T n 0 (Y 355 1 - 1) (oN T n 0 (Y 355 0 - 1) s).1).2 = r at n2 x2 ⊢
      generalize (oN T n 0 (Y 355 0 - 1) s).2 = c at n1 x1 ⊢
      rw [if_pos h5, x1, x2.1, w32_id (z := 8 * c) (by omega) (by omega), w32_id (by omega) (by omega), if_pos (by omega)]
      have hM2 : M2 360 (8 * c + r).toNat = Y 360 (8 * c + r).toNat := hY2.2.2.2.1 _ (by omega)
      have hwk := hw (8 * c + r).toNat (by omega)
      by_cases c9 : Y 360 (8 * c + r).toNat < 9
      · rw [if_neg (by rw [hM2]; omega), if_pos c9]
        refine T_le eMo_willowTold_42_E ?_
        rw [if_pos h5, w32_id (z := 8 * c) (by omega) (by omega), w32_id (z := 8 * c + r) (by omega) (by omega), if_pos (by omega), hM2, w32_id (by omega) (by omega)]
        exact T_some ⟨mSt_up a2 (by decide), vF_trans (vF_X b12) (vF_up (by omega)), fun _ => mYv_row (Or.inr (Or.inr rfl)) hY2⟩
      · rw [if_pos (by rw [hM2]; omega), if_neg c9, x2.2]
        refine T_seq (mo_fail h5 (by decide)) ?_
        rintro M3 ⟨a3, b3, _⟩
        refine T_le eMo_willowTold_42_E ?_
        rw [if_neg (by rw [a3.1]; exact a3.2.1)]
        refine T_some ⟨?_, vF_X (gX_trans b12 b3), fun h => absurd h (fun h => h)⟩
        show mXf 2 (((sPc (oN T n 0 (Y 355 0 - 1) s).1).toNat : Nat) : Int) M3
        have hp : 0 ≤ sPc (oN T n 0 (Y 355 0 - 1) s).1 := by
          unfold sPc
          split
          · decide
          · omega
        rw [Int.toNat_of_nonneg hp]
        exact a3
  · have hs : ¬ M2 319 5 = 0 := fun e => ok2 ((mSt_bad a2).mp e)
    rw [if_neg hs]
    refine T_le eMo_willowTold_42_E ?_
    rw [if_neg hs]
    unfold yWi
    dsimp only
    cases hs2 : (oN T n 0 (Y 355 1 - 1) (oN T n 0 (Y 355 0 - 1) s).1).1 with
    | inl e => rw [hs2] at a2; exact T_some ⟨a2, vF_X b12, fun h => absurd h (fun h => h)⟩
    | inr q => rw [hs2] at ok2; exact absurd trivial ok2
theorem m_spate (hd : 0 < d) (ht : mt T n M) (hY : mYv Y M) (h : mSt2 T n s M) {α : Type} {F : bz_M → Option α} {Q : α → Prop} (hF : ∀ M', mPo T n M (ySp T n Y s) M' → w_T (F M') Q) : w_T ((eMo_number Lg d 0 100 M).bind (fun p7 => F (bz_up p7.2 319 53 p7.1))) Q := by
  refine T_seq (ms_N hd ht h) ?_
  rintro ⟨p1, M1⟩ ⟨e1, _, a1, b1⟩
  dsimp only at e1 a1 b1 ⊢
  refine hF _ ⟨mSt_co a1 (fun k hk => bz_up_nk (by omega) _), vF_trans (vF_X b1) (vF_k (by decide)), fun ok => ?_⟩
  obtain ⟨c1, c2, c3, c4, c5, c6, c7⟩ := mYv_X hY b1
  show mYv (bz_up Y 319 53 (oN T n 0 100 s).2) _
  rw [(e1 ok).1]
  refine ⟨⟨?_, ?_, ?_, ?_, ?_, ?_⟩, ?_, ?_, ?_, ?_, ?_, ?_⟩
  · rw [bz_up_nr (by decide), bz_up_nr (by decide)]; exact c1.1
  · rw [bz_up_nr (by decide), bz_up_nr (by decide)]; exact c1.2.1
  · rw [bz_up_nr (by decide), bz_up_nr (by decide)]; exact c1.2.2.1
  · rw [bz_up_nk (by decide), bz_up_nk (by decide)]; exact c1.2.2.2.1
  · rw [bz_up_eq, bz_up_eq]
  · rw [bz_up_nk (by decide), bz_up_nk (by decide)]; exact c1.2.2.2.2.2
  · rw [bz_up_fn (by decide), bz_up_fn (by decide)]; exact c2
  · rw [bz_up_fn (by decide), bz_up_fn (by decide)]; exact c3
  · rw [bz_up_fn (by decide), bz_up_fn (by decide)]; exact c4
  · rw [bz_up_fn (show 356 ≠ 319 by decide), bz_up_fn (show 356 ≠ 319 by decide), bz_up_fn (show 357 ≠ 319 by decide), bz_up_fn (show 357 ≠ 319 by decide), bz_up_nk (show 46 ≠ 53 by decide)]; exact c5
  · rw [bz_up_fn (show 361 ≠ 319 by decide), bz_up_fn (show 361 ≠ 319 by decide), bz_up_fn (show 362 ≠ 319 by decide), bz_up_fn (show 362 ≠ 319 by decide)]; exact c6
  · rw [bz_up_fn (show 363 ≠ 319 by decide), bz_up_fn (show 363 ≠ 319 by decide), bz_up_nk (show 58 ≠ 53 by decide)]; exact c7
theorem m_size (hd : 4 < d) (hs : stM M) (ht : mt T n M) (hY : mYv Y M) (h : mSt2 T n s M) : w_T (eMo_valleyTold Lg d M) (fun M' => mSt2 T n (oS T n 59 (ySz T n Y s).1) M' ∧ vF M M' ∧ (isOk (ySz T n Y s).1 → mYv (ySz T n Y s).2 M')) := by
  refine T_le (eMo_valleyTold_E (by omega)) ?_
  refine T_seq (ms_W (r := 322) (by omega) (by decide) hs ht h) ?_
  rintro M1 ⟨a1, b1⟩
  have f1 := vF_X b1
  have y1 := mYv_X hY b1
  refine T_seq (ms_N (by omega) (vF_mt f1 ht) a1) ?_
  rintro ⟨n1, M2⟩ ⟨e2, _, a2, b2⟩
  dsimp only at e2 a2 b2 ⊢
  have f2 : vF M (bz_up M2 355 0 n1) := vF_trans (vF_trans f1 (vF_X b2)) (vF_up (by omega))
  refine T_seq (ms_W (r := 323) (by omega) (by decide) (vF_st f2 hs) (vF_mt f2 ht) (mSt_up a2 (by decide))) ?_
  rintro M3 ⟨a3, b3⟩
  have f3 := vF_trans f2 (vF_X b3)
  refine T_seq (ms_N (by omega) (vF_mt f3 ht) a3) ?_
  rintro ⟨n2, M4⟩ ⟨e4, _, a4, b4⟩
  dsimp only at e4 a4 b4 ⊢
  have f4 : vF M (bz_up M4 355 1 n2) := vF_trans (vF_trans f3 (vF_X b4)) (vF_up (by omega))
  refine T_seq (ms_W (r := 324) (by omega) (by decide) (vF_st f4 hs) (vF_mt f4 ht) (mSt_up a4 (by decide))) ?_
  rintro M5 ⟨a5, b5⟩
  have f5 := vF_trans f4 (vF_X b5)
  refine T_seq (ms_N (by omega) (vF_mt f5 ht) a5) ?_
  rintro ⟨n3, M6⟩ ⟨e6, _, a6, b6⟩
  dsimp only at e6 a6 b6 ⊢
  have f6 : vF M (bz_up M6 355 2 n3) := vF_trans (vF_trans f5 (vF_X b6)) (vF_up (by omega))
  refine T_seq (ms_S (by omega) (vF_mt f6 ht) (c := 59) (by decide) (by decide) (by decide) (mSt_up a6 (by decide))) ?_
  rintro M7 ⟨a7, b7⟩
  refine T_some ⟨a7, vF_trans f6 (vF_X b7), fun ok => ?_⟩
  have ok3 : isOk (oN T n 1 7 (oW T n 2 (oN T n 2 8 (oW T n 1 (oN T n 3 10 (oW T n 0 s)).1)).1)).1 := ok
  have ok2 := ok_W (ok_N ok3)
  have ok1 := ok_W (ok_N ok2)
  have k : ∀ r, r ≠ 319 → r ≠ 355 → M7 r = M r := fun r x1 x2 => by
    rw [b7.1 r x1, bz_up_fn x2, b6.1 r x1, b5.1 r x1, bz_up_fn x2, b4.1 r x1, b3.1 r x1, bz_up_fn x2, b2.1 r x1, b1.1 r x1]
  have k9 : ∀ j, j = 46 ∨ j = 53 ∨ j = 58 → M7 319 j = M 319 j := fun j hj => by
    rw [b7.2 j (by omega) (by omega) (by omega) (by omega) (by omega) (by omega), bz_up_nr (by decide), b6.2 j (by omega) (by omega) (by omega) (by omega) (by omega) (by omega), b5.2 j (by omega) (by omega) (by omega) (by omega) (by omega) (by omega), bz_up_nr (by decide), b4.2 j (by omega) (by omega) (by omega) (by omega) (by omega) (by omega), b3.2 j (by omega) (by omega) (by omega) (by omega) (by omega) (by omega), bz_up_nr (by decide), b2.2 j (by omega) (by omega) (by omega) (by omega) (by omega) (by omega), b1.2 j (by omega) (by omega) (by omega) (by omega) (by omega) (by omega)]
  have yy : ∀ r, r ≠ 355 → (ySz T n Y s).2 r = Y r := fun r hr => by
    show bz_up (bz_up (bz_up Y 355 0 _) 355 1 _) 355 2 _ r = Y r
    rw [bz_up_fn hr, bz_up_fn hr, bz_up_fn hr]
  obtain ⟨c1, c2, c3, c4, c5, c6, c7⟩ := hY
  refine ⟨⟨?_, ?_, ?_, ?_, ?_, ?_⟩, ?_, ?_, ?_, ?_, ?_, ?_⟩
  · rw [b7.1 355 (by decide), bz_up_nk (by decide), b6.1 355 (by decide), b5.1 355 (by decide), bz_up_nk (by decide), b4.1 355 (by decide), b3.1 355 (by decide), bz_up_eq]
    exact (e2 ok1).1
  · rw [b7.1 355 (by decide), bz_up_nk (by decide), b6.1 355 (by decide), b5.1 355 (by decide), bz_up_eq]
    exact (e4 ok2).1
  · rw [b7.1 355 (by decide), bz_up_eq]
    exact (e6 ok3).1
  · rw [k9 46 (by decide), yy 319 (by decide)]; exact c1.2.2.2.1
  · rw [k9 53 (by decide), yy 319 (by decide)]; exact c1.2.2.2.2.1
  · rw [k9 58 (by decide), yy 319 (by decide)]; exact c1.2.2.2.2.2
  · rw [k 359 (by decide) (by decide), yy 359 (by decide)]; exact c2
  · rw [k 358 (by decide) (by decide), yy 358 (by decide)]; exact c3
  · rw [k 360 (by decide) (by decide), yy 360 (by decide)]; exact c4
  · rw [k 356 (by decide) (by decide), yy 356 (by decide), k 357 (by decide) (by decide), yy 357 (by decide), yy 319 (by decide)]; exact c5
  · rw [k 361 (by decide) (by decide), yy 361 (by decide), k 362 (by decide) (by decide), yy 362 (by decide)]; exact c6
  · rw [k 363 (by decide) (by decide), yy 363 (by decide), yy 319 (by decide)]; exact c7
end YO

/-! A VALLEY IS TOLD: the reference, from the first piece on -/
def vW (M M' : bz_M) : Prop := (∀ r, ¬ vFq r → M' r = M r) ∧ (∀ k, ¬ vFk k → k ≠ 59 → k ≠ 1 → k ≠ 3 → M' 319 k = M 319 k) ∧ (∀ k, 3 ≤ k → M' 355 k = M 355 k) ∧ (∀ k, 5 ≤ k → M' 356 k = M 356 k) ∧ (∀ k, 25 ≤ k → M' 357 k = M 357 k) ∧ (∀ k, 80 ≤ k → M' 358 k = M 358 k) ∧ (∀ k, 2 ≤ k → M' 361 k = M 361 k ∧ M' 362 k = M 362 k) ∧ (∀ k, 1600 ≤ k → M' 363 k = M 363 k)
theorem vW_trans {A B C : bz_M} (h : vW A B) (g : vW B C) : vW A C := by
  obtain ⟨a1, a2, a3, a4, a5, a6, a7, a8⟩ := h
  obtain ⟨b1, b2, b3, b4, b5, b6, b7, b8⟩ := g
  exact ⟨fun r x => (b1 r x).trans (a1 r x), fun r x y z w => (b2 r x y z w).trans (a2 r x y z w), fun r x => (b3 r x).trans (a3 r x), fun r x => (b4 r x).trans (a4 r x), fun r x => (b5 r x).trans (a5 r x), fun r x => (b6 r x).trans (a6 r x), fun r x => ⟨(b7 r x).1.trans (a7 r x).1, (b7 r x).2.trans (a7 r x).2⟩, fun r x => (b8 r x).trans (a8 r x)⟩
theorem vW_F {M M' : bz_M} (h : vF M M') : vW M M' := ⟨h.1, fun k x _ _ _ => h.2.1 k x, h.2.2⟩
theorem vW_k {M : bz_M} {k : Nat} {x : Int} (h : vFk k ∨ k = 59 ∨ k = 1 ∨ k = 3) : vW M (bz_up M 319 k x) := ⟨fun r hr => bz_up_fn (by omega), fun j a b c e => bz_up_nk (fun ee => by rw [ee] at a b c e; rcases h with h | h | h | h; exact a h; exact b h; exact c h; exact e h) _, fun j _ => bz_up_nr (by decide) _, fun j _ => bz_up_nr (by decide) _, fun j _ => bz_up_nr (by decide) _, fun j _ => bz_up_nr (by decide) _, fun j _ => ⟨bz_up_nr (by decide) _, bz_up_nr (by decide) _⟩, fun j _ => bz_up_nr (by decide) _⟩
theorem vG_k {M M' : bz_M} (h : vG M M') {k : Nat} (hk : ¬ vFk k) (h9 : k ≠ 59) : M' 319 k = M 319 k := by
  have := h.2.1 k hk
  rw [bz_up_nk h9, bz_up_nk h9] at this
  exact this
theorem vW_G {M M' : bz_M} (h : vG M M') : vW M M' := by
  have k : ∀ (A : bz_M) r, r ≠ 319 → bz_up A 319 59 0 r = A r := fun A r hr => bz_up_fn hr
  obtain ⟨a1, a2, a3, a4, a5, a6, a7, a8⟩ := h
  refine ⟨fun r hr => ?_, fun j hj h9 _ _ => ?_, fun j hj => ?_, fun j hj => ?_, fun j hj => ?_, fun j hj => ?_, fun j hj => ?_, fun j hj => ?_⟩
  · have := a1 r hr; rw [k M' r (by omega), k M r (by omega)] at this; exact this
  · have := a2 j hj; rw [bz_up_nk h9, bz_up_nk h9] at this; exact this
  · have := a3 j hj; rw [k M' 355 (by decide), k M 355 (by decide)] at this; exact this
  · have := a4 j hj; rw [k M' 356 (by decide), k M 356 (by decide)] at this; exact this
  · have := a5 j hj; rw [k M' 357 (by decide), k M 357 (by decide)] at this; exact this
  · have := a6 j hj; rw [k M' 358 (by decide), k M 358 (by decide)] at this; exact this
  · have := a7 j hj; rw [k M' 361 (by decide), k M 361 (by decide), k M' 362 (by decide), k M 362 (by decide)] at this; exact this
  · have := a8 j hj; rw [k M' 363 (by decide), k M 363 (by decide)] at this; exact this
section YT
variable {Lg d n : Nat} {T : Nat → Int} {Y M M' : bz_M} {s : sT}
theorem vW_st (f : vW M M') (h : stM M) : stM M' := fun r k h1 h2 => by rw [f.1 r (by omega)]; exact h r k h1 h2
theorem vW_mt (f : vW M M') (h : mt T n M) : mt T n M' := mt_co h (f.1 320 (by decide))
theorem ySz_abc {a b c z8 z9 : Int} : ySz T n (yZ a b c z8 z9) s = ySz T n (yZ 0 0 0 z8 z9) s := by
  unfold ySz
  dsimp only
  congr 1
  funext r k
  by_cases e : r = 355
  · subst e
    by_cases e2 : k = 2
    · subst e2; simp [bz_up_rk]
    by_cases e1 : k = 1
    · subst e1; simp [bz_up_rk]
    by_cases e0 : k = 0
    · subst e0; simp [bz_up_rk]
    simp [bz_up_rk, e0, e1, e2, yZ]
  · rw [bz_up_fn e, bz_up_fn e, bz_up_fn e, bz_up_fn e, bz_up_fn e, bz_up_fn e]
    unfold yZ
    rw [if_neg e, if_neg e]
theorem yV_abc {a b c z8 z9 : Int} : yV T n (yZ a b c z8 z9) = yV T n (yZ 0 0 0 z8 z9) := by
  unfold yV
  rw [ySz_abc]
theorem my_read (hd : 24 < d) {Q : Int × bz_M → Prop} (hs : stM M) (ht : mt T n M) (h1 : M 319 1 = (n : Int)) (hQ : ∀ M', mSt2 T n (yV T n (yZ 0 0 0 (M 362 0) (M 362 1))).1 M' → vW M M' → M' 319 1 = 0 → (isOk (yV T n (yZ 0 0 0 (M 362 0) (M 362 1))).1 → mYv (yV T n (yZ 0 0 0 (M 362 0) (M 362 1))).2.1 M' ∧ M' 319 59 = (yV T n (yZ 0 0 0 (M 362 0) (M 362 1))).2.2) → w_T (eMo_valley_142 Lg d M') Q) : w_T (eMo_valley Lg d M) Q := by
  refine T_le eMo_valley_E ?_
  generalize hM0 : bz_up (bz_up (bz_up (bz_up (bz_up (bz_up (bz_up (bz_up (bz_up (bz_up (bz_up M 319 3 (M 319 1)) 319 1 0) 319 2 0) 319 4 (-1)) 319 5 0) 319 6 (-1)) 319 58 0) 319 46 0) 319 53 0) 361 0 (-1)) 361 1 (-1) = M0
  have w0 : vW M M0 := by
    rw [← hM0]
    refine vW_trans (vW_trans (vW_trans (vW_trans (vW_trans (vW_trans (vW_trans (vW_trans (vW_trans (vW_trans (vW_k (by decide)) (vW_k (by decide))) (vW_k (by decide))) (vW_k (by decide))) (vW_k (by decide))) (vW_k (by decide))) (vW_k (by decide))) (vW_k (by decide))) (vW_k (by decide))) (vW_F (vF_up (by decide)))) (vW_F (vF_up (by decide)))
  have e1 : M0 319 1 = 0 := by rw [← hM0]; simp [bz_up_rk]
  have e2 : M0 319 2 = 0 := by rw [← hM0]; simp [bz_up_rk]
  have e3 : M0 319 3 = (n : Int) := by rw [← hM0, ← h1]; simp [bz_up_rk]
  have e4 : M0 319 4 = -1 := by rw [← hM0]; simp [bz_up_rk]
  have e5 : M0 319 5 = 0 := by rw [← hM0]; simp [bz_up_rk]
  have e6 : M0 319 6 = -1 := by rw [← hM0]; simp [bz_up_rk]
  have e46 : M0 319 46 = 0 := by rw [← hM0]; simp [bz_up_rk]
  have e53 : M0 319 53 = 0 := by rw [← hM0]; simp [bz_up_rk]
  have e58 : M0 319 58 = 0 := by rw [← hM0]; simp [bz_up_rk]
  have ea : M0 361 0 = -1 := by rw [← hM0]; simp [bz_up_rk]
  have eb : M0 361 1 = -1 := by rw [← hM0]; simp [bz_up_rk]
  have ec : M0 362 = M 362 := by
    rw [← hM0]
    repeat rw [bz_up_fn (by decide)]
  have l2 : ∀ (f i : Nat) (M1 : bz_M), i + f = 80 → vW M M1 → (∀ k, k < i → M1 358 k = 5 ∧ M1 360 k = 0) → (∀ k, k < 10 → M1 359 k = 0) → (∀ r, r ≠ 358 → r ≠ 359 → r ≠ 360 → M1 r = M0 r) → w_T (eMo_valley_85 Lg d (i : Int) M1) Q := by
    intro f
    induction f with
    | zero =>
      intro i M1 hi w1 g1 g2 g3
      refine T_le (eMo_valley_85_E (by omega)) ?_
      rw [if_neg (by omega)]
      have k9 := g3 319 (by decide) (by decide) (by decide)
      have hX : mSt2 T n (.inr (nxq T n 0 false)) M1 := by
        show mX T n (nxq T n 0 false) M1
        unfold mX
        rw [k9, e2, e3, e4, e5, e6]
        refine ⟨⟨by omega, by omega⟩, rfl, rfl, by decide, ⟨fun h => ?_, fun h => ?_⟩, rfl, rfl⟩
        · unfold nxq at h; simp at h
        · omega
      have hY : mYv (yZ (M1 355 0) (M1 355 1) (M1 355 2) (M 362 0) (M 362 1)) M1 := by
        refine ⟨⟨rfl, rfl, rfl, ?_, ?_, ?_⟩, fun k hk => g2 k hk, fun k hk => (g1 k (by omega)).1, fun k hk => (g1 k (by omega)).2, fun l hl => ?_, ⟨?_, ?_, ?_, ?_⟩, fun k hk => ?_⟩
        · rw [k9]; exact e46
        · rw [k9]; exact e53
        · rw [k9]; exact e58
        · have : yZ (M1 355 0) (M1 355 1) (M1 355 2) (M 362 0) (M 362 1) 319 46 = 0 := rfl
          rw [this] at hl; omega
        · rw [g3 361 (by decide) (by decide) (by decide)]; exact ea
        · rw [g3 361 (by decide) (by decide) (by decide)]; exact eb
        · rw [g3 362 (by decide) (by decide) (by decide), ec]; rfl
        · rw [g3 362 (by decide) (by decide) (by decide), ec]; rfl
        · have : yZ (M1 355 0) (M1 355 1) (M1 355 2) (M 362 0) (M 362 1) 319 58 = 0 := rfl
          rw [this] at hk; omega
      refine T_seq (m_size (by omega) (vW_st w1 hs) (vW_mt w1 ht) hY hX) ?_
      rintro M2 ⟨a2, b2, y2⟩
      have w2 := vW_trans w1 (vW_trans (vW_F b2) (vW_k (k := 59) (x := 1) (by decide)))
      rw [ySz_abc] at a2 y2
      have iv : isOk (ySz T n (yZ 0 0 0 (M 362 0) (M 362 1)) (.inr (nxq T n 0 false))).1 → yInv (ySz T n (yZ 0 0 0 (M 362 0) (M 362 1)) (.inr (nxq T n 0 false))).2 0 := fun ok => inv_sz ok
      have n1 : M2 319 1 = 0 := by rw [b2.2.1 1 (by decide), k9]; exact e1
      refine my_loop (by omega) 81 1 _ _ _ (by decide) (by decide) (bz_up_eq _ _ _ _) (vW_st w2 hs) (vW_mt w2 ht) (mSt_co a2 (fun j hj => bz_up_nk (by omega) _)) (fun q2 e2 => ?_) (fun _ => by decide) (fun M' x1 x2 x3 => hQ M' x1 (vW_trans w2 (vW_G x2)) ?_ x3)
      · have ok := ok_S (c := 59) (s := (ySz T n (yZ 0 0 0 (M 362 0) (M 362 1)) (.inr (nxq T n 0 false))).1) (T := T) (n := n) (by rw [e2]; trivial)
        exact ⟨inv_z (iv ok) (Nat.zero_le _), mYv_59 (y2 ok)⟩
      · rw [vG_k x2 (by decide) (by decide), bz_up_nk (by decide)]; exact n1
    | succ f ih =>
      intro i M1 hi w1 g1 g2 g3
      refine T_le (eMo_valley_85_E (by omega)) ?_
      rw [if_pos (by omega), if_pos (by omega), if_pos (by omega), Int.toNat_natCast, w32_id (by omega) (by omega)]
      refine ih (i + 1) _ (by omega) (vW_trans w1 (vW_trans (vW_F (vF_up (by omega))) (vW_F (vF_up (by omega))))) (fun k hk => ?_) (fun k hk => ?_) (fun r x1 x2 x3 => ?_)
      · by_cases e : k = i
        · rw [e]
          refine ⟨?_, bz_up_eq _ _ _ _⟩
          rw [bz_up_nr (by decide), bz_up_eq]
        · refine ⟨?_, ?_⟩
          · rw [bz_up_nr (by decide), bz_up_nk e]; exact (g1 k (by omega)).1
          · rw [bz_up_nk e, bz_up_nr (by decide)]; exact (g1 k (by omega)).2
      · rw [bz_up_nr (by decide), bz_up_nr (by decide)]; exact g2 k hk
      · rw [bz_up_fn x3, bz_up_fn x1]; exact g3 r x1 x2 x3
  have l1 : ∀ (f i : Nat) (M1 : bz_M), i + f = 10 → vW M M1 → (∀ k, k < i → M1 359 k = 0) → (∀ r, r ≠ 359 → M1 r = M0 r) → w_T (eMo_valley_64 Lg d (i : Int) M1) Q := by
    intro f
    induction f with
    | zero =>
      intro i M1 hi w1 g2 g3
      refine T_le eMo_valley_64_E ?_
      rw [if_neg (by omega)]
      exact l2 80 0 M1 (by omega) w1 (fun k hk => by omega) (fun k hk => g2 k (by omega)) (fun r _ x _ => g3 r x)
    | succ f ih =>
      intro i M1 hi w1 g2 g3
      refine T_le eMo_valley_64_E ?_
      rw [if_pos (by omega), if_pos (by omega), Int.toNat_natCast, w32_id (by omega) (by omega)]
      refine ih (i + 1) _ (by omega) (vW_trans w1 (vW_F (vF_up (by omega)))) (fun k hk => ?_) (fun r x => ?_)
      · rw [bz_up_rk]
        split
        · rfl
        · exact g2 k (by omega)
      · rw [bz_up_fn x]; exact g3 r x
  exact l1 10 0 M0 (by omega) w0 (fun k hk => by omega) (fun r _ => rfl)
end YT

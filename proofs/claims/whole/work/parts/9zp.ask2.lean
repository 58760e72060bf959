/-! SIM: ask: the reference reads a question -/
abbrev aKk (k : Nat) : Prop := (1 ≤ k ∧ k ≤ 8) ∨ k = 10 ∨ k = 44 ∨ k = 61 ∨ (121 ≤ k ∧ k ≤ 125)
def aqF (M M' : bz_M) : Prop := (∀ r, r ≠ 319 → r ≠ 408 → r ≠ 409 → M' r = M r) ∧ ∀ k, ¬ aKk k → M' 319 k = M 319 k
section TJ
variable {Lg d n : Nat} {T : Nat → Int} {M M1 M2 : bz_M}
theorem aqF_trans {A B C : bz_M} (h : aqF A B) (g : aqF B C) : aqF A C := ⟨fun r a b c => (g.1 r a b c).trans (h.1 r a b c), fun k a => (g.2 k a).trans (h.2 k a)⟩
theorem aqF_X {A B : bz_M} (h : gX A B) : aqF A B := ⟨fun r a _ _ => h.1 r a, fun k a => h.2 k (by omega) (by omega) (by omega) (by omega) (by omega) (by omega)⟩
theorem aqF_F {A B : bz_M} (h : gF A B) : aqF A B := ⟨fun r a b c => h.1 r a b c, fun k a => h.2 k (by omega)⟩
theorem aqF_2 {A B : bz_M} (h : g2 A B) : aqF A B := aqF_X (gX_2 h)
theorem m_kind (hd : 3 < d) (hs : stM M) (ht : mt T n M) (hX : mX T n (q0 T n) M) : w_T (eMo_qKind Lg d M) (fun p => gX M p.2 ∧ ((38 ≤ qW T n ∧ qW T n ≤ 43) → p.1 = ((qW T n : Nat) : Int) - 38 ∧ mX T n (nx T n (q0 T n)) p.2) ∧ (¬ (38 ≤ qW T n ∧ qW T n ≤ 43) → p.1 = 5 ∧ mXf 1 ((q0 T n).1 : Int) p.2)) := by
  have k76 : ∀ (y : Int) (N : bz_M), y ≠ 5 → w_T (eMo_qKind_76 Lg d y N) (fun p => p = (y, N)) := fun y N hy => by
    refine T_le (eMo_qKind_76_E (by omega)) ?_
    rw [if_neg hy]
    exact T_some rfl
  have yes : ∀ (y : Int) (N : bz_M), y ≠ 5 → ((qW T n : Nat) : Int) = 38 + y → 0 ≤ y → y ≤ 5 → mX T n (nx T n (q0 T n)) N → gX M N → w_T (eMo_qKind_76 Lg d y N) (fun p => gX M p.2 ∧ ((38 ≤ qW T n ∧ qW T n ≤ 43) → p.1 = ((qW T n : Nat) : Int) - 38 ∧ mX T n (nx T n (q0 T n)) p.2) ∧ (¬ (38 ≤ qW T n ∧ qW T n ≤ 43) → p.1 = 5 ∧ mXf 1 ((q0 T n).1 : Int) p.2)) := fun y N h5 hw h0 h1 hx hf => by
    refine T_mono (k76 y N h5) ?_
    rintro p rfl
    exact ⟨hf, fun _ => ⟨by dsimp only; omega, hx⟩, fun x => absurd (by omega) x⟩
  -- one try, CPS
  have one : ∀ (r i : Nat) (N : bz_M) (F : Int × bz_M → Option (Int × bz_M)) (Q : Int × bz_M → Prop), isR r → rI r = i → i < 39 → mX T n (q0 T n) N → gX M N → (qW T n = 5 + i → ∀ N', mX T n (nx T n (q0 T n)) N' → gX M N' → w_T (F (1, N')) Q) → (qW T n ≠ 5 + i → ∀ N', mX T n (q0 T n) N' → gX M N' → w_T (F (0, N')) Q) → w_T ((eMo_takes Lg (d - 1) r N).bind F) Q := fun r i N F Q hr hi h39 hx hf h1 h0 => by
    have hsN := stM_g hs hf
    have htN := mt_g ht hf
    by_cases c : qW T n = 5 + i
    · refine T_seq (mo_tk1 (by omega) hr hsN htN hx (by rw [hi]; exact (qW_isW h39).mpr c)) ?_
      rintro ⟨p1, N'⟩ ⟨a1, a2, a3⟩
      dsimp only at a1 a2 a3
      rw [a1]
      exact h1 c N' a2 (gX_trans hf a3)
    · refine T_seq (mo_tk0 (by omega) hr hsN htN hx (by rw [hi]; exact fun x => c ((qW_isW h39).mp x))) ?_
      rintro ⟨p1, N'⟩ ⟨a1, a2, a3⟩
      dsimp only at a1 a2 a3
      rw [a1]
      exact h0 c N' a2.1 (gX_trans hf (gX_2 a3))
  refine T_le (eMo_qKind_E (by omega)) ?_
  refine one 376 33 M _ _ (by decide) rfl (by decide) hX (gX_refl M) (fun c N hx hf => ?_) (fun c1 N hx hf => ?_)
  · dsimp only
    rw [if_neg (by decide)]
    exact yes 0 N (by decide) (by omega) (by decide) (by decide) hx hf
  dsimp only
  rw [if_pos rfl]
  refine one 377 34 N _ _ (by decide) rfl (by decide) hx hf (fun c N hx hf => ?_) (fun c2 N hx hf => ?_)
  · dsimp only
    rw [if_neg (by decide)]
    exact yes 1 N (by decide) (by omega) (by decide) (by decide) hx hf
  dsimp only
  rw [if_pos rfl]
  refine one 378 35 N _ _ (by decide) rfl (by decide) hx hf (fun c N hx hf => ?_) (fun c3 N hx hf => ?_)
  · dsimp only
    rw [if_neg (by decide)]
    exact yes 2 N (by decide) (by omega) (by decide) (by decide) hx hf
  dsimp only
  rw [if_pos rfl]
  refine one 379 36 N _ _ (by decide) rfl (by decide) hx hf (fun c N hx hf => ?_) (fun c4 N hx hf => ?_)
  · dsimp only
    rw [if_neg (by decide)]
    exact yes 3 N (by decide) (by omega) (by decide) (by decide) hx hf
  dsimp only
  rw [if_pos rfl]
  refine one 380 37 N _ _ (by decide) rfl (by decide) hx hf (fun c N hx hf => ?_) (fun c5 N hx hf => ?_)
  · dsimp only
    rw [if_neg (by decide)]
    exact yes 4 N (by decide) (by omega) (by decide) (by decide) hx hf
  dsimp only
  rw [if_pos rfl]
  refine T_le (eMo_qKind_76_E (by omega)) ?_
  rw [if_pos rfl]
  have hsN := stM_g hs hf
  have htN := mt_g ht hf
  by_cases c : qW T n = 43
  · refine T_seq (mo_as1 (by omega) (r := 381) (by decide) hsN htN hx ((qW_isW (by decide)).mpr c)) ?_
    rintro N' ⟨a1, a2⟩
    exact T_some ⟨gX_trans hf a2, fun _ => ⟨by dsimp only; omega, a1⟩, fun x => absurd (by omega) x⟩
  · refine T_seq (mo_as0 (by omega) (r := 381) (by decide) hsN htN hx (fun x => c ((qW_isW (by decide)).mp x))) ?_
    rintro N' ⟨a1, a2⟩
    exact T_some ⟨gX_trans hf a2, fun x => absurd x (by omega), fun _ => ⟨rfl, a1⟩⟩
theorem m_askR (hd : 14 < d) (h60 : M 319 60 ≠ 0) (hs : stM M) (ht : mt T n M) (h1 : M 319 1 = (n : Int)) {Q : Int × bz_M → Prop} (hQ : ∀ (kd : Int) (N : bz_M), aqF M N → N 319 1 = 0 → N 319 61 = 2 → ((∃ e, qAsk T n = .inl e ∧ e.1 ≠ 0 ∧ N 319 5 = e.1 ∧ N 319 6 = (e.2 : Int)) ∨ (∃ cs, qAsk T n = .inr (kd, cs) ∧ N 319 5 = 0 ∧ N 319 6 = -1 ∧ N 319 121 = (cs.length : Int) ∧ zSeg (N 408) 0 cs)) → w_T (eMo_ask_133 Lg d kd N) Q) : w_T (eMo_ask Lg d M) Q := by
  have hn := ht.1
  refine T_le (eMo_ask_E (by omega)) ?_
  rw [if_neg h60, h1]
  generalize hM0 : bz_up (bz_up (bz_up (bz_up (bz_up (bz_up (bz_up (bz_up (bz_up (bz_up (bz_up M 319 3 (n : Int)) 319 1 0) 319 2 0) 319 4 (-1)) 319 5 0) 319 6 (-1)) 319 61 2) 319 121 0) 319 123 0) 319 124 0) 319 125 0 = M0
  have r0 : ∀ r, r ≠ 319 → M0 r = M r := fun r hr => by
    rw [← hM0]
    simp only [bz_up_fn hr]
  have v0 : M0 319 1 = 0 ∧ M0 319 2 = 0 ∧ M0 319 3 = (n : Int) ∧ M0 319 4 = -1 ∧ M0 319 5 = 0 ∧ M0 319 6 = -1 ∧ M0 319 61 = 2 ∧ M0 319 121 = 0 ∧ M0 319 123 = 0 ∧ M0 319 124 = 0 ∧ M0 319 125 = 0 := by
    rw [← hM0]
    simp [bz_up_rk]
  obtain ⟨v1, v2, v3, v4, v5, v6, v61, v121, v123, v124, v125⟩ := v0
  have k0 : ∀ k, ¬ aKk k → M0 319 k = M 319 k := fun k hk => by
    rw [← hM0, bz_up_nk (by omega), bz_up_nk (by omega), bz_up_nk (by omega), bz_up_nk (by omega), bz_up_nk (by omega), bz_up_nk (by omega), bz_up_nk (by omega), bz_up_nk (by omega), bz_up_nk (by omega), bz_up_nk (by omega), bz_up_nk (by omega)]
  have f0 : aqF M M0 := ⟨fun r a _ _ => r0 r a, k0⟩
  have ht0 : mt T n M0 := mt_co ht (r0 320 (by decide))
  have hs0 : stM M0 := fun r k x1 x2 => by rw [r0 r (by omega)]; exact hs r k x1 x2
  have hX0 : mX T n (q0 T n) M0 := by
    refine ⟨by rw [v2]; omega, by rw [v2]; rfl, v3, by rw [v2, v4]; decide, ?_, v5, v6⟩
    rw [v4, q0_2]
    constructor
    · intro x; cases x
    · intro x; omega
  refine T_seq (m_kind (by omega) hs0 ht0 hX0) ?_
  rintro ⟨kd, N⟩ ⟨g0, gy, gn⟩
  dsimp only at g0 gy gn ⊢
  have fN : aqF M N := aqF_trans f0 (aqF_X g0)
  have n1 : N 319 1 = 0 := by rw [g0.2 1 (by decide) (by decide) (by decide) (by decide) (by decide) (by decide)]; exact v1
  have n61 : N 319 61 = 2 := by rw [g0.2 61 (by decide) (by decide) (by decide) (by decide) (by decide) (by decide)]; exact v61
  by_cases c : 38 ≤ qW T n ∧ qW T n ≤ 43
  · obtain ⟨ek, hX⟩ := gy c
    have htN := mt_g ht0 g0
    have hsN := stM_g hs0 g0
    have hG : mG T n N (nx T n (q0 T n)) [] [] 0 0 (nx T n (q0 T n)).1 N := by
      refine ⟨gF_refl N, hX, ⟨?_, trivial⟩, ⟨?_, trivial⟩, ?_, ?_, Nat.zero_le _⟩
      · rw [g0.2 121 (by decide) (by decide) (by decide) (by decide) (by decide) (by decide)]; exact v121
      · rw [g0.2 123 (by decide) (by decide) (by decide) (by decide) (by decide) (by decide)]; exact v123
      · rw [g0.2 124 (by decide) (by decide) (by decide) (by decide) (by decide) (by decide)]; exact v124
      · rw [g0.2 125 (by decide) (by decide) (by decide) (by decide) (by decide) (by decide)]; exact v125
    have tot := rd_total (T := T) (n := n) (w := 8) (Or.inr (Or.inr rfl)) (12 * n + 60) (qNt T n) 0 (nx T n (q0 T n)) (by unfold qNt; split <;> decide) (by decide) (nx_ok q0_ok) (by unfold qNt; split <;> omega)
    obtain ⟨out, ho⟩ := Option.ne_none_iff_exists'.mp tot
    have eA : qAsk T n = qFin n (((qW T n : Nat) : Int) - 38) (some out) := by
      unfold qAsk
      rw [if_pos c, ho]
    have tail : ∀ N1, mFo T n N [] [] 0 0 out N1 → w_T (eMo_ask_109 Lg d kd N1) Q := fun N1 h => by
      refine T_le (eMo_ask_109_E (by omega)) ?_
      cases out with
      | inl e =>
        have h : gF N N1 ∧ mXf e.1 (e.2 : Int) N1 := h
        have eA : qAsk T n = .inl e := eA
        rw [if_neg (by rw [h.2.1]; exact h.2.2.1)]
        refine hQ kd N1 (aqF_trans fN (aqF_F h.1)) ?_ ?_ (Or.inl ⟨e, eA, h.2.2.1, h.2.1, h.2.2.2⟩)
        · rw [h.1.2 1 (by decide)]; exact n1
        · rw [h.1.2 61 (by decide)]; exact n61
      | inr p =>
        have h : mG T n N p.1 ([] ++ p.2) [] 0 0 p.1.1 N1 := h
        rw [List.nil_append] at h
        have eA : qAsk T n = if n ≤ p.1.1 then .inr (((qW T n : Nat) : Int) - 38, p.2) else .inl (1, p.1.1) := eA
        have hg := rd_good (w := 8) (Or.inr (Or.inr rfl)) (12 * n + 60) (qNt T n) 0 (nx T n (q0 T n)) p.1 p.2 (by unfold qNt; split <;> decide) (by decide) (nx_ok q0_ok) ho
        have ht1 : mt T n N1 := mt_co htN (h.1.1 320 (by decide) (by decide) (by decide))
        rw [if_pos h.2.1.2.2.2.2.2.1]
        refine T_seq (mo_look ht1 h.2.1) ?_
        rintro ⟨lk, N2⟩ ⟨a1, a2, a3⟩
        dsimp only at a1 a2 a3 ⊢
        have f2 : aqF M N2 := aqF_trans fN (aqF_trans (aqF_F h.1) (aqF_2 a3))
        have m1 : N2 319 1 = 0 := by rw [a3.2 1 (by decide), h.1.2 1 (by decide)]; exact n1
        have m61 : N2 319 61 = 2 := by rw [a3.2 61 (by decide), h.1.2 61 (by decide)]; exact n61
        by_cases ce : n ≤ p.1.1
        · rw [a1, if_pos (lk_end ce)]
          rw [if_pos ce, ← ek] at eA
          refine hQ kd N2 f2 m1 m61 (Or.inr ⟨p.2, eA, a2.1.2.2.2.2.2.1, a2.1.2.2.2.2.2.2, ?_, ?_⟩)
          · rw [a3.2 121 (by decide)]; exact h.2.2.1.1
          · rw [a3.1 408 (by decide)]; exact h.2.2.1.2
        · rw [a1, if_neg (fun x => ce (lk_no x (fun j hj => (ht.2 j hj).2.1)))]
          rw [if_neg ce] at eA
          refine T_seq (mo_fail a2.1.2.2.2.2.2.1 (by decide)) ?_
          rintro N3 ⟨b1, b2, b3⟩
          refine hQ kd N3 (aqF_trans f2 (aqF_X b2)) ?_ ?_ (Or.inl ⟨_, eA, (show (1 : Int) ≠ 0 by decide), b1.1, ?_⟩)
          · rw [b2.2 1 (by decide) (by decide) (by decide) (by decide) (by decide) (by decide)]; exact m1
          · rw [b2.2 61 (by decide) (by decide) (by decide) (by decide) (by decide) (by decide)]; exact m61
          · rw [b1.2.2, a2.2]
    have n5 : N 319 5 = 0 := hX.2.2.2.2.2.1
    rw [if_pos n5]
    by_cases ct : qW T n ≤ 40
    · have e9 : qNt T n = 9 := if_pos ct
      rw [if_pos (by omega)]
      rw [e9] at ho
      exact T_seq (mo_testR (Lg := Lg) (d := d - 1) (w := 8) (by omega) (Or.inr (Or.inr rfl)) htN hsN n61 hG ho) tail
    · have e3 : qNt T n = 3 := if_neg ct
      rw [if_neg (by omega), if_pos n5]
      rw [e3] at ho
      refine T_seq (mo_sumsR (Lg := Lg) (d := d - 1) (w := 8) (by omega) (Or.inr (Or.inr rfl)) htN hsN n61 (W := []) (by decide) (by decide) (by decide) (Nat.le_refl _) hG ho) (fun N1 h1 => tail N1 ?_)
      cases out with
      | inl e =>
        have h1 : mGf N e.1 (e.2 : Int) N1 := h1
        exact ⟨h1.1, h1.2.1⟩
      | inr p => exact h1
  · obtain ⟨ek, hx⟩ := gn c
    have eA : qAsk T n = .inl (1, (q0 T n).1) := by
      unfold qAsk
      rw [if_neg c]
    rw [if_neg (by rw [hx.1]; decide), if_neg (by rw [hx.1]; decide)]
    refine T_le (eMo_ask_109_E (by omega)) ?_
    rw [if_neg (by rw [hx.1]; decide)]
    exact hQ kd N fN n1 n61 (Or.inl ⟨_, eA, (show (1 : Int) ≠ 0 by decide), hx.1, hx.2.2⟩)
end TJ

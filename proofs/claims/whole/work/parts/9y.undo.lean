/-! SIM: undo -/
section SR
variable {Lg d : Nat} {V M M' M1 M2 N1 N2 : bz_M} {S S' : Nat → Int} {v u s j : Nat}
theorem tm19 (n : Nat) (hn : n < 20) : Int.tmod (bz_w32 (bz_w32 ((n : Int) + 20) - 1)) 20 = (((n + 19) % 20 : Nat) : Int) := by
  rw [w32_id (z := (n : Int) + 20) (by omega) (by omega), w32_id (by omega) (by omega), Int.tmod_eq_emod_of_nonneg (by omega)]; omega
theorem pa_rec (hd : 0 < d) {n : Nat} (h1 : M 157 1 = (n : Int)) (hn : n < 20) (h0 : 1 ≤ M 157 0 ∧ M 157 0 ≤ 20) (h158 : ∀ j, j < 20 → M 158 j = ((159 + 6 * j : Nat) : Int)) : w_T (ePa_recall Lg d M) (fun p => p.1 = 1 ∧ (p.2 157 1 = (((n + 19) % 20 : Nat) : Int) ∧ p.2 157 0 = M 157 0 - 1) ∧ (p.2 148 0 = M (159 + 6 * n) 0 ∧ p.2 148 1 = M (159 + 6 * n) 1 ∧ p.2 148 2 = M (159 + 6 * n) 2) ∧ (∀ k, k < 10 → p.2 (148 + 1) k = M (159 + 6 * n + 1) k) ∧ (∀ k, k < 80 → p.2 (148 + 2) k = M (159 + 6 * n + 2) k ∧ p.2 (148 + 3) k = M (159 + 6 * n + 3) k) ∧ (∀ k, k < 5 → p.2 (148 + 4) k = M (159 + 6 * n + 4) k ∧ p.2 (148 + 5) k = M (159 + 6 * n + 5) k) ∧ ∀ r, r ≠ 157 → ¬ (148 ≤ r ∧ r ≤ 153) → p.2 r = M r) := by
  have ho := oS_j n hn
  refine T_le (ePa_recall_E hd) ?_
  rw [if_neg (by omega), h1, if_pos (by omega), Int.toNat_natCast, h158 n hn, Int.toNat_natCast]
  obtain ⟨M1, e, a0, a1, a2, a4, af⟩ := st_copy (Lg := Lg) (d := d - 1) (M := M) (show bz_oS 148 by decide) ho.1 (Ne.symm ho.2)
  refine T_run e ?_
  have e1 : M1 157 = M 157 := af 157 (by omega)
  rw [e1, h1, tm19 n hn, w32_id (z := M 157 0 - 1) (by omega) (by omega)]
  have k : ∀ r, r ≠ 157 → bz_up (bz_up M1 157 1 (((n + 19) % 20 : Nat) : Int)) 157 0 (M 157 0 - 1) r = M1 r := fun r hr => by rw [bz_up_fn hr, bz_up_fn hr]
  refine T_some ?_
  dsimp only
  refine ⟨rfl, ⟨by rw [bz_up_nk (by decide), bz_up_eq], by rw [bz_up_eq]⟩, ?_, fun i hi => ?_, fun i hi => ?_, fun i hi => ?_, fun r x1 x2 => ?_⟩
  · rw [k 148 (by decide)]; exact a0
  · rw [k (148 + 1) (by decide)]; exact a1 i hi
  · rw [k (148 + 2) (by decide), k (148 + 3) (by decide)]; exact a2 i hi
  · rw [k (148 + 4) (by decide), k (148 + 5) (by decide)]; exact a4 i hi
  · rw [k r x1]; exact af r (by omega)
theorem mo_undo {n : Nat} (h1 : M 319 86 = (n : Int)) (hn : n < 20) (h0 : 1 ≤ M 319 85 ∧ M 319 85 ≤ 20) : w_T (eMo_undo Lg d M) (fun p => p.1 = 1 ∧ (p.2 319 86 = (((n + 19) % 20 : Nat) : Int) ∧ p.2 319 85 = M 319 85 - 1) ∧ (∀ k, k < 303 → p.2 364 k = M 375 (303 * n + k)) ∧ (∀ k, k ≠ 85 → k ≠ 86 → p.2 319 k = M 319 k) ∧ ∀ r, r ≠ 319 → r ≠ 364 → p.2 r = M r) := by
  have key : ∀ (f i : Nat) (M1 : bz_M), i + f = 303 → (∀ k, k < i → M1 364 k = M 375 (303 * n + k)) → (∀ r, r ≠ 364 → M1 r = M r) → w_T (eMo_undo_21 Lg d (i : Int) M1) (fun p => p.1 = 1 ∧ (p.2 319 86 = (((n + 19) % 20 : Nat) : Int) ∧ p.2 319 85 = M 319 85 - 1) ∧ (∀ k, k < 303 → p.2 364 k = M 375 (303 * n + k)) ∧ (∀ k, k ≠ 85 → k ≠ 86 → p.2 319 k = M 319 k) ∧ ∀ r, r ≠ 319 → r ≠ 364 → p.2 r = M r) := by
    intro f
    induction f with
    | zero =>
      intro i M1 hi g2 g5
      refine T_le eMo_undo_21_E ?_
      rw [show i = 303 by omega] at g2 ⊢
      rw [if_neg (by decide), g5 319 (by decide), h1, tm19 n hn, w32_id (z := M 319 85 - 1) (by omega) (by omega)]
      refine T_some ?_
      dsimp only
      refine ⟨rfl, ⟨by rw [bz_up_nk (by decide), bz_up_eq], by rw [bz_up_eq]⟩, fun k hk => ?_, fun k x1 x2 => ?_, fun r x1 x2 => ?_⟩
      · rw [bz_up_fn (by decide), bz_up_fn (by decide)]; exact g2 k hk
      · rw [bz_up_nk x1, bz_up_nk x2, g5 319 (by decide)]
      · rw [bz_up_fn x1, bz_up_fn x1]; exact g5 r x2
    | succ f ih =>
      intro i M1 hi g2 g5
      refine T_le eMo_undo_21_E ?_
      rw [if_pos (by omega), g5 319 (by decide), h1, w32_id (z := 303 * (n : Int)) (by omega) (by omega), w32_id (z := 303 * (n : Int) + (i : Int)) (by omega) (by omega), if_pos (by omega), if_pos (by omega), w32_id (z := (i : Int) + 1) (by omega) (by omega), Int.toNat_natCast, show (303 * (n : Int) + (i : Int)).toNat = 303 * n + i by omega]
      refine ih (i + 1) _ (by omega) (fun k hk => ?_) (fun r x1 => ?_)
      · by_cases e : k = i
        · rw [e, bz_up_eq, g5 375 (by decide)]
        · rw [bz_up_nk (by omega)]; exact g2 k (by omega)
      · rw [bz_up_fn x1]; exact g5 r x1
  refine T_le eMo_undo_E ?_
  rw [if_neg (by omega)]
  exact key 303 0 _ (by omega) (fun k hk => by omega) (fun r _ => rfl)
theorem stp_undo (hd : 1 < d) (h : Sim M) : stp (eBr_undo Lg d) (eMo_undo Lg d) M := by
  obtain ⟨V, S, v, u, hS⟩ := h
  have o := hS.1.1
  have hvv := oV_c o
  have pa := hS.2.2.2.2.2.2.2.2.2.2.2.1
  have pc := pa.2.1
  by_cases c : M 157 0 = 0
  · refine ref_stp (a := 4) (x := 0) hS (by decide) (T_le (eBr_undo_E (by omega)) ?_) (fun N kN => T_le eMo_undo_E ?_)
    · refine T_seq (R := fun p => p = ((0 : Int), M)) (T_le (ePa_recall_E (by omega)) ?_) ?_
      · rw [if_pos c]; exact T_some rfl
      · rintro p rfl
        rw [if_pos rfl]
        refine T_seq (br_refuses (a := 4) (by decide)) ?_
        rintro p rfl
        rw [if_pos (Or.inl rfl)]
        exact T_some rfl
    · rw [if_pos (by rw [kN 319 (by decide), ← pa.1.1]; exact c)]
      exact T_some rfl
  · have hv : vaR V S v M := by
      rcases hS.2.2.1 with x | x
      · exact x
      · exact absurd x.2.2.2.2.1 c
    obtain ⟨n, n1, n2, n3, n4⟩ := sim_pa hS
    refine T_le (eBr_undo_E (by omega)) ?_
    refine T_seq (pa_rec (by omega) n1 n3 (by omega) pa.2.2.2.1) ?_
    rintro ⟨p1, M1⟩ ⟨a0, a1, a2, a3, a4, a5, a6⟩
    dsimp only at a0 a1 a2 a3 a4 a5 a6 ⊢
    rw [if_neg (by omega)]
    have e319 : M1 319 = M 319 := a6 319 (by decide) (by decide)
    refine T_some ?_
    dsimp only
    refine T_mono (mo_undo (n := n) (by rw [e319]; exact n2) n3 (by rw [e319, ← pa.1.1]; omega)) ?_
    rintro ⟨p2, N⟩ ⟨b0, b1, b2, b3, b4⟩
    dsimp only at b0 b1 b2 b3 b4 ⊢
    rw [e319] at b1 b3
    have k : ∀ r, r ≠ 319 → r ≠ 364 → r ≠ 157 → ¬ (148 ≤ r ∧ r ≤ 153) → N r = M r := fun r x1 x2 x3 x4 => by rw [b4 r x1 x2, a6 r x3 x4]
    have kC : ∀ r, r ≠ 319 → r ≠ 364 → N r = M1 r := b4
    have e375 : M1 375 = M 375 := a6 375 (by decide) (by decide)
    have p0 : pjR M 0 = n := by unfold pjR; omega
    obtain ⟨g1, g2, g3, g4⟩ := pa.2.2.2.2 0 (by omega)
    rw [p0] at g2 g3 g4
    have hR : ∀ k, k < 303 → N 364 k = paS M 0 k := fun k hk => by
      rw [b2 k hk, e375]
      unfold paS
      rw [p0]
    have hk : kpR (paS M 0) 148 N := by
      refine ⟨?_, ?_, fun i hi => ?_⟩
      · rw [kC 148 (by decide) (by decide), a2.2.2]; exact g3.1
      · rw [kC 148 (by decide) (by decide), a2.2.2]; exact g3.2.1
      · rw [kC 148 (by decide) (by decide), a2.2.2, k 300 (by decide) (by decide) (by decide) (by decide), k 301 (by decide) (by decide) (by decide) (by decide)]
        exact g3.2.2 i hi
    have eS : ∀ i, i < 19 → pjR N i = pjR M (i + 1) := fun i hi => by
      unfold pjR
      rw [kC 157 (by decide) (by decide), a1.1]; omega
    have hp : paR V N := by
      refine ⟨⟨?_, ?_⟩, ?_, ?_, fun i hi => ?_, fun i hi => ?_⟩
      · rw [kC 157 (by decide) (by decide), a1.2, b1.2, pa.1.1]
      · rw [kC 157 (by decide) (by decide), a1.1, b1.1]
      · rw [kC 157 (by decide) (by decide), a1.2]; omega
      · rw [kC 157 (by decide) (by decide), a1.1]; omega
      · rw [k 158 (by decide) (by decide) (by decide) (by decide)]; exact pa.2.2.2.1 i hi
      · rw [kC 157 (by decide) (by decide), a1.2] at hi
        have hl := pjR_lt (M := M) (i + 1)
        obtain ⟨y1, y2, y3, y4⟩ := pa.2.2.2.2 (i + 1) (by omega)
        rw [if_neg (by omega), Nat.add_sub_cancel] at y4
        have eP : paS N i = paS M (i + 1) := by
          unfold paS
          rw [eS i (by omega), k 375 (by decide) (by decide) (by decide) (by decide)]
        have kr : ∀ r, 159 ≤ r → r ≤ 278 → N r = M r := fun r x1 x2 => k r (by omega) (by omega) (by omega) (by omega)
        rw [eP, eS i (by omega)]
        refine ⟨y1, cS_co y2 (kr _ (by omega) (by omega)) (kr _ (by omega) (by omega)) (kr _ (by omega) (by omega)) (kr _ (by omega) (by omega)) (kr _ (by omega) (by omega)) (kr _ (by omega) (by omega)), kpR_co y3 (by rw [kr _ (by omega) (by omega)]) (k 300 (by decide) (by decide) (by decide) (by decide)) (k 301 (by decide) (by decide) (by decide) (by decide)), ?_⟩
        rw [kr (159 + 6 * pjR M (i + 1)) (by omega) (by omega)]
        by_cases i0 : i = 0
        · rw [if_pos i0, kC 148 (by decide) (by decide), a2.2.2]
          rw [i0, p0] at y4
          rw [i0]
          exact y4
        · rw [if_neg i0]
          have hl' := pjR_lt (M := M) i
          rw [eS (i - 1) (by omega), show i - 1 + 1 = i by omega, kr (159 + 6 * pjR M i) (by omega) (by omega)]
          exact y4
    refine ⟨b0, ⟨V, paS M 0, v, u, Sim_act hS hv ⟨fun r e1 e2 e3 e4 e5 e6 e7 e8 e9 e10 e11 e12 e13 e14 e15 => k r (by omega) (by omega) (by omega) (by omega), by rw [k 131 (by decide) (by decide) (by decide) (by decide)], fun j _ => by rw [k 122 (by decide) (by decide) (by decide) (by decide)], fun j _ => by rw [k 123 (by decide) (by decide) (by decide) (by decide)], fun j _ _ x1 x2 _ => b3 j x1 x2⟩ (tpR_co hS.2.2.2.1 (by rw [k 123 (by decide) (by decide) (by decide) (by decide)]) (b3 1 (by decide) (by decide)) (k 320 (by decide) (by decide) (by decide) (by decide)) (k 124 (by decide) (by decide) (by decide) (by decide))) ?_ g1 ?_ hR hk hp⟩, fun r hr => k r (by omega) (by omega) (by omega) (by omega)⟩
    · have t4 := hS.2.2.2.2.2.2.1
      unfold drR at t4 ⊢
      rw [k 122 (by decide) (by decide) (by decide) (by decide), b3 87 (by decide) (by decide)]
      exact t4
    · refine cS_co (M := M1) (cS_cp g2 a2 a3 a4 a5) (kC _ (by decide) (by decide)) (kC _ (by decide) (by decide)) (kC _ (by decide) (by decide)) (kC _ (by decide) (by decide)) (kC _ (by decide) (by decide)) (kC _ (by decide) (by decide))
end SR

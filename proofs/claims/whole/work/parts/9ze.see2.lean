/-! SIM: see, both -/
section SX
variable {Lg d : Nat} {V M M' M1 M2 N1 N2 : bz_M} {S S' B P T : Nat → Int} {v u s j n : Nat}
theorem tm3 (n : Nat) : Int.tmod (n : Int) 3 = ((n % 3 : Nat) : Int) := by rw [Int.tmod_eq_emod_of_nonneg (by omega)]; omega
theorem td3 {n : Nat} (h : n ≤ 1600) : bz_w32 (Int.tdiv (n : Int) 3) = ((n / 3 : Nat) : Int) := by rw [Int.tdiv_eq_ediv_of_nonneg (by omega), w32_id (by omega) (by omega)]; omega
theorem m_see0 (hd : 2 < d) {x1 : Int} : w_T (eMo_see_43 Lg d x1 0 0 M) (fun p => p = ((-1 : Int), bz_up M 321 1 (bz_w32 (M 321 1 + 1)))) := by
  have fin : w_T ((eMo_refuses Lg (d - 1) 1 M).bind (fun p1 => some (p1.1, p1.2))) (fun p => p = ((-1 : Int), bz_up M 321 1 (bz_w32 (M 321 1 + 1)))) := by
    refine T_seq (mo_refuses (a := 1) (by decide)) ?_
    rintro p rfl
    exact T_some rfl
  refine T_le (eMo_see_43_E hd) ?_
  by_cases c : 0 < x1
  · rw [if_pos c, if_pos rfl, if_pos rfl]; exact fin
  · rw [if_neg c, if_pos rfl]; exact fin
theorem stp_see (hd : 3 < d) (h : Sim M) : stp (eBr_see Lg d) (eMo_see Lg d) M := by
  obtain ⟨V, S, v, u, hS⟩ := h
  have o := hS.1.1
  have hvv := oV_c o
  have h131 := hS.1.2.2.2.1
  have bd := sim_bd hS
  have sz := sim_sz hS
  have t1 := hS.2.2.2.1
  have hn := tp_n t1
  have hb := t1.2.1
  generalize hNn : (M 319 1).toNat = n at hn
  have h1 : M 123 1 = (n : Int) := t1.1.trans hn
  have hn6 : n ≤ 1600 := by omega
  have hTc : ∀ k, k < n → M 124 k = bz_w8 (M 320 k) ∧ 0 ≤ M 320 k ∧ M 320 k < 256 := fun k hk => by have := t1.2.2 k (by omega); exact ⟨this.2, this.1.1, this.1.2⟩
  have cref : w_T ((eBr_refusal Lg (d - 1) 1 (bz_up M 123 1 0)).bind (fun p1 => some (p1.1, p1.2))) (fun p => p = ((-1 : Int), bz_up (bz_up M 123 1 0) 302 1 (bz_w32 (M 302 1 + 1)))) := by
    refine T_seq (br_refusal (a := 1) (by decide)) ?_
    rintro p rfl
    rw [bz_up_nr (show 302 ≠ 123 by decide)]
    exact T_some rfl
  have ev : ∀ k, bz_up M 123 1 0 v k = M v k := fun k => bz_up_nr (by omega) k
  have m0 : ∀ N : bz_M, w_T (eMo_see_43 Lg d (n : Int) 0 0 (bz_up N 319 1 0)) (fun p => p = ((-1 : Int), bz_up (bz_up N 319 1 0) 321 1 (bz_w32 (N 321 1 + 1)))) := fun N => by
    refine T_mono (m_see0 (by omega)) ?_
    rintro p rfl
    rw [bz_up_nr (show 321 ≠ 319 by decide)]
  by_cases c0 : 0 < M v 0
  · obtain ⟨h60, hv⟩ := bd.2.2.2 (Or.inl c0)
    have e0 : M v 0 = vC V := hv.2.1.2.1.1.1
    have e1 : M v 1 = vR V := hv.2.1.2.1.1.2.1
    have hC := hv.1.1.2.1
    have hR := hv.1.1.2.2.1
    have cls : ∀ Q : Int × bz_M → Prop, w_T ((eFc_sees Lg (d - 1) 124 (n : Int) (bz_up M 123 1 0)).bind (fun p2 => (if p2.1 = 0 then ((eBr_refusal Lg (d - 1) 1 p2.2).bind (fun p3 => (some (p3.1, p3.2)))) else (some ((p2.2 279 1), p2.2))))) Q → w_T (eBr_see Lg d M) Q := fun Q hQ => by
      refine T_le (eBr_see_E (by omega) o) ?_
      rw [if_pos h131, if_neg (fun e => bz_b0.mp e (by rw [ev 0]; exact c0)), h1]
      exact hQ
    have cbad : ∀ Q : Int × bz_M → Prop, w_T (eFc_sees Lg (d - 1) 124 (n : Int) (bz_up M 123 1 0)) (fun p => p = (0, bz_up M 123 1 0)) → w_T (eBr_see Lg d M) (fun p => p = ((-1 : Int), bz_up (bz_up M 123 1 0) 302 1 (bz_w32 (M 302 1 + 1)))) := fun Q hQ => by
      refine cls _ (T_seq hQ ?_)
      rintro p rfl
      rw [if_pos rfl]
      exact cref
    by_cases c1 : n % 3 = 0 ∧ 1 ≤ n / 3 ∧ n / 3 ≤ 16
    · generalize hm : n / 3 = m at c1
      have hn3 : n = 3 * m := by omega
      have sees : ∀ Q : Int × bz_M → Prop, w_T (eFc_sees_26 Lg (d - 1) 124 (n : Int) (m : Int) ((3 * 0 : Nat) : Int) (bz_up M 123 1 0)) Q → w_T (eFc_sees Lg (d - 1) 124 (n : Int) (bz_up M 123 1 0)) Q := fun Q hQ => by
        refine T_le eFc_sees_E ?_
        rw [td3 hn6, tm3, hm, if_pos (by omega), if_neg (by omega), if_neg (by omega)]
        exact hQ
      have hTc' : ∀ k, k < n → bz_up M 123 1 0 124 k = bz_w8 (M 320 k) ∧ 0 ≤ M 320 k ∧ M 320 k < 256 := fun k hk => by rw [bz_up_nr (by decide)]; exact hTc k hk
      have mo : ∀ (N : bz_M) (Q : Int × bz_M → Prop), N 319 = M 319 → w_T (eMo_see_43 Lg d (n : Int) 1 ((3 * 0 : Nat) : Int) (bz_up N 319 1 0)) Q → w_T (eMo_see Lg d N) Q := fun N Q eN hQ => by
        refine T_le eMo_see_E ?_
        rw [eN, hn, td3 hn6, tm3, hm, if_neg h60, if_pos (by omega), if_pos (by omega), if_neg (by omega)]
        exact hQ
      by_cases good : ∀ j, j < m → gR (M 320) (M v 0) (M v 1) j
      · refine cls _ (T_seq (R := fun p => p.1 = 1 ∧ (∀ k, k < n → p.2 280 k = bz_up M 123 1 0 124 k) ∧ p.2 279 1 = (m : Int) ∧ (∀ r, r ≠ 280 → r ≠ 279 → p.2 r = bz_up M 123 1 0 r)) (sees _ (c_seeL o hn3 (by omega) (by rw [bz_up_nr (by decide)]; exact h131) hTc' m 0 (by omega) (fun _ => ?_) (fun x => ?_))) ?_)
        · exact c_seeC (by omega) n 0 _ (by omega) (fun k hk => by omega) (fun _ _ => rfl)
        · refine absurd (fun j _ b => ?_) x
          rw [ev 0, ev 1]; exact good j b
        rintro ⟨p1, M1⟩ ⟨a1, a2, a3, a4⟩
        dsimp only at a1 a2 a3 a4 ⊢
        rw [if_neg (by omega)]
        refine T_some ?_
        dsimp only
        have k1 : ∀ r, r ≠ 280 → r ≠ 279 → r ≠ 123 → M1 r = M r := fun r x1 x2 x3 => by rw [a4 r x1 x2, bz_up_fn x3]
        have kZ : ∀ r, r ≠ 319 → bz_up M1 319 1 0 r = M1 r := fun r hr => bz_up_fn hr
        refine mo M1 _ (k1 319 (by decide) (by decide) (by decide)) ?_
        refine m_seeL (T := M 320) (by omega) hn3 (by omega) ?_ ?_ ?_ (fun k hk => ?_) m 0 (by omega) (fun _ => ?_) (fun x => ?_)
        · rw [bz_up_nk (by decide), k1 319 (by decide) (by decide) (by decide)]; exact h60
        · rw [kZ 355 (by decide), k1 355 (by decide) (by decide) (by decide), ← sz.1]; omega
        · rw [kZ 355 (by decide), k1 355 (by decide) (by decide) (by decide), ← sz.2]; omega
        · rw [kZ 320 (by decide), k1 320 (by decide) (by decide) (by decide)]; exact ⟨rfl, (hTc k hk).2⟩
        · refine T_mono (m_seeC (m := m) (M := bz_up M1 319 1 0) (by omega) hn3 n 0 _ (by omega) (fun k hk => by omega) (fun _ _ => rfl)) ?_
          rintro ⟨p2, N⟩ ⟨b1, b2, b3, b4, b5⟩
          dsimp only at b1 b2 b3 b4 b5 ⊢
          have kN : ∀ r, r ≠ 280 → r ≠ 279 → r ≠ 123 → r ≠ 372 → r ≠ 319 → N r = M r := fun r x1 x2 x3 x4 x5 => by rw [b5 r x4 x5, kZ r x5, k1 r x1 x2 x3]
          have eT : ∀ k, k < n → N 280 k = N 372 k := fun k hk => by
            have t := hTc k hk
            rw [b2 k hk, b5 280 (by decide) (by decide), kZ 280 (by decide), kZ 320 (by decide), k1 320 (by decide) (by decide) (by decide), a2 k hk, bz_up_nr (by decide), t.1]
            have hg := good (k / 3) (by omega)
            obtain ⟨y1, y2, y3⟩ := hg
            have hx : M 320 k < 128 := by
              rcases (show k = 3 * (k / 3) ∨ k = 3 * (k / 3) + 1 ∨ k = 3 * (k / 3) + 2 by omega) with e | e | e
              · rw [e]; omega
              · rw [e]; omega
              · rw [e]; omega
            exact w8_id (by omega) hx
          refine ⟨by rw [b1, a3], ⟨V, S, v, u, Sim_see (Sim_t hS) ?_ (fun r x1 x2 x3 x4 => ?_) (fun i hi => ?_) ⟨?_, ⟨?_, fun i y z => ?_⟩, fun i hi => ?_⟩⟩, fun r hr => kN r (by omega) (by omega) (by omega) (by omega) (by omega)⟩
          · rcases (Sim_t hS).2.2.1 with y | y
            · exact y
            · have y0 := y.1.1
              rw [bz_up_fn (show v ≠ 319 by omega), bz_up_fn (show v ≠ 123 by omega)] at y0
              omega
          · rw [bz_up_fn x3]
            by_cases e : r = 123
            · rw [e, b5 123 (by decide) (by decide), kZ 123 (by decide), a4 123 (by decide) (by decide)]
            · rw [kN r x2 x1 e x4 x3, bz_up_fn e]
          · rw [b4 i hi]
            by_cases e : i = 1
            · rw [e, bz_up_eq, bz_up_eq]
            · rw [bz_up_nk e, bz_up_nk e, k1 319 (by decide) (by decide) (by decide), bz_up_nr (by decide)]
          · rw [b3, b5 279 (by decide) (by decide), kZ 279 (by decide), a3]
          · rw [b3]; omega
          · rw [b3] at z
            have g := good i.toNat (by omega)
            rw [e0, e1] at g
            have eN : ∀ k, k < n → N 372 k = M 320 k := fun k hk => by rw [b2 k hk, kZ 320 (by decide), k1 320 (by decide) (by decide) (by decide)]
            have q0 := hTc (3 * i.toNat) (by omega)
            have q1 := hTc (3 * i.toNat + 1) (by omega)
            have q2 := hTc (3 * i.toNat + 2) (by omega)
            rw [show Int.toNat (3 * i) = 3 * i.toNat by omega, show Int.toNat (3 * i + 1) = 3 * i.toNat + 1 by omega, show Int.toNat (3 * i + 2) = 3 * i.toNat + 2 by omega, eN _ (by omega), eN _ (by omega), eN _ (by omega)]
            exact ⟨⟨q0.2.1, g.1⟩, ⟨q1.2.1, g.2.1⟩, q2.2.1, g.2.2⟩
          · rw [b3] at hi
            exact eT i (by omega)
        · refine absurd (fun j _ b => ?_) x
          rw [kZ 355 (by decide), k1 355 (by decide) (by decide) (by decide), ← sz.1, ← sz.2]
          exact good j b
      · refine ref_tp (a := 1) (x := -1) hS (by decide) (cbad (fun _ => True) (sees _ (c_seeL o hn3 (by omega) (by rw [bz_up_nr (by decide)]; exact h131) hTc' m 0 (by omega) (fun x => ?_) (fun x => rfl)))) (fun N kN => mo N _ (kN 319 (by decide) (by decide)) ?_)
        · refine absurd (fun j b => ?_) good
          have := x j (by omega) b
          rw [ev 0, ev 1] at this
          exact this
        · have kZ : ∀ r, r ≠ 319 → bz_up N 319 1 0 r = N r := fun r hr => bz_up_fn hr
          refine m_seeL (T := M 320) (by omega) hn3 (by omega) ?_ ?_ ?_ (fun k hk => ?_) m 0 (by omega) (fun x => ?_) (fun x => ?_)
          · rw [bz_up_nk (by decide), kN 319 (by decide) (by decide)]; exact h60
          · rw [kZ 355 (by decide), kN 355 (by decide) (by decide), ← sz.1]; omega
          · rw [kZ 355 (by decide), kN 355 (by decide) (by decide), ← sz.2]; omega
          · rw [kZ 320 (by decide), kN 320 (by decide) (by decide)]; exact ⟨rfl, (hTc k hk).2⟩
          · refine absurd (fun j b => ?_) good
            have := x j (by omega) b
            rw [kZ 355 (by decide), kN 355 (by decide) (by decide), ← sz.1, ← sz.2] at this
            exact this
          · rw [bz_up_nr (show 321 ≠ 319 by decide)]
    · refine ref_tp (a := 1) (x := -1) hS (by decide) (cbad (fun _ => True) (T_le eFc_sees_E ?_)) (fun N kN => T_le eMo_see_E ?_)
      · rw [td3 hn6, tm3]
        by_cases d0 : n % 3 = 0
        · rw [if_pos (by omega)]
          by_cases d1 : ((n / 3 : Nat) : Int) < 1
          · rw [if_pos d1]; exact T_some rfl
          · rw [if_neg d1, if_pos (by omega)]; exact T_some rfl
        · rw [if_neg (by omega)]; exact T_some rfl
      · rw [kN 319 (by decide) (by decide), hn, td3 hn6, tm3, if_neg h60]
        by_cases d1 : (0 : Int) < (n : Int)
        · rw [if_pos d1]
          by_cases d0 : n % 3 = 0
          · rw [if_pos (by omega), if_pos (by omega)]; exact m0 N
          · rw [if_neg (by omega)]; exact m0 N
        · rw [if_neg d1]; exact m0 N
  · refine ref_tp (a := 1) (x := -1) hS (by decide) (T_le (eBr_see_E (by omega) o) ?_) (fun N kN => T_le eMo_see_E ?_)
    · rw [if_pos h131, if_pos (bz_b0.mpr (by rw [ev 0]; exact c0))]
      exact cref
    · have h60 : M 319 60 = 0 := by
        rcases hS.2.2.1 with y | y
        · have hC := y.1.1.2.1
          have e := y.2.1.2.1.1.1
          omega
        · exact y.2.1.1
      rw [kN 319 (by decide) (by decide), if_pos h60, hn]
      exact m0 N
end SX

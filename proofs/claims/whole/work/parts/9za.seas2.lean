/-! SIM: seasons -/
def sSum (V : bz_M) : Nat → (Nat → Int) → Int
  | 0, _ => 0
  | n + 1, S => pPd V S + sSum V n (sPass V S)
section ST
variable {Lg d : Nat} {V M M' M1 M2 N1 N2 : bz_M} {S S' B P : Nat → Int} {v u s j : Nat}
theorem c_seL (hd : 5 < d) (o : bz_oV v) (hV : vOK V) {N : Int} (hN : N ≤ 1000) : ∀ (n : Nat) (i acc : Int) (S : Nat → Int) (M : bz_M) (k : Nat), sOK V S → S 0 + n ≤ 999 → cR V S 131 148 v M → M 148 2 = (k : Int) → k + n ≤ 999 → 0 ≤ i → i + n = N → 0 ≤ acc → acc + 4950 * n ≤ 1000000 → w_T (eBr_seasons_42 Lg d N acc i M) (fun p => p.1 = acc + sSum V n S ∧ cR V (sRun V n S) 131 148 v p.2 ∧ p.2 148 2 = ((k + n : Nat) : Int) ∧ (∀ t, t < n → p.2 300 (k + t) = bPd V (sRun V t S) ∧ p.2 301 (k + t) = pPd V (sRun V t S)) ∧ aC M p.2 ∧ p.2 122 = M 122)
  | 0, i, acc, S, M, k, hS, h9, hM, hk, hk9, h0, h1, ha, hb => by
    refine T_le (eBr_seasons_42_E (by omega)) ?_
    rw [if_neg (by omega)]
    refine T_some ⟨?_, hM, hk, fun t ht => by omega, aC_refl M, rfl⟩
    show acc = acc + 0
    omega
  | n + 1, i, acc, S, M, k, hS, h9, hM, hk, hk9, h0, h1, ha, hb => by
    have hp := pPd_bd hV hS
    have kp := sPass_ok hV hS (by omega)
    refine T_le (eBr_seasons_42_E (by omega)) ?_
    rw [if_pos (by omega), w32_id (z := i + 1) (by omega) (by omega)]
    refine T_seq (c_pk (by omega) o hV hS (by omega) hM hk (by omega)) ?_
    rintro ⟨p1, Q⟩ ⟨e1, e2, e3, e4, e5, e6⟩
    dsimp only at e1 e2 e3 e4 e5 e6 ⊢
    rw [e1, w32_id (z := acc + pPd V S) (by omega) (by omega)]
    refine T_mono (c_seL hd o hV hN n (i + 1) (acc + pPd V S) (sPass V S) Q (k + 1) kp.1 (by rw [kp.2]; omega) e2 e3 (by omega) (by omega) (by omega) (by omega) (by omega)) ?_
    rintro ⟨p2, R⟩ ⟨g1, g2, g3, g4, g5, g6⟩
    dsimp only at g1 g2 g3 g4 g5 g6 ⊢
    refine ⟨?_, g2, by rw [g3]; omega, fun t ht => ?_, aC_trans e5 g5, g6.trans e6⟩
    · rw [g1]
      show _ = acc + (pPd V S + sSum V n (sPass V S))
      omega
    · cases t with
      | zero =>
        have := g5.2.2.2.2 k (by rw [e3]; omega)
        rw [Nat.add_zero, this.1, this.2]
        exact e4
      | succ t =>
        rw [show k + (t + 1) = k + 1 + t by omega]
        exact g4 t (by omega)
theorem m_seL (hd : 7 < d) (hV : vOK V) {N : Int} (hN : N ≤ 1000) : ∀ (n : Nat) (i acc : Int) (S : Nat → Int) (M : bz_M) (k : Nat), sOK V S → S 0 + n ≤ 999 → mR V S M → M 319 70 = 0 → kl B P k (S 0) (M 364) → (∀ t, t < n → B (k + t) = bPd V (sRun V t S) ∧ P (k + t) = pPd V (sRun V t S)) → k + n ≤ 1000 → 0 ≤ i → i + n = N → M 319 71 = acc → 0 ≤ acc → acc + 4950 * n ≤ 1000000 → w_T (eMo_seasonsGo_2 Lg d N i M) (fun M' => mR V (sRun V n S) M' ∧ kl B P (k + n) (S 0 + n) (M' 364) ∧ M' 319 71 = acc + sSum V n S ∧ mFh M M')
  | 0, i, acc, S, M, k, hS, h9, hM, h7, hk, hh, hk9, h0, h1, h71, ha, hb => by
    refine T_le (eMo_seasonsGo_2_E (by omega)) ?_
    rw [if_neg (by omega)]
    refine T_some ⟨hM, ?_, ?_, mFh_refl _⟩
    · rw [show S 0 + ((0 : Nat) : Int) = S 0 by omega]; exact hk
    · show _ = acc + 0
      omega
  | n + 1, i, acc, S, M, k, hS, h9, hM, h7, hk, hh, hk9, h0, h1, h71, ha, hb => by
    have hp := pPd_bd hV hS
    have kp := sPass_ok hV hS (by omega)
    refine T_le (eMo_seasonsGo_2_E (by omega)) ?_
    rw [if_pos (by omega), w32_id (z := i + 1) (by omega) (by omega)]
    have hh0 := hh 0 (by omega)
    refine T_seq (mo_seaK (by omega) hV hS (by omega) hM h7 (by omega) hk hh0.1 hh0.2) ?_
    rintro M1 ⟨a1, a2, a3, a4⟩
    rw [h71, w32_id (z := acc + pPd V S) (by omega) (by omega)] at a3
    refine T_mono (m_seL hd hV hN n (i + 1) (acc + pPd V S) (sPass V S) M1 (k + 1) kp.1 (by rw [kp.2]; omega) a1 (by rw [a4.2 70 (by decide) (by decide) (by decide) (by decide) (by decide) (by decide) (by decide) (by decide)]; exact h7) (by rw [kp.2]; exact a2) (fun t ht => ?_) (by omega) (by omega) (by omega) a3 (by omega) (by omega)) ?_
    · rw [show k + 1 + t = k + (t + 1) by omega]
      exact hh (t + 1) (by omega)
    rintro M2 ⟨b1, b2, b3, b4⟩
    refine ⟨b1, ?_, ?_, mFh_trans a4 b4⟩
    · rw [kp.2, show k + 1 + n = k + (n + 1) by omega, show S 0 + 1 + (n : Int) = S 0 + ((n + 1 : Nat) : Int) by omega] at b2
      exact b2
    · rw [b3]
      show _ = acc + (pPd V S + sSum V n (sPass V S))
      omega
theorem aM_fh (h : mFh M M') : aM M M' := ⟨fun r a b c e => h.1 r e a b c, fun k hk _ => h.2 k (by omega) (by omega) (by omega) (by omega) (by omega) (by omega) (by omega) (by omega)⟩
theorem aM_trans {A B C : bz_M} (h : aM A B) (g : aM B C) : aM A C := ⟨fun r a b c e => (g.1 r a b c e).trans (h.1 r a b c e), fun k a b => (g.2 k a b).trans (h.2 k a b)⟩
/-- seasons went by: the end -/
theorem act_run (hS : Sim' V S v u M) (hv : vaR V S v M) (hj : j = ((M 157 1).toNat + 1) % 20) (h1 : rmC M j M1) (h2 : aC M1 M2) (h3 : kpM M2 j N1) (h4 : aM N1 N2) {k : Nat} (hO : stO V S') (h8 : cS 148 S' M2) (hR : ∀ i, i < 182 → N2 364 i = S' i) (hk : M2 148 2 = (k : Int)) (hk9 : k ≤ 999) (hk0 : (k : Int) ≤ S' 0) (hkl : kl (M2 300) (M2 301) k (S' 0) (N2 364)) (hdr : drR N2) : Sim N2 ∧ fO M N2 := by
  refine act_end (S' := N2 364) hS hv hj h1 h2 h3 h4 (stO_cg hv.1.1 hO hR) (cS_cg h8 hR) (fun _ _ => rfl) ?_ hdr
  have e0 := hR 0 (by decide)
  exact kp_of (by rw [e0]; exact hkl) hk hk9 (by rw [e0]; exact hk0)
theorem sea_cond (hS : Sim' V S v u M) {a : Int} {N : bz_M} (hN : ∀ r, r = 319 ∨ r = 364 → N r = M r) : ((bz_b (0 < M v 0) = 0 ∨ bz_b (1 ≤ a ∧ a ≤ 100 ∧ a ≤ bz_w32 (999 - M 148 0)) = 0) ∧ bz_b (¬ N 319 60 = 0 ∧ (1 ≤ a ∧ a ≤ 100) ∧ bz_w32 (N 364 0 + a) ≤ 999) = 0) ∨ ((¬ bz_b (0 < M v 0) = 0 ∧ ¬ bz_b (1 ≤ a ∧ a ≤ 100 ∧ a ≤ bz_w32 (999 - M 148 0)) = 0) ∧ ¬ bz_b (¬ N 319 60 = 0 ∧ (1 ≤ a ∧ a ≤ 100) ∧ bz_w32 (N 364 0 + a) ≤ 999) = 0 ∧ vaR V S v M ∧ (1 ≤ a ∧ a ≤ 100 ∧ S 0 + a ≤ 999)) := by
  rw [hN 319 (by omega), hN 364 (by omega)]
  have c8 := sim_cS hS
  have e4 : M 148 0 = S 0 := by rw [c8.1.1.1]; omega
  have e5 : M 364 0 = S 0 := hS.2.1 0 (by decide)
  have bd := sim_bd hS
  rw [e4, e5, w32_id (z := 999 - S 0) (by omega) (by omega)]
  by_cases c : 0 < M v 0
  · obtain ⟨h60, hv⟩ := bd.2.2.2 (Or.inl c)
    by_cases c2 : 1 ≤ a ∧ a ≤ 100 ∧ a ≤ 999 - S 0
    · right
      refine ⟨⟨fun e => bz_b0.mp e c, fun e => bz_b0.mp e c2⟩, fun e => bz_b0.mp e ⟨h60, by omega, ?_⟩, hv, by omega⟩
      rw [w32_id (by omega) (by omega)]; omega
    · left
      refine ⟨Or.inr (bz_b0.mpr c2), bz_b0.mpr (fun x => c2 ?_)⟩
      have x2 := x.2
      rw [w32_id (z := S 0 + a) (by omega) (by omega)] at x2
      omega
  · left
    refine ⟨Or.inl (bz_b0.mpr c), bz_b0.mpr (fun x => x.1 ?_)⟩
    rcases hS.2.2.1 with y | y
    · have hC := y.1.1.2.1
      have e := y.2.1.2.1.1.1
      omega
    · exact y.2.1.1
theorem stp_seasons (hd : 8 < d) {a : Int} (h : Sim M) : stp (eBr_seasons Lg d a) (eMo_seasons Lg d a) M := by
  obtain ⟨V, S, v, u, hS⟩ := h
  have o := hS.1.1
  have hvv := oV_c o
  have h131 := hS.1.2.2.2.1
  have cref : w_T ((eBr_refusal Lg (d - 1) 3 M).bind (fun p1 => some (p1.1, p1.2))) (fun p => p = ((-1 : Int), bz_up M 302 3 (bz_w32 (M 302 3 + 1)))) := by
    refine T_seq (br_refusal (a := 3) (by decide)) ?_
    rintro p rfl
    exact T_some rfl
  rcases sea_cond (a := a) (N := M) hS (fun _ _ => rfl) with c | c
  · refine ref_stp (a := 3) (x := -1) hS (by decide) (T_le (eBr_seasons_E (by omega) o) ?_) (fun N kN => T_le (eMo_seasons_E (by omega)) ?_)
    · rw [if_pos h131]
      by_cases c1 : bz_b (0 < M v 0) = 0
      · rw [if_pos c1]; exact cref
      · rw [if_neg c1, if_pos (c.1.resolve_left c1)]; exact cref
    · rw [kN 319 (by decide), kN 364 (by decide), if_pos c.2]
      refine T_seq (mo_refuses (a := 3) (by decide)) ?_
      rintro p rfl
      exact T_some rfl
  · obtain ⟨⟨c1, c2⟩, c3, hv, c4⟩ := c
    have hV := hv.1.1
    have pa := hS.2.2.2.2.2.2.2.2.2.2.2.1
    have t4 := hS.2.2.2.2.2.2.1
    have t5 := hS.2.2.2.2.2.2.2.1
    have hkp := hS.2.2.2.2.2.2.2.2.2.2.1
    have hkp1 := hkp.1
    obtain ⟨n, n1, n2, n3, n4⟩ := sim_pa hS
    have hk : M 148 2 = ((M 148 2).toNat : Int) := by omega
    generalize hK : (M 148 2).toNat = k at hk
    have hj' : (n + 1) % 20 < 20 := Nat.mod_lt _ (by decide)
    refine T_le (eBr_seasons_E (by omega) o) ?_
    rw [if_pos h131, if_neg c1, if_neg c2]
    refine T_seq (pa_rem (by omega) n1 n3 pa.2.1 pa.2.2.2.1) ?_
    intro M1 r1
    have kr := r1.2.2.2.2.2
    have k1 : ∀ r, ¬ (157 ≤ r ∧ r ≤ 278) → M1 r = M r := fun r hr => kr r (by omega) (by omega)
    have cR1 : cR V S 131 148 v M1 := ⟨by rw [k1 131 (by decide)]; exact h131, cV_co hv.2.1.2.1 (k1 _ (by omega)) (k1 _ (by omega)) (k1 _ (by omega)) (k1 _ (by omega)) (k1 _ (by omega)) (k1 _ (by omega)) (k1 _ (by omega)) (k1 _ (by omega)) (k1 _ (by omega)) (k1 _ (by omega)), cS_co hv.2.1.2.2 (k1 _ (by decide)) (k1 _ (by decide)) (k1 _ (by decide)) (k1 _ (by decide)) (k1 _ (by decide)) (k1 _ (by decide))⟩
    have ea : a = ((a.toNat : Nat) : Int) := by omega
    generalize hA : a.toNat = m at ea
    refine T_mono (c_seL (by omega) o hV (N := a) (by omega) m 0 0 S M1 k hv.1.2.1 (by omega) cR1 (by rw [k1 148 (by decide)]; exact hk) (by omega) (by omega) (by omega) (by omega) (by omega)) ?_
    rintro ⟨p1, M2⟩ ⟨g1, g2, g3, g4, g5, g6⟩
    dsimp only at g1 g2 g3 g4 g5 g6 ⊢
    have k2 : ∀ r, ¬ (157 ≤ r ∧ r ≤ 278) → ¬ (cScr r ∨ r = 122 ∨ r = 131 ∨ (148 ≤ r ∧ r ≤ 155) ∨ r = 300 ∨ r = 301) → M2 r = M r := fun r x1 x2 => by rw [g5.1 r (by omega) (by omega) (by omega) (by omega) (by omega) (by omega), k1 r x1]
    refine T_le (eMo_seasons_E (by omega)) ?_
    rw [k2 319 (by decide) (by decide), k2 364 (by decide) (by decide), if_neg c3]
    refine T_seq (mo_keeps (n := n) (by rw [k2 319 (by decide) (by decide)]; exact n2) n3 (by rw [k2 319 (by decide) (by decide), ← pa.1.1]; exact pa.2.1)) ?_
    intro N1 r2
    have k3 : ∀ r, r ≠ 319 → r ≠ 375 → N1 r = M2 r := r2.2.2.2.2
    generalize hQ : bz_up N1 319 71 0 = Q
    have kQ : ∀ r, r ≠ 319 → Q r = N1 r := fun r hr => by rw [← hQ, bz_up_fn hr]
    have kQ9 : ∀ i, i ≠ 71 → i ≠ 85 → i ≠ 86 → Q 319 i = M 319 i := fun i x1 x2 x3 => by rw [← hQ, bz_up_nk x1, r2.2.2.2.1 i x2 x3, k2 319 (by decide) (by decide)]
    have e36 : Q 364 = M 364 := by rw [kQ 364 (by decide), k3 364 (by decide) (by decide), k2 364 (by decide) (by decide)]
    have eQ : ∀ r, 355 ≤ r → r ≤ 363 → Q r = M r := fun r x1 x2 => by rw [kQ r (by omega), k3 r (by omega) (by omega), k2 r (by omega) (by omega)]
    have mRQ : mR V S Q := ⟨mV_co hv.2.2.1 (eQ _ (by decide) (by decide)) (kQ9 _ (by decide) (by decide) (by decide)) (kQ9 _ (by decide) (by decide) (by decide)) (eQ _ (by decide) (by decide)) (eQ _ (by decide) (by decide)) (eQ _ (by decide) (by decide)) (eQ _ (by decide) (by decide)) (eQ _ (by decide) (by decide)), fun i hi => by rw [e36]; exact hS.2.1 i (by omega)⟩
    have hkl : kl (M2 300) (M2 301) k (S 0) (Q 364) := by
      rw [e36]
      refine kl_cg (kl_of hkp hk (fun t ht => ?_)) ?_
      · have := g5.2.2.2.2 t (by rw [k1 148 (by decide), hk]; omega)
        rw [this.1, this.2, k1 300 (by decide), k1 301 (by decide)]
        exact ⟨rfl, rfl⟩
      · exact fun j _ y => hS.2.1 j y
    refine T_seq (T_le eMo_seasonsGo_E (m_seL (B := M2 300) (P := M2 301) (by omega) hV (N := a) (by omega) m 0 0 S Q k hv.1.2.1 (by omega) mRQ (by rw [kQ9 70 (by decide) (by decide) (by decide)]; exact t5) hkl g4 (by omega) (by omega) (by omega) (by rw [← hQ, bz_up_eq]) (by omega) (by omega))) ?_
    rintro N2 ⟨b1, b2, b3, b4⟩
    have hr0 := (sRun_ok hV m S hv.1.2.1 (by omega)).2
    refine T_some ⟨by rw [g1]; exact b3, ?_⟩
    dsimp only
    refine act_run hS hv (by rw [n4]) r1 g5 r2 (aM_trans (by rw [← hQ]; exact ⟨fun r x _ _ _ => bz_up_fn x, fun i x _ => bz_up_nk (by omega) _⟩) (aM_fh b4)) (sRun_stO hV m S (va_stO hv) (by omega)) g2.2.2 b1.2 g3 (by omega) (by rw [hr0]; omega) (by rw [hr0]; exact b2) ?_
    unfold drR at t4 ⊢
    rw [b4.1 122 (by decide) (by decide) (by decide) (by decide), kQ 122 (by decide), k3 122 (by decide) (by decide), b4.2 87 (by decide) (by decide) (by decide) (by decide) (by decide) (by decide) (by decide) (by decide), kQ9 87 (by decide) (by decide) (by decide), g6, k1 122 (by decide)]
    exact t4
end ST

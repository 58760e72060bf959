/-! SIM: cut -/
section SQ
variable {Lg d : Nat} {V M M' M1 M2 N1 N2 : bz_M} {S S' : Nat → Int} {v u s j : Nat}
theorem ri_canCut (hd : 1 < d) (hv : bz_oV v) (hV : vOK V) (hS : sOK V S) (hM : cR V S 131 148 v M) {c : Int} : eRi_canCut Lg d 131 c M = some (if (0 < c ∧ c < vC V - 1) ∧ sHalf V S c ≠ sRow S c then 1 else 0, M) := by
  have hC := hV.2.1
  refine eRi_canCut_E (by omega) hr131 hv _ ?_
  rw [if_pos hM.1, hM.2.1.1.1, w32_id (z := vC V - 1) (by omega) (by omega)]
  by_cases c1 : 0 < c ∧ c < vC V - 1
  · rw [if_neg (fun e => bz_b0.mp e c1), ri_half (by omega) hr131 hv hV hS hM c1.1 c1.2]
    show (if 0 ≤ c ∧ c < 10 then _ else _) = _
    have e : M (148 + 1) (Int.toNat c) = sRow S c := hM.2.2.2.1 c (by omega) (by omega)
    rw [if_pos (by omega)]
    show (if sHalf V S c = M (148 + 1) (Int.toNat c) then _ else _) = _
    rw [e]
    by_cases c2 : sHalf V S c = sRow S c
    · rw [if_pos c2, if_neg (fun x => x.2 c2)]
    · rw [if_neg c2, if_pos ⟨c1, c2⟩]
  · rw [if_pos (bz_b0.mpr c1), if_neg (fun x => c1 x.1)]
theorem stp_cut (hd : 2 < d) {a : Int} (h : Sim M) : stp (eBr_cut Lg d a) (eMo_cut Lg d a) M := by
  obtain ⟨V, S, v, u, hS⟩ := h
  have o := hS.1.1
  have hvv := oV_c o
  have h131 := hS.1.2.2.2.1
  have bd := sim_bd hS
  have sz := sim_sz hS
  have bd1 := bd.1
  have mref : ∀ N : bz_M, w_T ((eMo_isRefused Lg (d - 1) N).bind (fun p1 => (if p1.1 = 0 ∨ p1.1 = 1 then (some (p1.1, p1.2)) else none))) (fun p => p = ((0 : Int), bz_up N 321 2 (bz_w32 (N 321 2 + 1)))) := fun N => by
    refine T_seq (R := fun p => p = ((0 : Int), bz_up N 321 2 (bz_w32 (N 321 2 + 1)))) (T_le eMo_isRefused_E (T_some rfl)) ?_
    rintro p rfl
    rw [if_pos (Or.inl rfl)]
    exact T_some rfl
  have cref' : w_T ((eBr_refuses Lg (d - 1) 2 M).bind (fun p1 => (if p1.1 = 0 ∨ p1.1 = 1 then (some (p1.1, p1.2)) else none))) (fun p => p = ((0 : Int), bz_up M 302 2 (bz_w32 (M 302 2 + 1)))) := by
    refine T_seq (br_refuses (a := 2) (by decide)) ?_
    rintro p rfl
    rw [if_pos (Or.inl rfl)]
    exact T_some rfl
  by_cases c : 0 ≤ a ∧ a < M v 0
  · obtain ⟨h60, hv⟩ := bd.2.2.2 (by omega)
    have hV := hv.1.1
    have hO := hv.1.2.1
    have hC := hV.2.1
    have hR := hV.2.2.1
    have hL := hV.2.2.2.2.1
    have e0 : M v 0 = vC V := hv.2.1.2.1.1.1
    have e3 : M 355 3 = vC V := by rw [← sz.1]; exact e0
    have c' := c
    rw [e0] at c'
    have q1 : bz_w32 (2 + a) = 2 + a := w32_id (by omega) (by omega)
    have hw' : M 364 (Int.toNat (2 + a)) = sRow S a := hS.2.1 _ (by omega)
    have cond : ∀ N : bz_M, N 319 60 = M 319 60 → N 355 = M 355 → ¬ bz_b (¬ N 319 60 = 0 ∧ 0 ≤ a ∧ a ≤ bz_w32 (N 355 3 - 1)) = 0 := fun N hN hN' e => by
      refine bz_b0.mp e ?_
      rw [hN, hN', e3, w32_id (z := vC V - 1) (by omega) (by omega)]
      exact ⟨h60, by omega, by omega⟩
    have mRN : ∀ N : bz_M, (∀ r, r = 319 ∨ (355 ≤ r ∧ r ≤ 364) → N r = M r) → mR V S N := fun N hN => ⟨mV_co hv.2.2.1 (hN _ (by omega)) (by rw [hN 319 (by omega)]) (by rw [hN 319 (by omega)]) (hN _ (by omega)) (hN _ (by omega)) (hN _ (by omega)) (hN _ (by omega)) (hN _ (by omega)), fun k hk => by rw [hN 364 (by omega)]; exact hS.2.1 k (by omega)⟩
    by_cases c2 : (0 < a ∧ a < vC V - 1) ∧ sHalf V S a ≠ sRow S a
    · obtain ⟨n, n1, n2, n3, n4⟩ := sim_pa hS
      have pa := hS.2.2.2.2.2.2.2.2.2.2.2.1
      refine T_le (eBr_cut_E (by omega) o) ?_
      rw [if_pos h131, if_neg (fun e => bz_b0.mp e c)]
      refine T_run (ri_canCut (by omega) o hV hO hv.2.1) ?_
      dsimp only
      rw [if_pos c2, if_neg (by decide)]
      refine T_seq (pa_rem (by omega) n1 n3 pa.2.1 pa.2.2.2.1) ?_
      intro M1 r1
      have kr := r1.2.2.2.2.2
      have hj' : (n + 1) % 20 < 20 := Nat.mod_lt _ (by decide)
      have k1 : ∀ r, ¬ (157 ≤ r ∧ r ≤ 278) → M1 r = M r := fun r hr => kr r (by omega) (by omega)
      have cR1 : cR V S 131 148 v M1 := ⟨by rw [k1 131 (by decide)]; exact h131, cV_co hv.2.1.2.1 (k1 _ (by omega)) (k1 _ (by omega)) (k1 _ (by omega)) (k1 _ (by omega)) (k1 _ (by omega)) (k1 _ (by omega)) (k1 _ (by omega)) (k1 _ (by omega)) (k1 _ (by omega)) (k1 _ (by omega)), cS_co hv.2.1.2.2 (k1 _ (by decide)) (k1 _ (by decide)) (k1 _ (by decide)) (k1 _ (by decide)) (k1 _ (by decide)) (k1 _ (by decide))⟩
      refine T_run (ri_half (by omega) hr131 o hV hO cR1 c2.1.1 c2.1.2) ?_
      dsimp only
      rw [if_pos (by omega)]
      refine T_some ?_
      dsimp only
      generalize hN : bz_up M1 149 (Int.toNat a) (sHalf V S a) = N
      refine T_le (eMo_cut_E (by omega)) ?_
      have kN : ∀ r, ¬ (157 ≤ r ∧ r ≤ 278) → r ≠ 149 → N r = M r := fun r x1 x2 => by rw [← hN, bz_up_fn x2, k1 r x1]
      rw [if_neg (cond N (by rw [kN 319 (by decide) (by decide)]) (kN 355 (by decide) (by decide))), kN 355 (by decide) (by decide), e3, w32_id (z := vC V - 1) (by omega) (by omega), if_neg (fun e => bz_b0.mp e c2.1), q1, if_pos (by omega)]
      refine T_run (mo_half (by omega) hV hO (mRN N (fun r hr => kN r (by omega) (by omega))) (by omega) (by omega)) ?_
      dsimp only
      rw [kN 364 (by decide) (by decide), hw', if_neg (fun e => c2.2 e.symm)]
      refine T_seq (mo_keeps (n := n) (by rw [kN 319 (by decide) (by decide)]; exact n2) n3 (by rw [kN 319 (by decide) (by decide), ← pa.1.1]; exact pa.2.1)) ?_
      intro N1 r2
      have k2 : ∀ r, r ≠ 319 → r ≠ 375 → N1 r = N r := r2.2.2.2.2
      have mN1 : mR V S N1 := by
        refine ⟨mV_co hv.2.2.1 ?_ ?_ ?_ ?_ ?_ ?_ ?_ ?_, fun k hk => ?_⟩
        · rw [k2 _ (by decide) (by decide), kN _ (by decide) (by decide)]
        · rw [r2.2.2.2.1 _ (by decide) (by decide), kN _ (by decide) (by decide)]
        · rw [r2.2.2.2.1 _ (by decide) (by decide), kN _ (by decide) (by decide)]
        · rw [k2 _ (by decide) (by decide), kN _ (by decide) (by decide)]
        · rw [k2 _ (by decide) (by decide), kN _ (by decide) (by decide)]
        · rw [k2 _ (by decide) (by decide), kN _ (by decide) (by decide)]
        · rw [k2 _ (by decide) (by decide), kN _ (by decide) (by decide)]
        · rw [k2 _ (by decide) (by decide), kN _ (by decide) (by decide)]
        · rw [k2 364 (by decide) (by decide), kN 364 (by decide) (by decide)]
          exact hS.2.1 k (by omega)
      refine T_run (mo_half (by omega) hV hO mN1 (by omega) (by omega)) ?_
      refine T_some ⟨rfl, ?_⟩
      dsimp only
      have hb := sHalf_bd hV hO c'.1 c'.2
      refine act_one (r := 149) (q := Int.toNat a) hS hv (by rw [n4]) r1 (by decide) (by omega) (by omega) (by rw [hN]; exact r2) ?_ ?_
      · exact stO_up (va_stO hv) (by omega) (sRowUp_ok hV hO (by omega) (by omega) hb) (sW_up hv.1.2.2.2.1 (by omega)) (fun l y z => by omega) (fun c y z => by omega) (fun c r y z w => by omega)
      · exact cS_u cR1.2.2 (by omega)
    · refine ref_stp (a := 2) (x := 0) hS (by decide) (T_le (eBr_cut_E (by omega) o) ?_) (fun N kN => T_le (eMo_cut_E (by omega)) ?_)
      · rw [if_pos h131, if_neg (fun e => bz_b0.mp e c)]
        refine T_run (ri_canCut (by omega) o hV hO hv.2.1) ?_
        dsimp only
        rw [if_neg c2, if_pos rfl]
        exact cref'
      · rw [if_neg (cond N (by rw [kN 319 (by decide)]) (kN 355 (by decide))), kN 355 (by decide), e3, w32_id (z := vC V - 1) (by omega) (by omega)]
        by_cases c3 : 0 < a ∧ a < vC V - 1
        · rw [if_neg (fun e => bz_b0.mp e c3), q1, if_pos (by omega)]
          refine T_run (mo_half (by omega) hV hO (mRN N (fun r hr => kN r (by omega))) (by omega) (by omega)) ?_
          dsimp only
          have e9 : sHalf V S a = sRow S a := Classical.byContradiction (fun x => c2 ⟨c3, x⟩)
          rw [kN 364 (by decide), hw', if_pos e9.symm]
          exact mref N
        · rw [if_pos (bz_b0.mpr c3)]
          exact mref N
  · refine ref_stp (a := 2) (x := 0) hS (by decide) (T_le (eBr_cut_E (by omega) o) ?_) (fun N kN => T_le (eMo_cut_E (by omega)) ?_)
    · rw [if_pos h131, if_pos (bz_b0.mpr c)]
      exact cref'
    · rw [if_pos (bz_b0.mpr (fun x => ?_))]
      · exact mref N
      · rw [kN 355 (by decide), ← sz.1, w32_id (z := M v 0 - 1) (by omega) (by omega)] at x
        exact c (by omega)
end SQ

/-! SIM: plant, offer, cut -/
section SP
variable {Lg d : Nat} {V M M' M1 M2 N1 N2 : bz_M} {S S' : Nat → Int} {v u s j : Nat}
theorem sim_bd (h : Sim' V S v u M) : (0 ≤ M v 0 ∧ M v 0 ≤ 10) ∧ (0 ≤ M v 1 ∧ M v 1 ≤ 8) ∧ (0 ≤ M v 3 ∧ M v 3 ≤ 5) ∧ (0 < M v 0 ∨ 0 < M v 3 → M 319 60 ≠ 0 ∧ vaR V S v M) := by
  rcases h.2.2.1 with c | c
  · have hC := c.1.1.2.1
    have hR := c.1.1.2.2.1
    have hL := c.1.1.2.2.2.2.1
    have e := c.2.1.2.1.1
    refine ⟨by rw [e.1]; omega, by rw [e.2.1]; omega, by rw [e.2.2.2.1]; omega, fun _ => ⟨?_, c⟩⟩
    have x2 : M 319 60 = V 319 60 := c.2.2.1.1.2.2.2.2
    have x3 : V 319 60 = 1 := c.1.1.1
    omega
  · have e := c.1
    refine ⟨by rw [e.1]; omega, by rw [e.2.1]; omega, by rw [e.2.2]; omega, fun x => ?_⟩
    rw [e.1, e.2.2] at x
    omega
theorem cS_u {p q r : Nat} {x : Int} (h : cS 148 S M) (hp : (r = 149 ∧ p = 2 + q ∧ q < 10) ∨ (r = 150 ∧ p = 12 + q ∧ q < 80) ∨ (r = 151 ∧ p = 92 + q ∧ q < 80) ∨ (r = 152 ∧ p = 172 + 2 * q ∧ q < 5) ∨ (r = 153 ∧ p = 173 + 2 * q ∧ q < 5)) : cS 148 (upS S p x) (bz_up M r q x) := by
  have key : ∀ (R k i : Nat), ((R = r ∧ k = q) ↔ i = p) → M R k = S i → bz_up M r q x R k = upS S p x i := fun R k i e1 e2 => by
    rw [bz_up_rk]
    unfold upS
    by_cases c : i = p
    · rw [if_pos c, if_pos (e1.mpr c)]
    · rw [if_neg c, if_neg (fun y => c (e1.mp y))]; exact e2
  refine ⟨⟨?_, ?_⟩, fun c y z => key _ _ _ (by omega) (h.2.1 c y z), fun k y z => ⟨key _ _ _ (by omega) (h.2.2.1 k y z).1, key _ _ _ (by omega) (h.2.2.1 k y z).2⟩, fun l y z => ⟨key _ _ _ (by omega) (h.2.2.2 l y z).1, key _ _ _ (by omega) (h.2.2.2 l y z).2⟩⟩
  · rw [bz_up_fn (by omega), upS_ne (by omega)]; exact h.1.1
  · rw [bz_up_fn (by omega), upS_ne (by omega)]; exact h.1.2
theorem stO_up {p : Nat} {x : Int} (h : stO V S) (hp : 2 ≤ p) (hK : sOK V (upS S p x)) (hW : sW (upS S p x)) (hz : ∀ l : Int, vL V ≤ l → l < 5 → p ≠ Int.toNat (172 + 2 * l) ∧ p ≠ Int.toNat (173 + 2 * l)) (ho : ∀ c : Nat, vC V ≤ (c : Int) → c < 10 → p ≠ 2 + c) (hq : ∀ c r : Nat, c < 10 → r < 8 → ¬ ((c : Int) < vC V ∧ (r : Int) < vR V) → p ≠ 12 + (8 * c + r) ∧ p ≠ 92 + (8 * c + r)) : stO V (upS S p x) := by
  refine ⟨hK, by rw [upS_ne (by omega)]; exact h.2.1, hW, fun l y z => ?_, fun c y z => ?_, fun c r y z w => ?_⟩
  · unfold sOf sPu
    rw [upS_ne (Ne.symm (hz l y z).1), upS_ne (Ne.symm (hz l y z).2)]
    exact h.2.2.2.1 l y z
  · rw [upS_ne (Ne.symm (ho c y z))]
    exact h.2.2.2.2.1 c y z
  · rw [upS_ne (Ne.symm (hq c r y z w).1), upS_ne (Ne.symm (hq c r y z w).2)]
    exact h.2.2.2.2.2 c r y z w
theorem va_stO (hv : vaR V S v M) : stO V S := ⟨hv.1.2.1, hv.1.2.2.1, hv.1.2.2.2.1, hv.1.2.2.2.2.1, hv.1.2.2.2.2.2.1⟩
theorem sW_up {p : Nat} {x : Int} (h : sW S) (hp : p < 12 ∨ 92 ≤ p) : sW (upS S p x) := fun k y z => by
  unfold sWi
  rw [upS_ne (by omega)]
  exact h k y z
theorem stp_plant (hd : 2 < d) {a b : Int} (h : Sim M) : stp (eBr_plant Lg d a b) (eMo_plant Lg d a b) M := by
  obtain ⟨V, S, v, u, hS⟩ := h
  have o := hS.1.1
  have hvv := oV_c o
  have h131 := hS.1.2.2.2.1
  have bd := sim_bd hS
  have sz := sim_sz hS
  have bd1 := bd.1
  have bd2 := bd.2.1
  by_cases c : (0 ≤ a ∧ a < M v 0) ∧ 0 ≤ b ∧ b < M v 1
  · obtain ⟨h60, hv⟩ := bd.2.2.2 (by omega)
    have hC := hv.1.1.2.1
    have hR := hv.1.1.2.2.1
    have hL := hv.1.1.2.2.2.2.1
    have e0 : M v 0 = vC V := hv.2.1.2.1.1.1
    have e1 : M v 1 = vR V := hv.2.1.2.1.1.2.1
    have e3 : M 355 3 = vC V := by rw [← sz.1]; exact e0
    have e4 : M 355 4 = vR V := by rw [← sz.2]; exact e1
    have c' := c
    rw [e0, e1] at c'
    have q0 : bz_w32 (bz_w32 (a * 8) + b) = 8 * a + b := by rw [w32_id (z := a * 8) (by omega) (by omega), w32_id (by omega) (by omega)]; omega
    have q1 : bz_w32 (12 + bz_w32 (bz_w32 (8 * a) + b)) = 12 + (8 * a + b) := by rw [w32_id (z := 8 * a) (by omega) (by omega), w32_id (z := 8 * a + b) (by omega) (by omega), w32_id (by omega) (by omega)]
    have q2 : bz_w32 (bz_w32 (12 + bz_w32 (8 * a)) + b) = 12 + (8 * a + b) := by rw [w32_id (z := 8 * a) (by omega) (by omega), w32_id (z := 12 + 8 * a) (by omega) (by omega), w32_id (by omega) (by omega)]; omega
    have hw : M 150 (Int.toNat (8 * a + b)) = sWi S (8 * a + b) := (hv.2.1.2.2.2.2.1 (8 * a + b) (by omega) (by omega)).1
    have hw' : M 364 (Int.toNat (12 + (8 * a + b))) = sWi S (8 * a + b) := hS.2.1 _ (by omega)
    have w9 := hv.1.2.2.2.1 (8 * a + b) (by omega) (by omega)
    have w0 := (hv.1.2.1.2.2.2.1 (8 * a + b) (by omega) (by omega)).1
    have cond : ∀ N : bz_M, (N 319 60 = M 319 60 ∧ N 355 = M 355) → ¬ bz_b ((¬ N 319 60 = 0 ∧ 0 ≤ a ∧ a ≤ bz_w32 (N 355 3 - 1)) ∧ 0 ≤ b ∧ b ≤ bz_w32 (N 355 4 - 1)) = 0 := fun N hN e => by
      refine bz_b0.mp e ?_
      rw [hN.1, hN.2, e3, e4, w32_id (z := vC V - 1) (by omega) (by omega), w32_id (z := vR V - 1) (by omega) (by omega)]
      exact ⟨⟨h60, by omega, by omega⟩, by omega, by omega⟩
    by_cases c9 : sWi S (8 * a + b) < 9
    · obtain ⟨n, n1, n2, n3, n4⟩ := sim_pa hS
      have pa := hS.2.2.2.2.2.2.2.2.2.2.2.1
      refine T_le (eBr_plant_E (by omega) o) ?_
      rw [if_pos h131, if_neg (fun e => bz_b0.mp e c), q0, if_pos (by omega), if_pos (by rw [hw]; exact c9)]
      refine T_seq (pa_rem (by omega) n1 n3 pa.2.1 pa.2.2.2.1) ?_
      intro M1 r1
      have kr := r1.2.2.2.2.2
      have hj' : (n + 1) % 20 < 20 := Nat.mod_lt _ (by decide)
      have k1 : ∀ r, ¬ (157 ≤ r ∧ r ≤ 278) → M1 r = M r := fun r hr => kr r (by omega) (by omega)
      rw [k1 150 (by decide), hw, w32_id (z := sWi S (8 * a + b) + 1) (by omega) (by omega)]
      refine T_some (T_le (eMo_plant_E hd) ?_)
      dsimp only
      rw [if_neg (cond _ ⟨by rw [bz_up_fn (by decide), k1 319 (by decide)], by rw [bz_up_fn (by decide), k1 355 (by decide)]⟩), q1, q2, if_pos (by omega), if_neg (by rw [bz_up_fn (by decide), k1 364 (by decide), hw']; omega)]
      refine T_seq (mo_keeps (n := n) (by rw [bz_up_fn (by decide), k1 319 (by decide)]; exact n2) n3 (by rw [bz_up_fn (by decide), k1 319 (by decide), ← pa.1.1]; exact pa.2.1)) ?_
      intro N1 r2
      have e36 : N1 364 = M 364 := by rw [r2.2.2.2.2 364 (by decide) (by decide), bz_up_fn (by decide), k1 364 (by decide)]
      rw [if_pos (by omega), e36, hw', w32_id (z := sWi S (8 * a + b) + 1) (by omega) (by omega)]
      refine T_some ⟨?_, ?_⟩
      · dsimp only
        rw [bz_up_eq, bz_up_eq]
      · refine act_one hS hv (by rw [n4]) r1 (by decide) (by omega) (by omega) r2 ?_ ?_
        · refine stO_up (va_stO hv) (by omega) (sWiUp_ok hv.1.1 hv.1.2.1 (by omega) (by omega) (by omega)) (fun k y z => ?_) (fun l y z => by omega) (fun c y z => by omega) (fun c r y z w => by omega)
          rw [sWi_up (by omega) y]
          split
          · omega
          · exact hv.1.2.2.2.1 k y z
        · exact cS_u (cS_co hv.2.1.2.2 (k1 _ (by decide)) (k1 _ (by decide)) (k1 _ (by decide)) (k1 _ (by decide)) (k1 _ (by decide)) (k1 _ (by decide))) (by omega)
    · refine ref_stp (a := 2) (x := -1) hS (by decide) (T_le (eBr_plant_E (by omega) o) ?_) (fun N kN => T_le (eMo_plant_E hd) ?_)
      · rw [if_pos h131, if_neg (fun e => bz_b0.mp e c), q0, if_pos (by omega), if_neg (by rw [hw]; exact c9)]
        refine T_seq (br_refusal (a := 2) (by decide)) ?_
        rintro p rfl
        exact T_some rfl
      · rw [if_neg (cond N ⟨by rw [kN 319 (by decide)], kN 355 (by decide)⟩), q1, if_pos (by omega), if_pos (by rw [kN 364 (by decide), hw']; omega)]
        refine T_seq (mo_refuses (a := 2) (by decide)) ?_
        rintro p rfl
        exact T_some rfl
  · refine ref_stp (a := 2) (x := -1) hS (by decide) (T_le (eBr_plant_E (by omega) o) ?_) (fun N kN => T_le (eMo_plant_E hd) ?_)
    · rw [if_pos h131, if_pos (bz_b0.mpr c)]
      refine T_seq (br_refusal (a := 2) (by decide)) ?_
      rintro p rfl
      exact T_some rfl
    · rw [if_pos (bz_b0.mpr (fun x => ?_))]
      · refine T_seq (mo_refuses (a := 2) (by decide)) ?_
        rintro p rfl
        exact T_some rfl
      · rw [kN 355 (by decide), ← sz.1, ← sz.2, w32_id (z := M v 0 - 1) (by omega) (by omega), w32_id (z := M v 1 - 1) (by omega) (by omega)] at x
        exact c (by omega)
theorem stp_offer (hd : 1 < d) {a b : Int} (h : Sim M) : stp (eBr_offer Lg d a b) (eMo_offer Lg d a b) M := by
  obtain ⟨V, S, v, u, hS⟩ := h
  have o := hS.1.1
  have hvv := oV_c o
  have h131 := hS.1.2.2.2.1
  have bd := sim_bd hS
  have sL := (sim_L hS).1
  have bd3 := bd.2.2.1
  have cref : w_T (eBr_refuses Lg (d - 1) 2 M) (fun p => p = ((0 : Int), bz_up M 302 2 (bz_w32 (M 302 2 + 1)))) := br_refuses (a := 2) (by decide)
  have mref : ∀ N : bz_M, w_T ((eMo_isRefused Lg (d - 1) N).bind (fun p1 => (if p1.1 = 0 ∨ p1.1 = 1 then (some (p1.1, p1.2)) else none))) (fun p => p = ((0 : Int), bz_up N 321 2 (bz_w32 (N 321 2 + 1)))) := fun N => by
    refine T_seq (R := fun p => p = ((0 : Int), bz_up N 321 2 (bz_w32 (N 321 2 + 1)))) (T_le eMo_isRefused_E (T_some rfl)) ?_
    rintro p rfl
    rw [if_pos (Or.inl rfl)]
    exact T_some rfl
  have cref' : w_T ((eBr_refuses Lg (d - 1) 2 M).bind (fun p1 => (if p1.1 = 0 ∨ p1.1 = 1 then (some (p1.1, p1.2)) else none))) (fun p => p = ((0 : Int), bz_up M 302 2 (bz_w32 (M 302 2 + 1)))) := by
    refine T_seq cref ?_
    rintro p rfl
    rw [if_pos (Or.inl rfl)]
    exact T_some rfl
  by_cases c : 0 ≤ a ∧ a < M v 3
  · obtain ⟨h60, hv⟩ := bd.2.2.2 (by omega)
    have hL := hv.1.1.2.2.2.2.1
    have e3 : M v 3 = vL V := hv.2.1.2.1.1.2.2.2.1
    have e47 : M 319 47 = vL V := by rw [← sL]; exact e3
    have q1 : bz_w32 (172 + bz_w32 (2 * a)) = 172 + 2 * a := by rw [w32_id (z := 2 * a) (by omega) (by omega), w32_id (by omega) (by omega)]
    have cond : ∀ N : bz_M, N 319 47 = M 319 47 → ¬ bz_b (0 ≤ a ∧ a ≤ bz_w32 (N 319 47 - 1)) = 0 := fun N hN e => by
      refine bz_b0.mp e ?_
      rw [hN, e47, w32_id (z := vL V - 1) (by omega) (by omega)]
      omega
    have hw : M 152 (Int.toNat a) = sOf S a := (hv.2.1.2.2.2.2.2 a (by omega) (by omega)).1
    have hw' : M 364 (Int.toNat (172 + 2 * a)) = sOf S a := hS.2.1 _ (by omega)
    by_cases c2 : 0 ≤ b ∧ b ≤ 1
    · by_cases c3 : sOf S a = b
      · refine ref_stp (a := 2) (x := 0) hS (by decide) (T_le (eBr_offer_E (by omega) o) ?_) (fun N kN => T_le (eMo_offer_E hd) ?_)
        · rw [if_pos h131, if_neg (fun e => bz_b0.mp e c), if_neg (by omega), if_neg (by omega), if_pos (by omega), if_pos (by rw [hw]; exact c3)]
          exact cref'
        · rw [if_neg (cond N (by rw [kN 319 (by decide)])), if_neg (fun e => bz_b0.mp e c2), q1, if_pos (by omega), if_pos (by rw [kN 364 (by decide), hw']; exact c3)]
          exact mref N
      · obtain ⟨n, n1, n2, n3, n4⟩ := sim_pa hS
        have pa := hS.2.2.2.2.2.2.2.2.2.2.2.1
        refine T_le (eBr_offer_E (by omega) o) ?_
        rw [if_pos h131, if_neg (fun e => bz_b0.mp e c), if_neg (by omega), if_neg (by omega), if_pos (by omega), if_neg (by rw [hw]; exact c3)]
        refine T_seq (pa_rem (by omega) n1 n3 pa.2.1 pa.2.2.2.1) ?_
        intro M1 r1
        have kr := r1.2.2.2.2.2
        have hj' : (n + 1) % 20 < 20 := Nat.mod_lt _ (by decide)
        have k1 : ∀ r, ¬ (157 ≤ r ∧ r ≤ 278) → M1 r = M r := fun r hr => kr r (by omega) (by omega)
        refine T_some (T_le (eMo_offer_E hd) ?_)
        dsimp only
        rw [if_neg (cond _ (by rw [bz_up_fn (by decide), k1 319 (by decide)])), if_neg (fun e => bz_b0.mp e c2), q1, if_pos (by omega), if_neg (by rw [bz_up_fn (by decide), k1 364 (by decide), hw']; exact c3)]
        refine T_seq (mo_keeps (n := n) (by rw [bz_up_fn (by decide), k1 319 (by decide)]; exact n2) n3 (by rw [bz_up_fn (by decide), k1 319 (by decide), ← pa.1.1]; exact pa.2.1)) ?_
        intro N1 r2
        refine T_some ⟨rfl, ?_⟩
        refine act_one hS hv (by rw [n4]) r1 (by decide) (by omega) (by omega) r2 ?_ ?_
        · exact stO_up (va_stO hv) (by omega) (sSetUp_ok hv.1.1 hv.1.2.1 (by omega) (by omega) (by omega)) (sW_up hv.1.2.2.2.1 (by omega)) (fun l y z => by omega) (fun c y z => by omega) (fun c r y z w => by omega)
        · exact cS_u (cS_co hv.2.1.2.2 (k1 _ (by decide)) (k1 _ (by decide)) (k1 _ (by decide)) (k1 _ (by decide)) (k1 _ (by decide)) (k1 _ (by decide))) (by omega)
    · refine ref_stp (a := 2) (x := 0) hS (by decide) (T_le (eBr_offer_E (by omega) o) ?_) (fun N kN => T_le (eMo_offer_E hd) ?_)
      · rw [if_pos h131, if_neg (fun e => bz_b0.mp e c)]
        by_cases c4 : b < 0
        · rw [if_pos c4]; exact cref'
        · rw [if_neg c4, if_pos (by omega)]; exact cref'
      · rw [if_neg (cond N (by rw [kN 319 (by decide)])), if_pos (bz_b0.mpr c2)]
        exact mref N
  · refine ref_stp (a := 2) (x := 0) hS (by decide) (T_le (eBr_offer_E (by omega) o) ?_) (fun N kN => T_le (eMo_offer_E hd) ?_)
    · rw [if_pos h131, if_pos (bz_b0.mpr c)]
      exact cref'
    · rw [if_pos (bz_b0.mpr (fun x => ?_))]
      · exact mref N
      · rw [kN 319 (by decide), ← sL, w32_id (z := M v 3 - 1) (by omega) (by omega)] at x
        exact c (by omega)
end SP

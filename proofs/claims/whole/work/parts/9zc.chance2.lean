/-! SIM: chance, both -/
section SV
variable {Lg d : Nat} {V M M' M1 M2 N1 N2 : bz_M} {S S' B P : Nat → Int} {v u s j : Nat}
theorem mR_87 (h : mR V S M) {x : Int} : mR V S (bz_up M 319 87 x) := by
  have k : ∀ r, r ≠ 319 → bz_up M 319 87 x r = M r := fun r hr => bz_up_fn hr
  exact ⟨mV_co h.1 (k _ (by decide)) (bz_up_nk (by decide) _) (bz_up_nk (by decide) _) (k _ (by decide)) (k _ (by decide)) (k _ (by decide)) (k _ (by decide)) (k _ (by decide)), fun i hi => by rw [k 364 (by decide)]; exact h.2 i hi⟩
theorem aM_87 {x : Int} : aM M (bz_up M 319 87 x) := ⟨fun r e _ _ _ => bz_up_fn e, fun k _ e => bz_up_nk e _⟩
theorem aM_refl (M : bz_M) : aM M M := ⟨fun _ _ _ _ _ => rfl, fun _ _ _ => rfl⟩
theorem m_chL (hd : 7 < d) (hV : vOK V) (hp : 0 ≤ V 319 54 ∧ V 319 54 ≤ 100) {N : Int} (hN : N ≤ 1000) : ∀ (n : Nat) (i : Int) (q : (Nat → Int) × Int × Int) (M : bz_M) (k : Nat), sOK V q.1 → q.1 0 + n ≤ 999 → (0 ≤ q.2.1 ∧ q.2.1 < 2147483648) → mR V q.1 M → M 319 87 = q.2.1 → M 319 54 = V 319 54 → M 319 70 = 0 → kl B P k (q.1 0) (M 364) → (∀ t, t < n → B (k + t) = bPd V (chP V (chG V t q).1 (chG V t q).2.1).1 ∧ P (k + t) = pPd V (chP V (chG V t q).1 (chG V t q).2.1).1) → k + n ≤ 1000 → 0 ≤ i → i + n = N → 0 ≤ q.2.2 → q.2.2 + n ≤ 1000 → w_T (eMo_chance_25 Lg d N q.2.2 i M) (fun p => p.1 = (chG V n q).2.2 ∧ mR V (chG V n q).1 p.2 ∧ kl B P (k + n) (q.1 0 + n) (p.2 364) ∧ p.2 319 87 = (chG V n q).2.1 ∧ aM M p.2)
  | 0, i, q, M, k, hS, h9, hz, hM, h87, h54, h70, hk, hh, hk9, h0, h1, ha, hb => by
    refine T_le (eMo_chance_25_E (by omega)) ?_
    rw [if_neg (by omega)]
    refine T_some ⟨rfl, hM, ?_, h87, aM_refl M⟩
    rw [show q.1 0 + ((0 : Nat) : Int) = q.1 0 by omega]; exact hk
  | n + 1, i, q, M, k, hS, h9, hz, hM, h87, h54, h70, hk, hh, hk9, h0, h1, ha, hb => by
    have hC := hV.2.1
    have hR := hV.2.2.1
    have kk := chP_ok hV hS q.2.1
    have kp := sPass_ok hV kk.1 (by rw [kk.2.1]; omega)
    have hh0 := hh 0 (by omega)
    have tail : ∀ (Q : bz_M), mR V (chP V q.1 q.2.1).1 Q → Q 319 87 = (chP V q.1 q.2.1).2.1 → (∀ j, 182 ≤ j → Q 364 j = M 364 j) → aM M Q → w_T ((eMo_seasonGoes Lg (d - 1) Q).bind (fun M1 => eMo_chance_25 Lg d N (chN V q).2.2 (i + 1) M1)) (fun p => p.1 = (chG V (n + 1) q).2.2 ∧ mR V (chG V (n + 1) q).1 p.2 ∧ kl B P (k + (n + 1)) (q.1 0 + ((n + 1 : Nat) : Int)) (p.2 364) ∧ p.2 319 87 = (chG V (n + 1) q).2.1 ∧ aM M p.2) := fun Q x1 x2 x3 x4 => by
      refine T_seq (mo_seaK (by omega) hV kk.1 (by rw [kk.2.1]; omega) x1 (by rw [x4.2 70 (by decide) (by decide)]; exact h70) (by omega) (by rw [kk.2.1]; exact kl_cg hk (fun j y _ => x3 j y)) hh0.1 hh0.2) ?_
      rintro R ⟨a1, a2, a3, a4⟩
      have f9 : ∀ i, i = 87 ∨ i = 54 ∨ i = 70 → R 319 i = Q 319 i := fun i hi => a4.2 i (by omega) (by omega) (by omega) (by omega) (by omega) (by omega) (by omega) (by omega)
      refine T_mono (m_chL hd hV hp hN n (i + 1) (chN V q) R (k + 1) kp.1 (by show sPass V _ 0 + _ ≤ _; rw [kp.2, kk.2.1]; omega) kk.2.2.1 a1 (by rw [f9 87 (by omega)]; exact x2) (by rw [f9 54 (by omega), x4.2 54 (by decide) (by decide)]; exact h54) (by rw [f9 70 (by omega), x4.2 70 (by decide) (by decide)]; exact h70) (by show kl B P (k + 1) (sPass V _ 0) _; rw [kp.2]; exact a2) (fun t ht => ?_) (by omega) (by omega) (by omega) (by show 0 ≤ q.2.2 + _; omega) (by show q.2.2 + _ + _ ≤ _; omega)) ?_
      · rw [show k + 1 + t = k + (t + 1) by omega]
        exact hh (t + 1) (by omega)
      rintro ⟨p2, R2⟩ ⟨g1, g2, g3, g4, g5⟩
      dsimp only at g1 g2 g3 g4 g5 ⊢
      refine ⟨g1, g2, ?_, g4, aM_trans x4 (aM_trans (aM_fh a4) g5)⟩
      have e : (chN V q).1 0 + (n : Int) = q.1 0 + ((n + 1 : Nat) : Int) := by
        show sPass V _ 0 + _ = _
        rw [kp.2, kk.2.1]; omega
      rw [e, show k + 1 + n = k + (n + 1) by omega] at g3
      exact g3
    have vC0 : M 355 3 = vC V := hM.1.1.1
    have vR0 : M 355 4 = vR V := hM.1.1.2.1
    refine T_le (eMo_chance_25_E (by omega)) ?_
    rw [if_pos (by omega), w32_id (z := i + 1) (by omega) (by omega)]
    refine T_run (m_draw (by decide) (by decide) h87 hz) ?_
    dsimp only
    have cs : chP V q.1 q.2.1 = if zD (zN q.2.1) 100 < V 319 54 then (chPush V q.1 (zD (zN (zN q.2.1)) (vC V)) (if zD (zN (zN (zN q.2.1))) 2 = 0 then -1 else 1), zN (zN (zN q.2.1)), 1) else (q.1, zN q.2.1, 0) := rfl
    by_cases c : zD (zN q.2.1) 100 < V 319 54
    · rw [if_pos c] at cs
      rw [if_pos (show zD (zN q.2.1) 100 < bz_up M 319 87 (zN q.2.1) 319 54 by rw [bz_up_nk (by decide), h54]; exact c)]
      have z1 := zN_bd q.2.1
      have z2 := zN_bd (zN q.2.1)
      have hD := zD_bd (z := zN (zN q.2.1)) (show 0 < vC V by omega)
      have ev0 : bz_up M 319 87 (zN q.2.1) 355 3 = vC V := by rw [bz_up_nr (by omega)]; exact vC0
      rw [ev0]
      refine T_run (m_draw (by omega) (by omega) (bz_up_eq _ _ _ _) z1) ?_
      dsimp only
      generalize hc : zD (zN (zN q.2.1)) (vC V) = cc at hD cs
      rw [w32_id (z := 2 + cc) (by omega) (by omega), if_pos (show 0 ≤ 2 + cc ∧ 2 + cc < 303 by omega)]
      refine T_run (m_draw (by decide) (by decide) (bz_up_eq _ _ _ _) z2) ?_
      dsimp only
      generalize hZ : bz_up (bz_up (bz_up M 319 87 (zN q.2.1)) 319 87 (zN (zN q.2.1))) 319 87 (zN (zN (zN q.2.1))) = Z
      have mZ : mR V q.1 Z := by rw [← hZ]; exact mR_87 (mR_87 (mR_87 hM))
      have aZ : aM M Z := by rw [← hZ]; exact aM_trans (aM_trans aM_87 aM_87) aM_87
      have e36 : Z 364 = M 364 := by rw [← hZ, bz_up_fn (by decide), bz_up_fn (by decide), bz_up_fn (by decide)]
      have er : bz_up (bz_up M 319 87 (zN q.2.1)) 319 87 (zN (zN q.2.1)) 364 (Int.toNat (2 + cc)) = sRow q.1 cc := by
        rw [bz_up_nr (by decide), bz_up_nr (by decide)]
        exact hM.2 _ (by omega)
      rw [er]
      have hr := hS.2.2.1 cc hD.1 hD.2
      have e2 : (chN V q).2.2 = q.2.2 + 1 := by
        show q.2.2 + (chP V q.1 q.2.1).2.2 = _
        rw [cs]
      have e87 : Z 319 87 = zN (zN (zN q.2.1)) := by rw [← hZ, bz_up_eq]
      have go : ∀ y, y = -1 ∨ y = 1 → (if zD (zN (zN (zN q.2.1))) 2 = 0 then (-1 : Int) else 1) = y → w_T (eMo_chance_72 Lg d N q.2.2 i cc (sRow q.1 cc) y Z) (fun p => p.1 = (chG V (n + 1) q).2.2 ∧ mR V (chG V (n + 1) q).1 p.2 ∧ kl B P (k + (n + 1)) (q.1 0 + ((n + 1 : Nat) : Int)) (p.2 364) ∧ p.2 319 87 = (chG V (n + 1) q).2.1 ∧ aM M p.2) := fun y hy ey => by
        rw [ey] at cs
        refine T_le (eMo_chance_72_E (by omega)) ?_
        have e55 : Z 355 4 = vR V := mZ.1.1.2.1
        rw [e55, w32_id (z := sRow q.1 cc + y) (by omega) (by omega), w32_id (z := vR V - 1) (by omega) (by omega), w32_id (z := q.2.2 + 1) (by omega) (by omega), w32_id (z := i + 1) (by omega) (by omega), w32_id (z := 2 + cc) (by omega) (by omega), ← e2]
        unfold chPush at cs
        by_cases c5 : 0 ≤ sRow q.1 cc + y ∧ sRow q.1 cc + y < vR V
        · rw [if_neg (fun e => bz_b0.mp e (by omega)), if_pos (show 0 ≤ 2 + cc ∧ 2 + cc < 303 by omega)]
          rw [if_pos c5] at cs
          refine tail _ (by rw [cs]; exact mR_up mZ (by omega)) ?_ (fun j hj => ?_) (aM_trans aZ aM_64)
          · rw [bz_up_nr (by decide), cs]; exact e87
          · rw [bz_up_nk (by omega), e36]
        · rw [if_pos (bz_b0.mpr (by omega))]
          rw [if_neg c5] at cs
          refine tail _ (by rw [cs]; exact mZ) ?_ (fun j hj => ?_) aZ
          · rw [cs]; exact e87
          · rw [e36]
      by_cases c3 : zD (zN (zN (zN q.2.1))) 2 = 0
      · rw [if_pos c3]; exact go (-1) (Or.inl rfl) (if_pos c3)
      · rw [if_neg c3]; exact go 1 (Or.inr rfl) (if_neg c3)
    · rw [if_neg c] at cs
      rw [if_neg (show ¬ zD (zN q.2.1) 100 < bz_up M 319 87 (zN q.2.1) 319 54 by rw [bz_up_nk (by decide), h54]; exact c)]
      have e2 : (chN V q).2.2 = q.2.2 := by
        show q.2.2 + (chP V q.1 q.2.1).2.2 = _
        rw [cs]; exact Int.add_zero _
      rw [show eMo_chance_25 Lg d N q.2.2 (i + 1) = eMo_chance_25 Lg d N (chN V q).2.2 (i + 1) by rw [e2]]
      refine tail _ (by rw [cs]; exact mR_87 hM) ?_ (fun j hj => bz_up_nr (by decide) _) aM_87
      rw [bz_up_eq, cs]
theorem stp_chance (hd : 8 < d) {a : Int} (h : Sim M) : stp (eBr_chance Lg d a) (eMo_chance Lg d a) M := by
  obtain ⟨V, S, v, u, hS⟩ := h
  have o := hS.1.1
  have hvv := oV_c o
  have h131 := hS.1.2.2.2.1
  have cref : w_T ((eBr_refusal Lg (d - 1) 3 M).bind (fun p1 => some (p1.1, p1.2))) (fun p => p = ((-1 : Int), bz_up M 302 3 (bz_w32 (M 302 3 + 1)))) := by
    refine T_seq (br_refusal (a := 3) (by decide)) ?_
    rintro p rfl
    exact T_some rfl
  rcases sea_cond (a := a) (N := M) hS (fun _ _ => rfl) with c | c
  · refine ref_stp (a := 3) (x := -1) hS (by decide) (T_le (eBr_chance_E (by omega) o) ?_) (fun N kN => T_le (eMo_chance_E (by omega)) ?_)
    · rw [if_pos h131]
      by_cases c1 : bz_b (0 < M v 0) = 0
      · rw [if_pos c1]; exact cref
      · rw [if_neg c1, if_pos (c.1.resolve_left c1)]; exact cref
    · rw [kN 319 (by decide), kN 364 (by decide), if_pos c.2]
      refine T_seq (mo_refuses (a := 3) (by decide)) ?_
      rintro p rfl
      exact T_some rfl
  · obtain ⟨⟨c1, c2⟩, c3, hv, c4⟩ := c
    have hV := hv.1.1
    have pa := hS.2.2.2.2.2.2.2.2.2.2.2.1
    have t4 := hS.2.2.2.2.2.2.1
    have t5 := hS.2.2.2.2.2.2.2.1
    have hkp := hS.2.2.2.2.2.2.2.2.2.2.1
    have hkp1 := hkp.1
    obtain ⟨n, n1, n2, n3, n4⟩ := sim_pa hS
    have hk : M 148 2 = ((M 148 2).toNat : Int) := by omega
    generalize hK : (M 148 2).toNat = k at hk
    have hj' : (n + 1) % 20 < 20 := Nat.mod_lt _ (by decide)
    have hsp := hv.1.2.2.2.2.2.2
    refine T_le (eBr_chance_E (by omega) o) ?_
    rw [if_pos h131, if_neg c1, if_neg c2]
    refine T_seq (pa_rem (by omega) n1 n3 pa.2.1 pa.2.2.2.1) ?_
    intro M1 r1
    have kr := r1.2.2.2.2.2
    have k1 : ∀ r, ¬ (157 ≤ r ∧ r ≤ 278) → M1 r = M r := fun r hr => kr r (by omega) (by omega)
    have cR1 : cR V S 131 148 v M1 := ⟨by rw [k1 131 (by decide)]; exact h131, cV_co hv.2.1.2.1 (k1 _ (by omega)) (k1 _ (by omega)) (k1 _ (by omega)) (k1 _ (by omega)) (k1 _ (by omega)) (k1 _ (by omega)) (k1 _ (by omega)) (k1 _ (by omega)) (k1 _ (by omega)) (k1 _ (by omega)), cS_co hv.2.1.2.2 (k1 _ (by decide)) (k1 _ (by decide)) (k1 _ (by decide)) (k1 _ (by decide)) (k1 _ (by decide)) (k1 _ (by decide))⟩
    have ea : a = ((a.toNat : Nat) : Int) := by omega
    generalize hA : a.toNat = m at ea
    have hq2 : (0 : Int) ≤ M 319 87 ∧ M 319 87 < 2147483648 := t4.2
    refine T_mono (c_chL (by omega) o hV hsp (N := a) (by omega) m 0 (S, M 319 87, 0) M1 k hv.1.2.1 (by show S 0 + _ ≤ _; omega) hq2 cR1 (by rw [k1 122 (by decide)]; exact t4.1) (by rw [k1 148 (by decide)]; exact hk) (by omega) (by omega) (by omega) (Int.le_refl 0) (by show (0 : Int) + _ ≤ _; omega)) ?_
    rintro ⟨p1, M2⟩ ⟨g1, g2, g3, g4, g5, g6⟩
    dsimp only at g1 g2 g3 g4 g5 g6 ⊢
    have k2 : ∀ r, ¬ (157 ≤ r ∧ r ≤ 278) → ¬ (cScr r ∨ r = 122 ∨ r = 131 ∨ (148 ≤ r ∧ r ≤ 155) ∨ r = 300 ∨ r = 301) → M2 r = M r := fun r x1 x2 => by rw [g6.1 r (by omega) (by omega) (by omega) (by omega) (by omega) (by omega), k1 r x1]
    refine T_le (eMo_chance_E (by omega)) ?_
    rw [k2 319 (by decide) (by decide), k2 364 (by decide) (by decide), if_neg c3]
    refine T_seq (mo_keeps (n := n) (by rw [k2 319 (by decide) (by decide)]; exact n2) n3 (by rw [k2 319 (by decide) (by decide), ← pa.1.1]; exact pa.2.1)) ?_
    intro Q r2
    have k3 : ∀ r, r ≠ 319 → r ≠ 375 → Q r = M2 r := r2.2.2.2.2
    have kQ9 : ∀ i, i ≠ 85 → i ≠ 86 → Q 319 i = M 319 i := fun i x2 x3 => by rw [r2.2.2.2.1 i x2 x3, k2 319 (by decide) (by decide)]
    have e36 : Q 364 = M 364 := by rw [k3 364 (by decide) (by decide), k2 364 (by decide) (by decide)]
    have eQ : ∀ r, 355 ≤ r → r ≤ 363 → Q r = M r := fun r x1 x2 => by rw [k3 r (by omega) (by omega), k2 r (by omega) (by omega)]
    have mRQ : mR V S Q := ⟨mV_co hv.2.2.1 (eQ _ (by decide) (by decide)) (kQ9 _ (by decide) (by decide)) (kQ9 _ (by decide) (by decide)) (eQ _ (by decide) (by decide)) (eQ _ (by decide) (by decide)) (eQ _ (by decide) (by decide)) (eQ _ (by decide) (by decide)) (eQ _ (by decide) (by decide)), fun i hi => by rw [e36]; exact hS.2.1 i (by omega)⟩
    have hkl : kl (M2 300) (M2 301) k (S 0) (Q 364) := by
      rw [e36]
      refine kl_cg (kl_of hkp hk (fun t ht => ?_)) (fun j _ y => hS.2.1 j y)
      have := g6.2.2.2.2 t (by rw [k1 148 (by decide), hk]; omega)
      rw [this.1, this.2, k1 300 (by decide), k1 301 (by decide)]
      exact ⟨rfl, rfl⟩
    refine T_mono (m_chL (B := M2 300) (P := M2 301) (by omega) hV hsp (N := a) (by omega) m 0 (S, M 319 87, 0) Q k hv.1.2.1 (by show S 0 + _ ≤ _; omega) hq2 mRQ (kQ9 87 (by decide) (by decide)) (by rw [kQ9 54 (by decide) (by decide)]; exact hv.2.2.2.1) (by rw [kQ9 70 (by decide) (by decide)]; exact t5) hkl g5 (by omega) (by omega) (by omega) (Int.le_refl 0) (by show (0 : Int) + _ ≤ _; omega)) ?_
    rintro ⟨p2, N2⟩ ⟨b1, b2, b3, b4, b5⟩
    dsimp only at b1 b2 b3 b4 b5 ⊢
    have hr0 := chG_stO hV m (S, M 319 87, 0) (va_stO hv) hq2 (by show S 0 + _ ≤ _; omega)
    have hr1 : (chG V m (S, M 319 87, 0)).1 0 = S 0 + (m : Int) := hr0.2.1
    refine ⟨by rw [g1, b1], ?_⟩
    refine act_run hS hv (by rw [n4]) r1 g6 r2 b5 hr0.1 g2.2.2 b2.2 g4 (by omega) (by rw [hr1]; omega) (by rw [hr1]; exact b3) ?_
    have e12 : N2 122 = M2 122 := by rw [b5.1 122 (by decide) (by decide) (by decide) (by decide), k3 122 (by decide) (by decide)]
    refine ⟨by rw [e12, g3, b4], ?_⟩
    rw [b4]; exact hr0.2.2
end SV

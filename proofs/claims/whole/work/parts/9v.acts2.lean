/-! SIM: acts: plant, offer, cut -/
def aF (M M' : bz_M) : Prop := (∀ r, ¬ cScr r → r ≠ 122 → r ≠ 123 → r ≠ 131 → ¬ (148 ≤ r ∧ r ≤ 155) → r ≠ 157 → ¬ (159 ≤ r ∧ r ≤ 278) → ¬ (281 ≤ r ∧ r ≤ 298) → r ≠ 300 → r ≠ 301 → r ≠ 319 → r ≠ 364 → r ≠ 367 → r ≠ 375 → r ≠ 410 → M' r = M r) ∧ M' 131 0 = M 131 0 ∧ (∀ k, k ≠ 13 → M' 122 k = M 122 k) ∧ (∀ k, k ≠ 1 → M' 123 k = M 123 k) ∧ ∀ k, ¬ mSf k → k ≠ 1 → k ≠ 85 → k ≠ 86 → k ≠ 87 → M' 319 k = M 319 k
/-- what the class changes in an act, behind what it remembers -/
def aC (M M' : bz_M) : Prop := (∀ r, ¬ cScr r → r ≠ 122 → r ≠ 131 → ¬ (148 ≤ r ∧ r ≤ 155) → r ≠ 300 → r ≠ 301 → M' r = M r) ∧ M' 131 0 = M 131 0 ∧ (∀ k, k ≠ 13 → M' 122 k = M 122 k) ∧ M 148 2 ≤ M' 148 2 ∧ ∀ k : Nat, (k : Int) < M 148 2 → M' 300 k = M 300 k ∧ M' 301 k = M 301 k
def aM (M M' : bz_M) : Prop := (∀ r, r ≠ 319 → r ≠ 364 → r ≠ 367 → r ≠ 410 → M' r = M r) ∧ ∀ k, ¬ mSf k → k ≠ 87 → M' 319 k = M 319 k
section SO
variable {Lg d : Nat} {V M M' M1 M2 N1 N2 : bz_M} {S S' : Nat → Int} {v u s j : Nat}
theorem Sim_act (h : Sim' V S v u M) (hv : vaR V S v M) (f : aF M M') (t1' : tpR M') (t4' : drR M') (hO : stO V S') (h8 : cS 148 S' M') (hR : ∀ k, k < 303 → M' 364 k = S' k) (hk : kpR S' 148 M') (hp : paR V M') : Sim' V S' v u M' := by
  obtain ⟨⟨a1, a2, a3, a4, a5⟩, b, c, t1, t2, t3, t4, t5, t6, t7, t8, t9, ta, tb⟩ := h
  obtain ⟨f1, f2, f3, f4, f5⟩ := f
  have k : ∀ r, ¬ (cScr r ∨ r = 122 ∨ r = 123 ∨ r = 131 ∨ (148 ≤ r ∧ r ≤ 155) ∨ r = 157 ∨ (159 ≤ r ∧ r ≤ 278) ∨ (281 ≤ r ∧ r ≤ 298) ∨ r = 300 ∨ r = 301 ∨ r = 319 ∨ r = 364 ∨ r = 367 ∨ r = 375 ∨ r = 410) → M' r = M r := fun r x => f1 r (by omega) (by omega) (by omega) (by omega) (by omega) (by omega) (by omega) (by omega) (by omega) (by omega) (by omega) (by omega) (by omega) (by omega) (by omega)
  have hvv := oV_c a1
  refine ⟨⟨a1, a2, a3, by rw [f2]; exact a4, by rw [f3 11 (by decide)]; exact a5⟩, hR, Or.inl ?_, t1', ?_, ?_, t4', by rw [f5 70 (by decide) (by decide) (by decide) (by decide) (by decide)]; exact t5, imR_co t6 (f3 12 (by decide)) (f5 _ (by decide) (by decide) (by decide) (by decide) (by decide)) (k _ (by decide)) (k _ (by decide)), snR_co t7 (by rw [k 279 (by decide)]) (f5 _ (by decide) (by decide) (by decide) (by decide) (by decide)) (k _ (by decide)) (k _ (by decide)), hk, hp, fun r j h1 h2 => by rw [k r (by omega)]; exact ta r j h1 h2, fun r j h1 h2 => by rw [k r (by omega)]; exact tb r j h1 h2⟩
  · obtain ⟨c1, c2, c3, c4, c5⟩ := hv
    refine ⟨⟨c1.1, hO.1, hO.2.1, hO.2.2.1, hO.2.2.2.1, hO.2.2.2.2, c1.2.2.2.2.2.2⟩, ⟨by rw [f2]; exact a4, cV_co c2.2.1 (k _ (by omega)) (k _ (by omega)) (k _ (by omega)) (k _ (by omega)) (k _ (by omega)) (k _ (by omega)) (k _ (by omega)) (k _ (by omega)) (k _ (by omega)) (k _ (by omega)), h8⟩, mV_co c3 (k _ (by decide)) (f5 _ (by decide) (by decide) (by decide) (by decide) (by decide)) (f5 _ (by decide) (by decide) (by decide) (by decide) (by decide)) (k _ (by decide)) (k _ (by decide)) (k _ (by decide)) (k _ (by decide)) (k _ (by decide)), by rw [f5 54 (by decide) (by decide) (by decide) (by decide) (by decide)]; exact c4, fun l hl => ?_, ?_⟩
    · rw [k (v + 4) (by omega), k 356 (by decide)]
      exact c5.1 l hl
    · rw [k (v + 1) (by omega), k (v + 3) (by omega), k (v + 9) (by omega)]
      exact c5.2
  · unfold ftR at t2 ⊢
    rw [f4 6 (by decide), f4 7 (by decide), f5 7 (by decide) (by decide) (by decide) (by decide) (by decide), f5 8 (by decide) (by decide) (by decide) (by decide) (by decide)]
    exact t2
  · unfold rfR at t3 ⊢
    rw [k 302 (by decide), k 321 (by decide)]
    exact t3
theorem act_end (hS : Sim' V S v u M) (hv : vaR V S v M) (hj : j = ((M 157 1).toNat + 1) % 20) (h1 : rmC M j M1) (h2 : aC M1 M2) (h3 : kpM M2 j N1) (h4 : aM N1 N2) (hO : stO V S') (h8 : cS 148 S' M2) (hR : ∀ k, k < 303 → N2 364 k = S' k) (hk : kpR S' 148 M2) (hdr : drR N2) : Sim N2 ∧ fO M N2 := by
  have hj' : j < 20 := by rw [hj]; exact Nat.mod_lt _ (by decide)
  obtain ⟨x1, x2, x3, x4, x5, x6⟩ := h1
  obtain ⟨y1, y2, y3, y4, y5⟩ := h2
  obtain ⟨z1, z2, z3, z4, z5⟩ := h3
  obtain ⟨w1, w2⟩ := h4
  have kN : ∀ r, ¬ (r = 319 ∨ r = 364 ∨ r = 367 ∨ r = 410 ∨ r = 375) → N2 r = M2 r := fun r x => by rw [w1 r (by omega) (by omega) (by omega) (by omega), z5 r (by omega) (by omega)]
  have kM : ∀ r, ¬ (cScr r ∨ r = 122 ∨ r = 131 ∨ (148 ≤ r ∧ r ≤ 155) ∨ r = 300 ∨ r = 301) → M2 r = M1 r := fun r x => y1 r (by omega) (by omega) (by omega) (by omega) (by omega) (by omega)
  have k1 : ∀ r, ¬ (r = 157 ∨ (159 + 6 * j ≤ r ∧ r ≤ 159 + 6 * j + 5)) → M1 r = M r := fun r x => x6 r (by omega) (by omega)
  have k9 : ∀ k, ¬ mSf k → k ≠ 85 → k ≠ 86 → k ≠ 87 → N2 319 k = M 319 k := fun k e1 e2 e3 e4 => by rw [w2 k e1 e4, z4 k e2 e3, kM 319 (by omega), k1 319 (by omega)]
  have c48 : M1 148 = M 148 := k1 148 (by omega)
  have c85 : M2 319 85 = M 157 0 := by rw [kM 319 (by omega), k1 319 (by omega)]; exact (hS.2.2.2.2.2.2.2.2.2.2.2.1.1.1).symm
  have t1 := hS.2.2.2.1
  have pa := hS.2.2.2.2.2.2.2.2.2.2.2.1
  have hp : paR V N2 := by
    refine paR_keep (j := j) hv.1.1 pa ⟨hv.1.2.1, hv.1.2.2.1, hv.1.2.2.2.1, hv.1.2.2.2.2.1, hv.1.2.2.2.2.2.1⟩ hv.2.1.2.2 hS.2.2.2.2.2.2.2.2.2.2.1 hS.2.1 hj ?_ ?_ ?_ ?_ ?_ (fun k hk => ?_) (fun k hk => ?_) (fun k hk => ?_) (fun r e1 e2 e3 => ?_) (fun k hk => ?_) (fun i hi => ?_) ?_ (fun k hk => ?_)
    · rw [kN 157 (by omega), kM 157 (by omega)]; exact x1.1
    · rw [w2 86 (by decide) (by decide)]; exact z1.1
    · rw [kN 157 (by omega), kM 157 (by omega)]; exact x1.2
    · rw [w2 85 (by decide) (by decide), z1.2, c85]
    · rw [kN _ (by omega), kM _ (by omega)]; exact x2
    · rw [kN _ (by omega), kM _ (by omega)]; exact x3 k hk
    · rw [kN _ (by omega), kM _ (by omega), kN _ (by omega), kM _ (by omega)]; exact x4 k hk
    · rw [kN _ (by omega), kM _ (by omega), kN _ (by omega), kM _ (by omega)]; exact x5 k hk
    · rw [kN _ (by omega), kM _ (by omega), k1 r (by omega)]
    · have e36 : M1 364 = M2 364 := (kM 364 (by omega)).symm
      rw [w1 375 (by decide) (by decide) (by decide) (by decide), z2 k hk, ← e36, k1 364 (by omega)]
    · rw [w1 375 (by decide) (by decide) (by decide) (by decide), z3 i hi, kM 375 (by omega), k1 375 (by omega)]
    · rw [kN 148 (by omega), ← c48]; exact y4
    · rw [kN 300 (by omega), kN 301 (by omega), (y5 k (by rw [c48]; exact hk)).1, (y5 k (by rw [c48]; exact hk)).2, k1 300 (by omega), k1 301 (by omega)]
      exact ⟨rfl, rfl⟩
  have fr : aF M N2 := by
    refine ⟨fun r e1 e2 e3 e4 e5 e6 e7 e8 e9 e10 e11 e12 e13 e14 e15 => ?_, ?_, fun k hk => ?_, fun k hk => ?_, fun k e1 _ e2 e3 e4 => k9 k e1 e2 e3 e4⟩
    · rw [kN r (by omega), kM r (by omega), k1 r (by omega)]
    · rw [kN 131 (by omega), y2, k1 131 (by omega)]
    · rw [kN 122 (by omega), y3 k hk, k1 122 (by omega)]
    · rw [kN 123 (by omega), kM 123 (by omega), k1 123 (by omega)]
  have hd2 : drR N2 := hdr
  refine ⟨⟨V, S', v, u, Sim_act hS hv fr (tpR_co t1 (by rw [kN 123 (by omega), kM 123 (by omega), k1 123 (by omega)]) (k9 1 (by decide) (by decide) (by decide) (by decide)) (by rw [kN 320 (by omega), kM 320 (by omega), k1 320 (by omega)]) (by rw [kN 124 (by omega), kM 124 (by omega), k1 124 (by omega)])) hd2 hO (cS_co h8 (kN _ (by omega)) (kN _ (by omega)) (kN _ (by omega)) (kN _ (by omega)) (kN _ (by omega)) (kN _ (by omega))) hR (kpR_co hk (by rw [kN 148 (by omega)]) (kN 300 (by omega)) (kN 301 (by omega))) hp⟩, fun r hr => ?_⟩
  rw [kN r (by omega), kM r (by omega), k1 r (by omega)]
theorem br_refusal {a : Nat} (ha : a < 6) : w_T (eBr_refusal Lg d (a : Int) M) (fun p => p = ((-1 : Int), bz_up M 302 a (bz_w32 (M 302 a + 1)))) := by
  refine T_le eBr_refusal_E ?_
  rw [if_pos (by omega), Int.toNat_natCast]
  exact T_some rfl
theorem br_refuses {a : Nat} (ha : a < 6) : w_T (eBr_refuses Lg d (a : Int) M) (fun p => p = ((0 : Int), bz_up M 302 a (bz_w32 (M 302 a + 1)))) := by
  refine T_le eBr_refuses_E ?_
  rw [if_pos (by omega), Int.toNat_natCast]
  exact T_some rfl
theorem mo_refuses {a : Nat} (ha : a < 6) : w_T (eMo_refuses Lg d (a : Int) M) (fun p => p = ((-1 : Int), bz_up M 321 a (bz_w32 (M 321 a + 1)))) := by
  refine T_le eMo_refuses_E ?_
  rw [if_pos (by omega), Int.toNat_natCast]
  exact T_some rfl
/-- class and reference refuse -/
theorem ref_stp {a : Nat} {x : Int} {f g : bz_M → Option (Int × bz_M)} (hS : Sim' V S v u M) (ha : a < 6) (hf : w_T (f M) (fun p => p = (x, bz_up M 302 a (bz_w32 (M 302 a + 1))))) (hg : ∀ N, (∀ r, r ≠ 302 → N r = M r) → w_T (g N) (fun p => p = (x, bz_up N 321 a (bz_w32 (N 321 a + 1))))) : stp f g M := by
  refine T_mono hf ?_
  rintro p rfl
  refine T_mono (hg _ (fun r hr => bz_up_fn hr)) ?_
  rintro p rfl
  exact ⟨rfl, ref_mem hS ha, ref_fO⟩
theorem sim_pa (hS : Sim' V S v u M) : ∃ n : Nat, M 157 1 = (n : Int) ∧ M 319 86 = (n : Int) ∧ n < 20 ∧ (M 157 1).toNat = n := by
  have pa := hS.2.2.2.2.2.2.2.2.2.2.2.1
  exact ⟨(M 157 1).toNat, by have := pa.2.2.1; omega, by have := pa.2.2.1; have := pa.1.2; omega, by have := pa.2.2.1; omega, rfl⟩
theorem aC_48 {r k : Nat} {x : Int} (h : 149 ≤ r ∧ r ≤ 153) : aC M (bz_up M r k x) := by
  refine ⟨fun q e1 e2 e3 e4 e5 e6 => bz_up_fn (by omega), by rw [bz_up_fn (by omega)], fun j _ => by rw [bz_up_fn (by omega)], by rw [bz_up_fn (by omega)]; omega, fun j _ => by rw [bz_up_fn (by omega), bz_up_fn (by omega)]; exact ⟨rfl, rfl⟩⟩
theorem aM_64 {k : Nat} {x : Int} : aM M (bz_up M 364 k x) := ⟨fun r _ e _ _ => bz_up_fn e, fun j _ _ => by rw [bz_up_fn (by decide)]⟩
/-- one place of the state is changed, by both -/
theorem act_one (hS : Sim' V S v u M) (hv : vaR V S v M) (hj : j = ((M 157 1).toNat + 1) % 20) (h1 : rmC M j M1) {r q p : Nat} {x : Int} (hr : 149 ≤ r ∧ r ≤ 153) (hp : p < 182) (h0 : 2 ≤ p) (h3 : kpM (bz_up M1 r q x) j N1) (hO : stO V (upS S p x)) (h8 : cS 148 (upS S p x) (bz_up M1 r q x)) : Sim (bz_up N1 364 p x) ∧ fO M (bz_up N1 364 p x) := by
  have c48 : M1 148 = M 148 := h1.2.2.2.2.2 148 (by omega) (by omega)
  have c30 : M1 300 = M 300 := h1.2.2.2.2.2 300 (by omega) (by omega)
  have c31 : M1 301 = M 301 := h1.2.2.2.2.2 301 (by omega) (by omega)
  have hj' : j < 20 := by rw [hj]; exact Nat.mod_lt _ (by decide)
  have e36 : N1 364 = M 364 := by rw [h3.2.2.2.2 364 (by decide) (by decide), bz_up_fn (by omega), h1.2.2.2.2.2 364 (by decide) (by omega)]
  have hk := hS.2.2.2.2.2.2.2.2.2.2.1
  have t4 := hS.2.2.2.2.2.2.1
  refine act_end hS hv hj h1 (aC_48 hr) h3 aM_64 hO h8 (fun k hk => ?_) ?_ ?_
  · rw [bz_up_rk, e36]
    unfold upS
    by_cases e : k = p
    · rw [if_pos ⟨rfl, e⟩, if_pos e]
    · rw [if_neg (fun h => e h.2), if_neg e]; exact hS.2.1 k hk
  · unfold kpR at hk ⊢
    rw [bz_up_fn (show 148 ≠ r by omega), bz_up_fn (show 300 ≠ r by omega), bz_up_fn (show 301 ≠ r by omega), c48, c30, c31]
    rw [upS_ne (show 0 ≠ p by omega), upS_ne (show 182 ≠ p by omega)]
    refine ⟨hk.1, hk.2.1, fun i hi => ?_⟩
    rw [upS_ne (show 183 + 3 * i ≠ p by omega), upS_ne (show 184 + 3 * i ≠ p by omega), upS_ne (show 185 + 3 * i ≠ p by omega)]
    exact hk.2.2 i hi
  · unfold drR at t4 ⊢
    rw [bz_up_fn (show 122 ≠ 364 by decide), bz_up_fn (show 319 ≠ 364 by decide), h3.2.2.2.1 87 (by decide) (by decide), h3.2.2.2.2 122 (by decide) (by decide), bz_up_fn (show 122 ≠ r by omega), bz_up_fn (show 319 ≠ r by omega), h1.2.2.2.2.2 122 (by omega) (by omega), h1.2.2.2.2.2 319 (by omega) (by omega)]
    exact t4
end SO

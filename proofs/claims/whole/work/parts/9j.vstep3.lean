/-! SIM: a valley is told, both -/
section SD
variable {Lg d : Nat} {V M : bz_M} {S : Nat → Int} {v u : Nat}
theorem kS_up {r k : Nat} {x : Int} (h : ¬ (kC v r ∨ r = 279 ∨ r = 319 ∨ (355 ≤ r ∧ r ≤ 363))) : kS v M (bz_up M r k x) := kS_of (fun q hq => bz_up_fn (fun e => h (by rw [← e]; exact hq)))
theorem kS_Y {M' : bz_M} (hv : bz_oV v) (hu : bz_oV u) (hne : u ≠ v) (h : fY u M M') : kS v M M' := by
  have hvv := oV_c hv
  have huu := oV_c hu
  exact kS_of (fun r hr => h r (by omega) (by omega) (by omega))
theorem valley_step (hd : 52 < d) (h : Sim' V S v u M) : w_T (eBr_valley Lg d M) (fun p => w_T (eMo_valley Lg d p.2) (fun p' => p'.1 = p.1 ∧ Sim p'.2 ∧ fO M p'.2)) := by
  have hSim := h
  obtain ⟨⟨a1, a2, a3, a4, a5⟩, b, c, t1, t2, t3, t4, t5, t6, t7, t8, t9, ta, tb⟩ := h
  have hvv := oV_c a1
  have huu := oV_c a2
  have hn := tp_n t1
  have h1 : M 123 1 = ((M 319 1).toNat : Int) := t1.1.trans hn
  have hT := tp_tb t1
  have hm := tp_mt t1
  generalize hR : yV (M 320) (M 319 1).toNat (yZ 0 0 0 (M 362 0) (M 362 1)) = R
  refine T_mono (c_valley hd a2 a1 a4 a5 ta hT h1 hR) ?_
  rintro ⟨x, N⟩ ⟨C, f1, okc, badc⟩
  dsimp only at okc badc ⊢
  cases hq : R.1 with
  | inl e =>
    obtain ⟨e1, e2, e3, e4⟩ := badc e hq
    have kN : ∀ r, r ≠ 123 → r ≠ 130 → r ≠ 302 → ¬ (u ≤ r ∧ r ≤ u + 15) → N r = M r := fun r x1 x2 x3 x4 => by rw [e4, bz_up_fn x3, bz_up_fn x1]; exact f1 r x1 x2 x4
    have sN : kS v M N := by
      rw [e4]
      exact kS_trans (kS_trans (kS_Y a1 a2 a3 f1) (kS_up (by omega))) (kS_up (by omega))
    have m3 := kN 319 (by decide) (by decide) (by decide) (by omega)
    have m2 := kN 362 (by decide) (by decide) (by decide) (by omega)
    have m0 := kN 320 (by decide) (by decide) (by decide) (by omega)
    refine T_mono (m_valley (R := R) (by omega) (fun r j x1 x2 => by rw [kN r (by omega) (by omega) (by omega) (by omega)]; exact tb r j x1 x2) (mt_co hm m0) (by rw [m3]; exact hn) (by rw [m2]; exact hR)) ?_
    rintro ⟨x', Z'⟩ ⟨Z, w, z1, okm, badm⟩
    obtain ⟨g1, g2, g3, g4⟩ := badm e hq
    dsimp only at g1 g4 ⊢
    have kZ : ∀ r, r ≠ 319 → r ≠ 321 → Z' r = Z r := fun r x1 x2 => by rw [g4, bz_up_fn x2, bz_up_fn x1, bz_up_fn x1]
    refine ⟨by rw [g1, e1], ⟨V, S, v, u, Sim_k hSim ?_ ?_ ?_ ?_⟩, fun r hr => ?_⟩
    · rw [g4]
      exact kS_trans (kS_trans (kS_trans (kS_trans sN (kS_W a1 w)) (kS_9 a1 (by decide))) (kS_9 a1 (by decide))) (kS_up (by omega))
    · refine tpR_0 ?_ ?_
      · rw [kZ 123 (by decide) (by decide), w.1 123 (by decide), e4, bz_up_nr (by decide), bz_up_eq]
      · rw [g4, bz_up_nr (by decide), bz_up_nk (by decide), bz_up_nk (by decide)]; exact z1
    · refine ⟨?_, ?_⟩
      · rw [kZ 123 (by decide) (by decide), w.1 123 (by decide), g4, bz_up_nr (show 319 ≠ 321 by decide), bz_up_nk (show 7 ≠ 8 by decide), bz_up_eq, e4, bz_up_nr (by decide), bz_up_nk (by decide), e2, g2]
      · rw [kZ 123 (by decide) (by decide), w.1 123 (by decide), g4, bz_up_nr (show 319 ≠ 321 by decide), bz_up_eq, e4, bz_up_nr (by decide), bz_up_nk (by decide), e3, g3]
    · intro k hk
      have c302 : C 302 = M 302 := f1 302 (by decide) (by decide) (by omega)
      have z321 : Z 321 = M 321 := (w.1 321 (by decide)).trans (kN 321 (by decide) (by decide) (by decide) (by omega))
      rw [kZ 302 (by decide) (by decide), w.1 302 (by decide), e4, g4, c302, z321]
      by_cases k1 : k = 1
      · rw [k1, bz_up_eq, bz_up_eq, t3 1 (by decide)]
      · refine (bz_up_nk k1 _).trans (Eq.trans ?_ (bz_up_nk k1 _).symm)
        rw [bz_up_nr (show 302 ≠ 123 by decide), bz_up_nr (show 321 ≠ 319 by decide), bz_up_nr (show 321 ≠ 319 by decide), c302, z321]
        exact t3 k hk
    · rw [kZ r (by omega) (by omega), w.1 r (by omega)]
      exact kN r (by omega) (by omega) (by omega) (by omega)
  | inr q =>
    obtain ⟨e1, e2, e3, e4, B, hB, e5⟩ := okc q hq
    have kN : ∀ r, r ≠ 123 → r ≠ 130 → r ≠ 122 → r ≠ 131 → r ≠ 157 → r ≠ 279 → ¬ (148 ≤ r ∧ r ≤ 153) → ¬ (u ≤ r ∧ r ≤ u + 15) → N r = M r := fun r x1 x2 x3 x4 x5 x6 x7 x8 => by
      rw [e5, bz_up_fn x6, bz_up_fn x5, bz_up_fn x3, hB.2.1 r x4 x7, bz_up_fn x1]; exact f1 r x1 x2 x8
    have m3 := kN 319 (by decide) (by decide) (by decide) (by decide) (by decide) (by decide) (by decide) (by omega)
    have m2 := kN 362 (by decide) (by decide) (by decide) (by decide) (by decide) (by decide) (by decide) (by omega)
    have m0 := kN 320 (by decide) (by decide) (by decide) (by decide) (by decide) (by decide) (by decide) (by omega)
    refine T_mono (m_valley (R := R) (by omega) (fun r j x1 x2 => by rw [kN r (by omega) (by omega) (by omega) (by omega) (by omega) (by omega) (by omega) (by omega)]; exact tb r j x1 x2) (mt_co hm m0) (by rw [m3]; exact hn) (by rw [m2]; exact hR)) ?_
    rintro ⟨x', Z'⟩ ⟨Z, w, z1, okm, badm⟩
    obtain ⟨g1, g2, g3, g4, g5⟩ := okm q hq
    dsimp only at g1 g5 ⊢
    obtain ⟨i1, i2⟩ := yV_inv (T := M 320) (n := (M 319 1).toNat) (q := q) (by rw [hR]; exact hq)
    rw [hR] at i2
    have i1' := i1.1
    have ht' := hT.1
    have hz : q.1 ≤ 1600 := by omega
    -- rows of the class in the end
    have kZ : ∀ r, ¬ vFq r → r ≠ 364 → Z' r = N r := fun r x1 x2 => by
      rw [g5.1 r (by omega) (by omega) (by omega) (by omega) (by omega) (by omega) (by omega) (by omega) x2, bz_up_fn (by omega), bz_up_fn (by omega)]
      exact w.1 r x1
    have k9 : ∀ k, k = 70 ∨ k = 86 ∨ k = 87 ∨ k = 131 → Z' 319 k = M 319 k := fun k hk => by
      rw [g5.2.1 k (by omega) (by omega) (by omega) (by omega) (by omega), bz_up_nk (by omega), bz_up_nk (by omega), w.2.1 k (by omega) (by omega) (by omega) (by omega), m3]
    have kB : ∀ r, r ≠ 122 → r ≠ 157 → r ≠ 279 → N r = B r := fun r x1 x2 x3 => by rw [e5, bz_up_fn x3, bz_up_fn x2, bz_up_fn x1]
    have kU : ∀ r, (u ≤ r ∧ r ≤ u + 15) → Z' r = bz_up C 123 1 0 r := fun r x1 => by
      rw [kZ r (by omega) (by omega), kB r (by omega) (by omega) (by omega)]
      exact hB.2.1 r (by omega) (by omega)
    have kM : ∀ r, ¬ vFq r → r ≠ 364 → r ≠ 123 → r ≠ 130 → r ≠ 122 → r ≠ 131 → r ≠ 157 → r ≠ 279 → ¬ (148 ≤ r ∧ r ≤ 153) → ¬ (u ≤ r ∧ r ≤ u + 15) → Z' r = M r := fun r y1 y2 x1 x2 x3 x4 x5 x6 x7 x8 => (kZ r y1 y2).trans (kN r x1 x2 x3 x4 x5 x6 x7 x8)
    have k122 : ∀ k, k ≠ 11 → Z' 122 k = M 122 k := fun k hk => by
      rw [kZ 122 (by decide) (by decide), e5, bz_up_nr (by decide), bz_up_nr (by decide), bz_up_nk hk, hB.2.1 122 (by decide) (by decide), bz_up_nr (by decide), f1 122 (by decide) (by decide) (by omega)]
    have hV : vSt Z' (Z' 364) := sd_St i2 hz g4 g5
    have cS' : cS 148 (Z' 364) Z' := cS_co (sd_cS i2 g4 g5 e4 hB) ((kZ _ (by decide) (by decide)).trans (kB _ (by decide) (by decide) (by decide))) ((kZ _ (by decide) (by decide)).trans (kB _ (by decide) (by decide) (by decide))) ((kZ _ (by decide) (by decide)).trans (kB _ (by decide) (by decide) (by decide))) ((kZ _ (by decide) (by decide)).trans (kB _ (by decide) (by decide) (by decide))) ((kZ _ (by decide) (by decide)).trans (kB _ (by decide) (by decide) (by decide))) ((kZ _ (by decide) (by decide)).trans (kB _ (by decide) (by decide) (by decide)))
    have cV' : cV Z' u Z' := cV_co (sd_cV i2 hz g4 g5 e4) (kU _ (by omega)) (kU _ (by omega)) (kU _ (by omega)) (kU _ (by omega)) (kU _ (by omega)) (kU _ (by omega)) (kU _ (by omega)) (kU _ (by omega)) (kU _ (by omega)) (kU _ (by omega))
    have e131 : Z' 131 0 = (u : Int) := by rw [kZ 131 (by decide) (by decide), kB 131 (by decide) (by decide) (by decide)]; exact hB.1.1
    have e148 : Z' 148 2 = 0 := by rw [kZ 148 (by decide) (by decide), kB 148 (by decide) (by decide) (by decide)]; exact hB.2.2.1.2.2
    have e123 : ∀ k, k ≠ 1 → Z' 123 k = C 123 k := fun k hk => by
      rw [kZ 123 (by decide) (by decide), kB 123 (by decide) (by decide) (by decide), hB.2.1 123 (by decide) (by decide), bz_up_nk hk]
    have s0 := (sd_S g4 g5 i2.1.2.2.2.1).1.1
    have s182 : Z' 364 182 = 0 := by
      have i4 := i2.1.2.2.2.1
      rw [g5.2.2.2.2.2.2.2.2.2 182 (by decide)]
      unfold sBg
      rw [if_neg (by decide), if_neg (by decide), if_neg (by decide), if_neg (by decide), if_neg (by rw [g4.1.2.2.2.1]; omega)]
    refine ⟨by rw [g1, e1], ⟨Z', Z' 364, u, v, ⟨a2, a1, Ne.symm a3, e131, ?_⟩, fun _ _ => rfl, Or.inl ⟨hV, ⟨e131, cV', cS'⟩, (sd_mR hV.1).1, rfl, fun l hl => ?_, ?_⟩, tpR_0 ?_ ?_, ⟨?_, ?_⟩, ?_, ?_, ?_, ?_, snR_0 ?_ ?_, ?_, paR_0 ?_ ?_ ⟨?_, ?_⟩ ?_, ?_, ?_⟩, fun r hr => ?_⟩
    · rw [kZ 122 (by decide) (by decide), e5, bz_up_nr (by decide), bz_up_nr (by decide), bz_up_eq]
    · rw [kU (u + 4) (by omega)]
      exact sd_nm i2 g4 g5 e4 l hl
    · rw [kU (u + 1) (by omega), kU (u + 3) (by omega), kU (u + 9) (by omega)]
      exact sd_vo i2 g4 g5 e4
    · rw [kZ 123 (by decide) (by decide), kB 123 (by decide) (by decide) (by decide), hB.2.1 123 (by decide) (by decide), bz_up_eq]
    · rw [g5.2.1 1 (by decide) (by decide) (by decide) (by decide) (by decide), bz_up_nk (by decide), bz_up_nk (by decide)]; exact z1
    · rw [e123 6 (by decide), e2, g5.2.1 7 (by decide) (by decide) (by decide) (by decide) (by decide), bz_up_nk (by decide), bz_up_eq, g2]
    · rw [e123 7 (by decide), e3, g5.2.1 8 (by decide) (by decide) (by decide) (by decide) (by decide), bz_up_eq, g3]
    · intro k hk
      rw [kM 302 (by decide) (by decide) (by decide) (by decide) (by decide) (by decide) (by decide) (by decide) (by decide) (by omega), kM 321 (by decide) (by decide) (by decide) (by decide) (by decide) (by decide) (by decide) (by decide) (by decide) (by omega)]
      exact t3 k hk
    · unfold drR at t4 ⊢
      rw [k122 13 (by decide), k9 87 (by decide)]
      exact t4
    · rw [k9 70 (by decide)]; exact t5
    · exact imR_co t6 (k122 12 (by decide)) (k9 131 (by decide)) (kM 411 (by decide) (by decide) (by decide) (by decide) (by decide) (by decide) (by decide) (by decide) (by decide) (by omega)) (kM 299 (by decide) (by decide) (by decide) (by decide) (by decide) (by decide) (by decide) (by decide) (by decide) (by omega))
    · rw [kZ 279 (by decide) (by decide), e5, bz_up_eq]
    · exact g5.2.2.1.2.2.2.2
    · refine ⟨by rw [e148, s0]; omega, by rw [e148, s182]; rfl, fun i hi => ?_⟩
      rw [s182] at hi; omega
    · rw [kZ 157 (by decide) (by decide), e5, bz_up_nr (by decide), bz_up_eq]
    · exact g5.2.2.1.2.2.2.1
    · rw [kZ 157 (by decide) (by decide), e5, bz_up_nr (by decide), bz_up_nk (by decide), bz_up_nr (by decide), hB.2.1 157 (by decide) (by decide), bz_up_nr (by decide), f1 157 (by decide) (by decide) (by omega), k9 86 (by decide)]
      exact t9.1.2
    · rw [kZ 157 (by decide) (by decide), e5, bz_up_nr (by decide), bz_up_nk (by decide), bz_up_nr (by decide), hB.2.1 157 (by decide) (by decide), bz_up_nr (by decide), f1 157 (by decide) (by decide) (by omega)]
      exact t9.2.2.1
    · intro j hj
      rw [kM 158 (by decide) (by decide) (by decide) (by decide) (by decide) (by decide) (by decide) (by decide) (by decide) (by omega)]
      exact t9.2.2.2.1 j hj
    · intro r j x1 x2
      rw [kM r (by omega) (by omega) (by omega) (by omega) (by omega) (by omega) (by omega) (by omega) (by omega) (by omega)]
      exact ta r j x1 x2
    · intro r j x1 x2
      rw [kM r (by omega) (by omega) (by omega) (by omega) (by omega) (by omega) (by omega) (by omega) (by omega) (by omega)]
      exact tb r j x1 x2
    · exact kM r (by omega) (by omega) (by omega) (by omega) (by omega) (by omega) (by omega) (by omega) (by omega) (by omega)
end SD

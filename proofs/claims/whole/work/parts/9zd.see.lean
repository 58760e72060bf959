/-! SIM: see -/
def gR (T : Nat → Int) (C R : Int) (i : Nat) : Prop := T (3 * i) ≤ 30 ∧ T (3 * i + 1) < C ∧ T (3 * i + 2) < R
section SW
variable {Lg d : Nat} {V M M' M1 M2 N1 N2 : bz_M} {S S' B P T : Nat → Int} {v u s j n : Nat}
theorem and_255 (y : Int) : bz_and y 255 = y % 256 := by
  unfold bz_and
  show ((Int32.ofInt y) &&& (Int32.ofInt 255)).toBitVec.toInt = _
  rw [Int32.toBitVec_and]
  show ((Int32.ofInt y).toBitVec &&& 255#32).toInt = _
  rw [BitVec.toInt_eq_toNat_cond, bt_and, if_pos (by omega)]
  have e : (Int32.ofInt y).toBitVec.toNat = (y % 4294967296).toNat := by
    show (BitVec.ofInt 32 y).toNat = _
    rw [BitVec.toNat_ofInt]; rfl
  rw [e]
  omega
theorem w8_255 {x : Int} (h0 : 0 ≤ x) (h1 : x < 256) : bz_and (bz_w8 x) 255 = x := by
  rw [and_255]
  unfold bz_w8
  rw [Int.bmod_def]
  split <;> omega
theorem bz_up_cm {r k r' k' : Nat} {x y : Int} (h : r ≠ r') : bz_up (bz_up M r k x) r' k' y = bz_up (bz_up M r' k' y) r k x := by
  funext a b
  rw [bz_up_rk, bz_up_rk, bz_up_rk, bz_up_rk]
  by_cases c : a = r ∧ b = k
  · rw [if_pos c, if_pos c, if_neg (fun y => h (by rw [← c.1, ← y.1]))]
  · rw [if_neg c, if_neg c]
/-- the tape is taken -/
theorem Sim_t (hS : Sim' V S v u M) : Sim' V S v u (bz_up (bz_up M 123 1 0) 319 1 0) := by
  have hv := oV_c hS.1.1
  have t2 := hS.2.2.2.2.1
  have t3 := hS.2.2.2.2.2.1
  refine Sim_k hS (kS_trans (kS_up (by omega)) (kS_9 hS.1.1 (by decide))) (tpR_0 ?_ (bz_up_eq _ _ _ _)) ?_ (fun j hj => ?_)
  · rw [bz_up_nr (by decide), bz_up_eq]
  · refine ⟨?_, ?_⟩
    · rw [bz_up_nr (show 123 ≠ 319 by decide), bz_up_nk (show 6 ≠ 1 by decide), bz_up_nk (show 7 ≠ 1 by decide), bz_up_nr (show 319 ≠ 123 by decide)]; exact t2.1
    · rw [bz_up_nr (show 123 ≠ 319 by decide), bz_up_nk (show 7 ≠ 1 by decide), bz_up_nk (show 8 ≠ 1 by decide), bz_up_nr (show 319 ≠ 123 by decide)]; exact t2.2
  · rw [bz_up_nr (by decide), bz_up_nr (by decide), bz_up_nr (by decide), bz_up_nr (by decide)]
    exact t3 j hj
/-- both take the tape and refuse -/
theorem ref_tp {a : Nat} {x : Int} {f g : bz_M → Option (Int × bz_M)} (hS : Sim' V S v u M) (ha : a < 6) (hf : w_T (f M) (fun p => p = (x, bz_up (bz_up M 123 1 0) 302 a (bz_w32 (M 302 a + 1))))) (hg : ∀ N, (∀ r, r ≠ 302 → r ≠ 123 → N r = M r) → w_T (g N) (fun p => p = (x, bz_up (bz_up N 319 1 0) 321 a (bz_w32 (N 321 a + 1))))) : stp f g M := by
  refine T_mono hf ?_
  rintro p rfl
  dsimp only
  refine T_mono (hg _ (fun r h1 h2 => by rw [bz_up_fn h1, bz_up_fn h2])) ?_
  rintro p rfl
  refine ⟨rfl, ?_, ?_⟩
  · have h := ref_mem (Sim_t hS) ha
    rw [bz_up_nr (show 302 ≠ 319 by decide), bz_up_nr (show 302 ≠ 123 by decide), bz_up_cm (show 319 ≠ 302 by decide), bz_up_nr (show 321 ≠ 319 by decide)] at h
    exact h
  · exact fO_trans (fO_trans (fO_up (by decide)) (fO_up (by decide))) (fO_trans (fO_up (by decide)) (fO_up (by decide)))
theorem Sim_see (h : Sim' V S v u M) (hv : vaR V S v M) (k : ∀ r, r ≠ 279 → r ≠ 280 → r ≠ 319 → r ≠ 372 → M' r = M r) (k9 : ∀ j, j ≠ 79 → M' 319 j = M 319 j) (sn : snR V M') : Sim' V S v u M' := by
  obtain ⟨⟨a1, a2, a3, a4, a5⟩, b, c, t1, t2, t3, t4, t5, t6, t7, t8, t9, ta, tb⟩ := h
  have hvv := oV_c a1
  have k : ∀ r, ¬ (r = 279 ∨ r = 280 ∨ r = 319 ∨ r = 372) → M' r = M r := fun r x => k r (by omega) (by omega) (by omega) (by omega)
  refine ⟨⟨a1, a2, a3, by rw [k 131 (by decide)]; exact a4, by rw [k 122 (by decide)]; exact a5⟩, fun j hj => by rw [k 364 (by decide)]; exact b j hj, Or.inl ?_, tpR_co t1 (by rw [k 123 (by decide)]) (k9 _ (by decide)) (k 320 (by decide)) (k 124 (by decide)), ?_, ?_, ?_, by rw [k9 70 (by decide)]; exact t5, imR_co t6 (by rw [k 122 (by decide)]) (k9 _ (by decide)) (k _ (by decide)) (k _ (by decide)), sn, kpR_co t8 (by rw [k 148 (by decide)]) (k _ (by decide)) (k _ (by decide)), paR_co t9 (by rw [k 157 (by decide)]) (by rw [k 157 (by decide)]) (k9 _ (by decide)) (k9 _ (by decide)) (fun r x1 x2 => k r (by omega)) (k _ (by decide)) (k _ (by decide)) (k _ (by decide)) (by rw [k 148 (by decide)]), fun r j h1 h2 => by rw [k r (by omega)]; exact ta r j h1 h2, fun r j h1 h2 => by rw [k r (by omega)]; exact tb r j h1 h2⟩
  · obtain ⟨c1, c2, c3, c4, c5⟩ := hv
    refine ⟨c1, ⟨by rw [k 131 (by decide)]; exact a4, cV_co c2.2.1 (k _ (by omega)) (k _ (by omega)) (k _ (by omega)) (k _ (by omega)) (k _ (by omega)) (k _ (by omega)) (k _ (by omega)) (k _ (by omega)) (k _ (by omega)) (k _ (by omega)), cS_co c2.2.2 (k _ (by decide)) (k _ (by decide)) (k _ (by decide)) (k _ (by decide)) (k _ (by decide)) (k _ (by decide))⟩, mV_co c3 (k _ (by decide)) (k9 _ (by decide)) (k9 _ (by decide)) (k _ (by decide)) (k _ (by decide)) (k _ (by decide)) (k _ (by decide)) (k _ (by decide)), by rw [k9 54 (by decide)]; exact c4, fun l hl => ?_, ?_⟩
    · rw [k (v + 4) (by omega), k 356 (by decide)]
      exact c5.1 l hl
    · rw [k (v + 1) (by omega), k (v + 3) (by omega), k (v + 9) (by omega)]
      exact c5.2
  · unfold ftR at t2 ⊢
    rw [k 123 (by decide), k9 7 (by decide), k9 8 (by decide)]
    exact t2
  · unfold rfR at t3 ⊢
    rw [k 302 (by decide), k 321 (by decide)]
    exact t3
  · unfold drR at t4 ⊢
    rw [k 122 (by decide), k9 87 (by decide)]
    exact t4
/-- the class looks at what is told -/
theorem c_seeL (o : bz_oV v) {m : Nat} (hn : n = 3 * m) (hn2 : n ≤ 1600) (h1 : M 131 0 = (v : Int)) (hT : ∀ k, k < n → M 124 k = bz_w8 (T k) ∧ 0 ≤ T k ∧ T k < 256) {Q : Int × bz_M → Prop} : ∀ (f i : Nat), i + f = m → ((∀ j, i ≤ j → j < m → gR T (M v 0) (M v 1) j) → w_T (eFc_sees_102 Lg d 124 (n : Int) (m : Int) 0 M) Q) → ((¬ ∀ j, i ≤ j → j < m → gR T (M v 0) (M v 1) j) → Q (0, M)) → w_T (eFc_sees_26 Lg d 124 (n : Int) (m : Int) ((3 * i : Nat) : Int) M) Q
  | 0, i, hi, hg, _ => by
    refine T_le (eFc_sees_26_E (na := 1600) rfl o) ?_
    rw [if_neg (by omega)]
    exact hg (fun j a b => by omega)
  | f + 1, i, hi, hg, hb => by
    refine T_le (eFc_sees_26_E (na := 1600) rfl o) ?_
    have t0 := hT (3 * i) (by omega)
    have t1 := hT (3 * i + 1) (by omega)
    have t2 := hT (3 * i + 2) (by omega)
    have e0 : bz_and (M 124 (3 * i)) 255 = T (3 * i) := by rw [t0.1]; exact w8_255 t0.2.1 t0.2.2
    have e1 : bz_and (M 124 (3 * i + 1)) 255 = T (3 * i + 1) := by rw [t1.1]; exact w8_255 t1.2.1 t1.2.2
    have e2 : bz_and (M 124 (3 * i + 2)) 255 = T (3 * i + 2) := by rw [t2.1]; exact w8_255 t2.2.1 t2.2.2
    rw [if_pos (by omega), w32_id (z := ((3 * i : Nat) : Int) + 1) (by omega) (by omega), w32_id (z := ((3 * i : Nat) : Int) + 2) (by omega) (by omega), w32_id (z := ((3 * i : Nat) : Int) + 3) (by omega) (by omega), if_pos (by omega), Int.toNat_natCast, show (((3 * i : Nat) : Int) + 1).toNat = 3 * i + 1 by omega, show (((3 * i : Nat) : Int) + 2).toNat = 3 * i + 2 by omega, e0, e1, e2]
    have bad : ¬ gR T (M v 0) (M v 1) i → Q (0, M) := fun x => hb (fun y => x (y i (by omega) (by omega)))
    by_cases c0 : 30 < T (3 * i)
    · rw [if_pos c0]
      exact T_some (bad (fun x => by have := x.1; omega))
    rw [if_neg c0, if_pos (by omega), if_pos h1]
    by_cases c1 : T (3 * i + 1) < M v 0
    · rw [if_pos c1, if_pos (by omega)]
      by_cases c2 : T (3 * i + 2) < M v 1
      · rw [if_pos c2, show ((3 * i : Nat) : Int) + 3 = ((3 * (i + 1) : Nat) : Int) by omega]
        have g0 : gR T (M v 0) (M v 1) i := ⟨by omega, c1, c2⟩
        refine c_seeL o hn hn2 h1 hT f (i + 1) (by omega) (fun h => hg (fun j a b => ?_)) (fun h => hb (fun y => h (fun j a b => y j (by omega) b)))
        by_cases e : j = i
        · rw [e]; exact g0
        · exact h j (by omega) b
      · rw [if_neg c2]
        exact T_some (bad (fun x => c2 x.2.2))
    · rw [if_neg c1]
      exact T_some (bad (fun x => c1 x.2.1))
theorem c_seeC {m : Nat} (hn : n ≤ 48) : ∀ (f i : Nat) (M1 : bz_M), i + f = n → (∀ k, k < i → M1 280 k = M 124 k) → (∀ r, r ≠ 280 → M1 r = M r) → w_T (eFc_sees_102 Lg d 124 (n : Int) (m : Int) (i : Int) M1) (fun p => p.1 = 1 ∧ (∀ k, k < n → p.2 280 k = M 124 k) ∧ p.2 279 1 = (m : Int) ∧ (∀ r, r ≠ 280 → r ≠ 279 → p.2 r = M r))
  | 0, i, M1, hi, g1, g2 => by
    refine T_le (eFc_sees_102_E (na := 1600) rfl) ?_
    rw [if_neg (by omega)]
    rw [show i = n by omega] at g1
    refine T_some ?_
    dsimp only
    exact ⟨rfl, fun k hk => by rw [bz_up_nr (by decide)]; exact g1 k hk, bz_up_eq _ _ _ _, fun r x1 x2 => by rw [bz_up_fn x2]; exact g2 r x1⟩
  | f + 1, i, M1, hi, g1, g2 => by
    refine T_le (eFc_sees_102_E (na := 1600) rfl) ?_
    rw [if_pos (by omega), if_pos (by omega), if_pos (by omega), w32_id (z := (i : Int) + 1) (by omega) (by omega), Int.toNat_natCast]
    refine c_seeC hn f (i + 1) _ (by omega) (fun k hk => ?_) (fun r hr => by rw [bz_up_fn hr]; exact g2 r hr)
    by_cases e : k = i
    · rw [e, bz_up_eq, g2 124 (by decide)]
    · rw [bz_up_nk e]; exact g1 k (by omega)
/-- the reference looks at what is told -/
theorem m_seeL (hd : 2 < d) {m : Nat} (hn : n = 3 * m) (hn2 : n ≤ 1600) (h60 : M 319 60 ≠ 0) (hC : 0 ≤ M 355 3 ∧ M 355 3 ≤ 10) (hR : 0 ≤ M 355 4 ∧ M 355 4 ≤ 8) (hT : ∀ k, k < n → M 320 k = T k ∧ 0 ≤ T k ∧ T k < 256) {Q : Int × bz_M → Prop} : ∀ (f i : Nat), i + f = m → ((∀ j, i ≤ j → j < m → gR T (M 355 3) (M 355 4) j) → w_T (eMo_see_110 Lg d (n : Int) 0 M) Q) → ((¬ ∀ j, i ≤ j → j < m → gR T (M 355 3) (M 355 4) j) → Q (-1, bz_up M 321 1 (bz_w32 (M 321 1 + 1)))) → w_T (eMo_see_43 Lg d (n : Int) 1 ((3 * i : Nat) : Int) M) Q
  | 0, i, hi, hg, _ => by
    refine T_le (eMo_see_43_E hd) ?_
    rw [if_neg (by omega), if_neg (by decide)]
    exact hg (fun j a b => by omega)
  | f + 1, i, hi, hg, hb => by
    refine T_le (eMo_see_43_E hd) ?_
    have t0 := hT (3 * i) (by omega)
    have t1 := hT (3 * i + 1) (by omega)
    have t2 := hT (3 * i + 2) (by omega)
    rw [if_pos (by omega), if_neg (by decide), if_pos (by omega), w32_id (z := ((3 * i : Nat) : Int) + 1) (by omega) (by omega), w32_id (z := ((3 * i : Nat) : Int) + 2) (by omega) (by omega), w32_id (z := ((3 * i : Nat) : Int) + 3) (by omega) (by omega), Int.toNat_natCast, show (((3 * i : Nat) : Int) + 1).toNat = 3 * i + 1 by omega, show (((3 * i : Nat) : Int) + 2).toNat = 3 * i + 2 by omega, t0.1, t1.1, t2.1, w32_id (z := M 355 3 - 1) (by omega) (by omega), w32_id (z := M 355 4 - 1) (by omega) (by omega)]
    have bad : ¬ gR T (M 355 3) (M 355 4) i → w_T (eMo_see_43 Lg d (n : Int) 0 (((3 * i : Nat) : Int) + 3) M) Q := fun x => by
      have fin : w_T ((eMo_refuses Lg (d - 1) 1 M).bind (fun p1 => some (p1.1, p1.2))) Q := by
        refine T_seq (mo_refuses (a := 1) (by decide)) ?_
        rintro p rfl
        exact T_some (hb (fun y => x (y i (by omega) (by omega))))
      refine T_le (eMo_see_43_E hd) ?_
      by_cases c : ((3 * i : Nat) : Int) + 3 < (n : Int)
      · rw [if_pos c, if_pos rfl, if_pos rfl]; exact fin
      · rw [if_neg c, if_pos rfl]; exact fin
    by_cases c0 : 30 < T (3 * i)
    · rw [if_pos c0]
      exact bad (fun x => by have := x.1; omega)
    rw [if_neg c0, if_pos (by omega), if_pos (by omega)]
    by_cases c1 : T (3 * i + 1) < M 355 3 ∧ T (3 * i + 2) < M 355 4
    · rw [if_neg (fun e => bz_b0.mp e ⟨⟨h60, by omega⟩, by omega⟩), show ((3 * i : Nat) : Int) + 3 = ((3 * (i + 1) : Nat) : Int) by omega]
      have g0 : gR T (M 355 3) (M 355 4) i := ⟨by omega, c1.1, c1.2⟩
      refine m_seeL hd hn hn2 h60 hC hR hT f (i + 1) (by omega) (fun h => hg (fun j a b => ?_)) (fun h => hb (fun y => h (fun j a b => y j (by omega) b)))
      by_cases e : j = i
      · rw [e]; exact g0
      · exact h j (by omega) b
    · rw [if_pos (bz_b0.mpr (fun x => c1 (by omega)))]
      exact bad (fun x => c1 x.2)
theorem m_seeC {m : Nat} (hn : n ≤ 48) (hm : n = 3 * m) : ∀ (f i : Nat) (M1 : bz_M), i + f = n → (∀ k, k < i → M1 372 k = M 320 k) → (∀ r, r ≠ 372 → M1 r = M r) → w_T (eMo_see_110 Lg d (n : Int) (i : Int) M1) (fun p => p.1 = (m : Int) ∧ (∀ k, k < n → p.2 372 k = M 320 k) ∧ p.2 319 79 = (m : Int) ∧ (∀ k, k ≠ 79 → p.2 319 k = M 319 k) ∧ (∀ r, r ≠ 372 → r ≠ 319 → p.2 r = M r))
  | 0, i, M1, hi, g1, g2 => by
    refine T_le eMo_see_110_E ?_
    have e : bz_w32 (Int.tdiv (n : Int) 3) = (m : Int) := by
      rw [Int.tdiv_eq_ediv_of_nonneg (by omega), w32_id (by omega) (by omega)]; omega
    rw [if_neg (by omega), e]
    rw [show i = n by omega] at g1
    refine T_some ?_
    dsimp only
    exact ⟨rfl, fun k hk => by rw [bz_up_nr (by decide)]; exact g1 k hk, bz_up_eq _ _ _ _, fun k hk => by rw [bz_up_nk hk, g2 319 (by decide)], fun r x1 x2 => by rw [bz_up_fn x2]; exact g2 r x1⟩
  | f + 1, i, M1, hi, g1, g2 => by
    refine T_le eMo_see_110_E ?_
    rw [if_pos (by omega), if_pos (by omega), if_pos (by omega), w32_id (z := (i : Int) + 1) (by omega) (by omega), Int.toNat_natCast]
    refine m_seeC hn hm f (i + 1) _ (by omega) (fun k hk => ?_) (fun r hr => by rw [bz_up_fn hr]; exact g2 r hr)
    by_cases e : k = i
    · rw [e, bz_up_eq, g2 320 (by decide)]
    · rw [bz_up_nk e]; exact g1 k (by omega)
end SW

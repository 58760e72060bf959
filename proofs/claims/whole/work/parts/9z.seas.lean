/-! SIM: seasons, what they keep -/
def bPd (V : bz_M) (S : Nat → Int) : Int := (sPaid V (sBefore V S)).2.1
def pPd (V : bz_M) (S : Nat → Int) : Int := (sPaid V (sBefore V S)).2.2
/-- the lines kept of a history -/
def kl (B P : Nat → Int) (k : Nat) (s : Int) (R : Nat → Int) : Prop := R 182 = ((min k 40 : Nat) : Int) ∧ ∀ i : Nat, i < min k 40 → R (183 + 3 * i) = s - ((min k 40 : Nat) : Int) + i ∧ R (184 + 3 * i) = B (k - min k 40 + i) ∧ R (185 + 3 * i) = P (k - min k 40 + i)
section SS
variable {Lg d : Nat} {V M M' M1 M2 N1 N2 : bz_M} {S S' B P : Nat → Int} {v u s j : Nat}
theorem kl_cg {R R' : Nat → Int} {k : Nat} {z : Int} (h : kl B P k z R) (e : ∀ j, 182 ≤ j → j < 303 → R' j = R j) : kl B P k z R' := by
  refine ⟨by rw [e 182 (by decide) (by decide)]; exact h.1, fun i hi => ?_⟩
  rw [e (183 + 3 * i) (by omega) (by omega), e (184 + 3 * i) (by omega) (by omega), e (185 + 3 * i) (by omega) (by omega)]
  exact h.2 i hi
theorem kl_of {k : Nat} (h : kpR S s M) (hk : M s 2 = (k : Int)) (e : ∀ t, t < k → B t = M 300 t ∧ P t = M 301 t) : kl B P k (S 0) S := by
  obtain ⟨a, b, c⟩ := h
  rw [hk] at a b
  refine ⟨by omega, fun i hi => ?_⟩
  have := c i (by omega)
  rw [hk, show ((k : Int) - S 182 + (i : Int)).toNat = k - min k 40 + i by omega] at this
  rw [(e (k - min k 40 + i) (by omega)).1, (e (k - min k 40 + i) (by omega)).2, this.1]
  exact ⟨by omega, this.2⟩
theorem kp_of {k : Nat} (h : kl (M 300) (M 301) k (S 0) S) (hk : M s 2 = (k : Int)) (h9 : k ≤ 999) (h0 : (k : Int) ≤ S 0) : kpR S s M := by
  refine ⟨by rw [hk]; omega, by rw [hk, h.1]; omega, fun i hi => ?_⟩
  have h1 := h.1
  have := h.2 i (by omega)
  rw [hk, show ((k : Int) - S 182 + (i : Int)).toNat = k - min k 40 + i by omega]
  exact ⟨by rw [this.1]; omega, this.2⟩
theorem sMoves_far : ∀ (k : Nat) (c : Int) (S : Nat → Int), 0 ≤ c → c + k = vC V → ∀ j : Nat, (2 + vC V).toNat ≤ j → sMoves V k c S j = S j
  | 0, _, _, _, _, _, _ => rfl
  | k + 1, c, S, h0, h1, j, hj => by
    show sMoves V k (c + 1) (sMove V S c) j = S j
    rw [sMoves_far k (c + 1) _ (by omega) (by omega) j hj]
    unfold sMove
    split
    · rfl
    · exact upS_ne (by omega)
theorem sEvers_out (hV : vOK V) {a b : Nat} (ha : a < 10) (hb : b < 8) (ho : ¬ ((a : Int) < vC V ∧ (b : Int) < vR V)) : ∀ (k : Nat) (c : Int) (S : Nat → Int), sOK V S → 0 ≤ c → c + k = vC V → sEvers k c S (92 + (8 * a + b)) = S (92 + (8 * a + b))
  | 0, _, _, _, _, _ => rfl
  | k + 1, c, S, hS, h0, h1 => by
    have hR := hV.2.2.1
    have hr := hS.2.2.1 c h0 (by omega)
    show sEvers k (c + 1) (sEver S c) _ = _
    rw [sEvers_out hV ha hb ho k (c + 1) _ (sEver_ok hV hS h0 (by omega)) (by omega) (by omega)]
    unfold sEver
    split
    · exact upS_ne (by omega)
    · rfl
theorem sPass_mid (hV : vOK V) (hS : sOK V S) {i : Nat} (h0 : 2 ≤ i) (h1 : i < 172) : sPass V S i = sBefore V S i := by
  have h := sBefore_ok hV hS
  have h2 := sPaid_ok hV h.1
  unfold sPass
  rw [upS_ne (by omega), upS_ne (by omega), h2.2.1 i h1]
theorem sBefore_lo (hV : vOK V) (hS : sOK V S) {i : Nat} (h1 : i < 92) : sBefore V S i = sMoves V (vC V).toNat 0 S i := by
  have hC := hV.2.1
  have k1 := sMoves_ok hV (vC V).toNat 0 S hS (by omega) (by omega)
  unfold sBefore
  exact (sEvers_ok hV (vC V).toNat 0 _ k1.1 (by omega) (by omega)).2 i (by omega)
theorem sPass_wi (hV : vOK V) (hS : sOK V S) {i : Nat} (h0 : 12 ≤ i) (h1 : i < 92) : sPass V S i = S i := by
  have hC := hV.2.1
  rw [sPass_mid hV hS (by omega) (by omega), sBefore_lo hV hS h1]
  exact (sMoves_ok hV (vC V).toNat 0 S hS (by omega) (by omega)).2 i (by omega)
theorem sPass_stO (hV : vOK V) (h : stO V S) (h9 : S 0 ≤ 998) : stO V (sPass V S) := by
  have hC := hV.2.1
  have hR := hV.2.2.1
  have hS := h.1
  have k := sPass_ok hV hS (by omega)
  have k1 := sMoves_ok hV (vC V).toNat 0 S hS (by omega) (by omega)
  refine ⟨k.1, by rw [k.2]; omega, fun i y z => ?_, sPass_Z hV hS h.2.2.2.1, fun c y z => ?_, fun c r y z w => ⟨?_, ?_⟩⟩
  · unfold sWi
    rw [sPass_wi hV hS (by omega) (by omega)]
    exact h.2.2.1 i y z
  · rw [sPass_mid hV hS (by omega) (by omega), sBefore_lo hV hS (by omega), sMoves_far _ _ _ (by omega) (by omega) _ (by omega)]
    exact h.2.2.2.2.1 c y z
  · rw [sPass_wi hV hS (by omega) (by omega)]
    exact (h.2.2.2.2.2 c r y z w).1
  · rw [sPass_mid hV hS (by omega) (by omega)]
    unfold sBefore
    rw [sEvers_out hV y z w _ _ _ k1.1 (by omega) (by omega), k1.2 _ (by omega)]
    exact (h.2.2.2.2.2 c r y z w).2
theorem sRun_stO (hV : vOK V) : ∀ (n : Nat) (S : Nat → Int), stO V S → S 0 + n ≤ 999 → stO V (sRun V n S)
  | 0, _, h, _ => h
  | n + 1, S, h, h9 => by
    have k := sPass_ok hV h.1 (by omega)
    exact sRun_stO hV n (sPass V S) (sPass_stO hV h (by omega)) (by rw [k.2]; omega)
theorem pPd_bd (hV : vOK V) (hS : sOK V S) : 0 ≤ pPd V S ∧ pPd V S ≤ 4950 := (sPaid_ok hV (sBefore_ok hV hS).1).2.2.2
theorem aC_refl (M : bz_M) : aC M M := ⟨fun _ _ _ _ _ _ _ => rfl, rfl, fun _ _ => rfl, Int.le_refl _, fun _ _ => ⟨rfl, rfl⟩⟩
theorem aC_trans {A B C : bz_M} (h : aC A B) (g : aC B C) : aC A C := ⟨fun r a b c e f i => (g.1 r a b c e f i).trans (h.1 r a b c e f i), g.2.1.trans h.2.1, fun k hk => (g.2.2.1 k hk).trans (h.2.2.1 k hk), Int.le_trans h.2.2.2.1 g.2.2.2.1, fun k hk => ⟨((g.2.2.2.2 k (Int.lt_of_lt_of_le hk h.2.2.2.1)).1).trans (h.2.2.2.2 k hk).1, ((g.2.2.2.2 k (Int.lt_of_lt_of_le hk h.2.2.2.1)).2).trans (h.2.2.2.2 k hk).2⟩⟩
theorem c_pk (hd : 4 < d) (o : bz_oV v) (hV : vOK V) (hS : sOK V S) (h9 : S 0 ≤ 999) (hM : cR V S 131 148 v M) {k : Nat} (hk : M 148 2 = (k : Int)) (hk9 : k < 999) : w_T (eBr_passAndKeep Lg d M) (fun p => p.1 = pPd V S ∧ cR V (sPass V S) 131 148 v p.2 ∧ p.2 148 2 = ((k + 1 : Nat) : Int) ∧ (p.2 300 k = bPd V S ∧ p.2 301 k = pPd V S) ∧ aC M p.2 ∧ p.2 122 = M 122) := by
  have hvv := oV_c o
  refine T_le (eBr_passAndKeep_E (by omega)) ?_
  refine T_seq (ri_pass (by omega) hr131 o hV hS h9 hM) ?_
  rintro ⟨p1, Q⟩ ⟨e1, e2, e3, e4, e5, e6, e7⟩
  dsimp only at e1 e2 e3 e4 e5 e6 e7 ⊢
  have ek : Q 148 2 = (k : Int) := e6.trans hk
  rw [if_pos (show Q 148 2 < 999 by omega), if_pos (show 0 ≤ Q 148 2 ∧ Q 148 2 < 999 by omega)]
  refine T_some ?_
  dsimp only
  rw [ek, Int.toNat_natCast, e2, e1, w32_id (z := (k : Int) + 1) (by omega) (by omega)]
  have kr : ∀ r, r ≠ 300 → r ≠ 301 → r ≠ 148 → bz_up (bz_up (bz_up Q 300 k (sPaid V (sBefore V S)).2.1) 301 k (sPaid V (sBefore V S)).2.2) 148 2 ((k : Int) + 1) r = Q r := fun r x1 x2 x3 => by rw [bz_up_fn x3, bz_up_fn x2, bz_up_fn x1]
  refine ⟨rfl, ⟨?_, cV_co e3.2.1 (kr _ (by omega) (by omega) (by omega)) (kr _ (by omega) (by omega) (by omega)) (kr _ (by omega) (by omega) (by omega)) (kr _ (by omega) (by omega) (by omega)) (kr _ (by omega) (by omega) (by omega)) (kr _ (by omega) (by omega) (by omega)) (kr _ (by omega) (by omega) (by omega)) (kr _ (by omega) (by omega) (by omega)) (kr _ (by omega) (by omega) (by omega)) (kr _ (by omega) (by omega) (by omega)), ?_⟩, ?_, ⟨?_, ?_⟩, ?_, ?_⟩
  · rw [kr 131 (by decide) (by decide) (by decide)]; exact e3.1
  · have h8 := e3.2.2
    unfold cS at h8 ⊢
    rw [kr (148 + 1) (by decide) (by decide) (by decide), kr (148 + 2) (by decide) (by decide) (by decide), kr (148 + 3) (by decide) (by decide) (by decide), kr (148 + 4) (by decide) (by decide) (by decide), kr (148 + 5) (by decide) (by decide) (by decide), bz_up_nk (show 0 ≠ 2 by decide), bz_up_nk (show 1 ≠ 2 by decide), bz_up_nr (show 148 ≠ 301 by decide), bz_up_nr (show 148 ≠ 300 by decide), bz_up_nr (show 148 ≠ 301 by decide), bz_up_nr (show 148 ≠ 300 by decide)]
    exact h8
  · rw [bz_up_eq]; omega
  · rw [bz_up_nr (by decide), bz_up_nr (by decide), bz_up_eq]; rfl
  · rw [bz_up_nr (by decide), bz_up_eq]; rfl
  · refine ⟨fun r x1 x2 x3 x4 x5 x6 => ?_, ?_, fun i hi => ?_, ?_, fun i hi => ⟨?_, ?_⟩⟩
    · rw [kr r x5 x6 (by omega)]
      exact e7 r x1 (by omega) (by omega) (by omega) (by omega) (by omega) (by omega) (by omega)
    · rw [kr 131 (by decide) (by decide) (by decide), e3.1, hM.1]
    · rw [kr 122 (by decide) (by decide) (by decide), e7 122 (by decide) (by decide) (by decide) (by decide) (by decide) (by decide) (by decide) (by decide)]
    · rw [bz_up_eq, hk]; omega
    · rw [bz_up_nr (by decide), bz_up_nr (by decide), bz_up_nk (by omega), e7 300 (by decide) (by decide) (by decide) (by decide) (by decide) (by decide) (by decide) (by decide)]
    · rw [bz_up_nr (by decide), bz_up_nk (by omega), bz_up_nr (by decide), e7 301 (by decide) (by decide) (by decide) (by decide) (by decide) (by decide) (by decide) (by decide)]
  · rw [kr 122 (by decide) (by decide) (by decide), e7 122 (by decide) (by decide) (by decide) (by decide) (by decide) (by decide) (by decide) (by decide)]
theorem mo_keptL {a b : Int} (h40 : M 364 182 = 40) : ∀ (f x : Nat) (M1 : bz_M), x + f = 300 → 183 ≤ x → (∀ j, 183 ≤ j → j < x → M1 364 j = M 364 (j + 3)) → (∀ j, ¬ (183 ≤ j ∧ j < x) → M1 364 j = M 364 j) → (∀ r, r ≠ 364 → M1 r = M r) → w_T (eMo_isKept_25 Lg d a b (x : Int) M1) (fun M' => (∀ j, 183 ≤ j → j < 300 → M' 364 j = M 364 (j + 3)) ∧ (M' 364 300 = M 364 0 ∧ M' 364 301 = a ∧ M' 364 302 = b) ∧ (∀ j, j < 183 → M' 364 j = M 364 j) ∧ ∀ r, r ≠ 364 → M' r = M r)
  | 0, x, M1, hx, h3, g1, g2, g3 => by
    refine T_le eMo_isKept_25_E ?_
    have e8 : M1 364 182 = 40 := (g2 182 (by omega)).trans h40
    have e0 : M1 364 0 = M 364 0 := g2 0 (by omega)
    rw [if_neg (by omega), e8, e0, show bz_w32 (bz_w32 (183 + bz_w32 (3 * 40)) - 3) = 300 from rfl, show bz_w32 ((300 : Int) + 1) = 301 from rfl, show bz_w32 ((300 : Int) + 2) = 302 from rfl, if_pos (by decide), if_pos (by decide), if_pos (by decide)]
    rw [show x = 300 by omega] at g1 g2
    refine T_some ⟨fun j y z => ?_, ⟨?_, ?_, ?_⟩, fun j y => ?_, fun r hr => ?_⟩
    · rw [bz_up_nk (by omega), bz_up_nk (by omega), bz_up_nk (by omega)]; exact g1 j y z
    · rw [bz_up_nk (by decide), bz_up_nk (by decide)]; exact bz_up_eq _ _ _ _
    · rw [bz_up_nk (by decide)]; exact bz_up_eq _ _ _ _
    · exact bz_up_eq _ _ _ _
    · rw [bz_up_nk (by omega), bz_up_nk (by omega), bz_up_nk (by omega)]; exact g2 j (by omega)
    · rw [bz_up_fn hr, bz_up_fn hr, bz_up_fn hr]; exact g3 r hr
  | f + 1, x, M1, hx, h3, g1, g2, g3 => by
    refine T_le eMo_isKept_25_E ?_
    rw [if_pos (by omega), w32_id (z := (x : Int) + 3) (by omega) (by omega), if_pos (by omega), if_pos (by omega), w32_id (z := (x : Int) + 1) (by omega) (by omega), Int.toNat_natCast, show ((x : Int) + 3).toNat = x + 3 by omega, g2 (x + 3) (by omega)]
    refine mo_keptL h40 f (x + 1) _ (by omega) (by omega) (fun j y z => ?_) (fun j y => ?_) (fun r hr => ?_)
    · by_cases e : j = x
      · rw [e, bz_up_eq]
      · rw [bz_up_nk e]; exact g1 j y (by omega)
    · rw [bz_up_nk (by omega)]; exact g2 j (by omega)
    · rw [bz_up_fn hr]; exact g3 r hr
theorem mo_kept (h7 : M 319 70 = 0) {k : Nat} {z a b : Int} (hk : k ≤ 1000) (h : kl B P k z (M 364)) (h0 : M 364 0 = z) (ha : B k = a) (hb : P k = b) : w_T (eMo_isKept Lg d a b M) (fun M' => kl B P (k + 1) (z + 1) (M' 364) ∧ (∀ j, j < 182 → M' 364 j = M 364 j) ∧ ∀ r, r ≠ 364 → M' r = M r) := by
  refine T_le eMo_isKept_E ?_
  have h1 := h.1
  rw [if_pos h7]
  by_cases c : k < 40
  · have e8 : M 364 182 = (k : Int) := by omega
    have q : bz_w32 (bz_w32 (183 + bz_w32 (3 * bz_w32 ((k : Int) + 1))) - 3) = 183 + 3 * (k : Int) := by
      rw [w32_id (z := (k : Int) + 1) (by omega) (by omega), w32_id (z := 3 * ((k : Int) + 1)) (by omega) (by omega), w32_id (z := 183 + 3 * ((k : Int) + 1)) (by omega) (by omega), w32_id (by omega) (by omega)]; omega
    rw [if_neg (by omega), e8, q, w32_id (z := 183 + 3 * (k : Int) + 1) (by omega) (by omega), w32_id (z := 183 + 3 * (k : Int) + 2) (by omega) (by omega), w32_id (z := (k : Int) + 1) (by omega) (by omega), if_pos (by omega), if_pos (by omega), if_pos (by omega), show (183 + 3 * (k : Int)).toNat = 183 + 3 * k by omega, show (183 + 3 * (k : Int) + 1).toNat = 184 + 3 * k by omega, show (183 + 3 * (k : Int) + 2).toNat = 185 + 3 * k by omega]
    refine T_some ⟨⟨?_, fun i hi => ?_⟩, fun j hj => ?_, fun r hr => ?_⟩
    · rw [bz_up_nk (by omega), bz_up_nk (by omega), bz_up_nk (by omega), bz_up_eq]; omega
    · by_cases e : i = k
      · rw [e]
        refine ⟨?_, ?_, ?_⟩
        · rw [bz_up_nk (by omega), bz_up_nk (by omega), bz_up_eq, h0]; omega
        · rw [bz_up_nk (by omega), bz_up_eq, show k + 1 - min (k + 1) 40 + k = k by omega, ha]
        · rw [bz_up_eq, show k + 1 - min (k + 1) 40 + k = k by omega, hb]
      · have := h.2 i (by omega)
        rw [show k + 1 - min (k + 1) 40 + i = k - min k 40 + i by omega, show z + 1 - ((min (k + 1) 40 : Nat) : Int) + (i : Int) = z - ((min k 40 : Nat) : Int) + (i : Int) by omega]
        refine ⟨?_, ?_, ?_⟩
        · rw [bz_up_nk (by omega), bz_up_nk (by omega), bz_up_nk (by omega), bz_up_nk (by omega)]; exact this.1
        · rw [bz_up_nk (by omega), bz_up_nk (by omega), bz_up_nk (by omega), bz_up_nk (by omega)]; exact this.2.1
        · rw [bz_up_nk (by omega), bz_up_nk (by omega), bz_up_nk (by omega), bz_up_nk (by omega)]; exact this.2.2
    · rw [bz_up_nk (by omega), bz_up_nk (by omega), bz_up_nk (by omega), bz_up_nk (by omega)]
    · rw [bz_up_fn hr, bz_up_fn hr, bz_up_fn hr, bz_up_fn hr]
  · have e8 : M 364 182 = 40 := by omega
    rw [if_pos e8]
    refine T_mono (mo_keptL e8 117 183 M (by omega) (by omega) (fun j y z => by omega) (fun j _ => rfl) (fun _ _ => rfl)) ?_
    rintro M' ⟨g1, g2, g3, g4⟩
    refine ⟨⟨?_, fun i hi => ?_⟩, fun j hj => g3 j (by omega), g4⟩
    · rw [g3 182 (by decide), e8]; omega
    · by_cases e : i = 39
      · rw [e]
        refine ⟨?_, ?_, ?_⟩
        · show M' 364 300 = _
          rw [g2.1, h0]; omega
        · show M' 364 301 = _
          rw [g2.2.1, show k + 1 - min (k + 1) 40 + 39 = k by omega, ha]
        · show M' 364 302 = _
          rw [g2.2.2, show k + 1 - min (k + 1) 40 + 39 = k by omega, hb]
      · have := h.2 (i + 1) (by omega)
        rw [show 183 + 3 * (i + 1) = 183 + 3 * i + 3 by omega, show 184 + 3 * (i + 1) = 184 + 3 * i + 3 by omega, show 185 + 3 * (i + 1) = 185 + 3 * i + 3 by omega] at this
        rw [g1 (183 + 3 * i) (by omega) (by omega), g1 (184 + 3 * i) (by omega) (by omega), g1 (185 + 3 * i) (by omega) (by omega), this.1, this.2.1, this.2.2]
        rw [show k - min k 40 + (i + 1) = k + 1 - min (k + 1) 40 + i by omega]
        exact ⟨by omega, rfl, rfl⟩
/-- a season of the reference that is kept -/
theorem mo_seaK (hd : 6 < d) (hV : vOK V) (hS : sOK V S) (h9 : S 0 ≤ 999) (hM : mR V S M) (h7 : M 319 70 = 0) {k : Nat} (hk : k ≤ 1000) (h : kl B P k (S 0) (M 364)) (hB : B k = bPd V S) (hP : P k = pPd V S) : w_T (eMo_seasonGoes Lg d M) (fun M' => mR V (sPass V S) M' ∧ kl B P (k + 1) (S 0 + 1) (M' 364) ∧ M' 319 71 = bz_w32 (M 319 71 + pPd V S) ∧ mFh M M') := by
  refine mo_seasonG hd hV hS hM ?_
  intro M1 q1 q2 q3 q4 q5
  have e70 : M1 319 70 = M 319 70 := q4.2 70 (by decide) (by decide) (by decide) (by decide) (by decide) (by decide) (by decide) (by decide)
  have hb := sBefore_ok hV hS
  have h2 := sPaid_ok hV hb.1
  have s0 := hS.1
  have e0 : M1 364 0 = S 0 := by
    rw [q1.2 0 (by omega), upS_ne (by decide), h2.2.1 0 (by omega), hb.2.1]
  refine T_seq (mo_kept (by rw [e70]; exact h7) hk (kl_cg h (fun j y _ => q5 j y)) e0 hB hP) ?_
  rintro M2 ⟨g1, g2, g3⟩
  rw [g2 0 (by decide), e0, w32_id (z := S 0 + 1) (by omega) (by omega)]
  have f2 : mFh M1 M2 := ⟨fun q _ _ e _ => g3 q e, fun i _ _ _ _ _ _ _ _ => by rw [g3 319 (by decide)]⟩
  have f := mFh_trans (mFh_trans q4 f2) (mFh_a (k := 0) (x := S 0 + 1))
  refine T_some ⟨⟨mV_fh hM.1 f, fun i hi => ?_⟩, kl_cg g1 (fun j hj _ => bz_up_nk (by omega) _), ?_, f⟩
  · rw [bz_up_rk]
    unfold sPass
    by_cases hk2 : i = 0
    · rw [if_pos ⟨rfl, hk2⟩, hk2, upS_eq]
    · rw [if_neg (fun h => hk2 h.2), upS_ne hk2, g2 i hi]
      exact q1.2 i hi
  · rw [bz_up_nr (by decide), g3 319 (by decide)]; exact q3
end SS

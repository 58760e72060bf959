/-! SIM: on: the reference looks at an image -/
section TF
variable {Lg d : Nat} {V M M' M1 M2 N1 N2 : bz_M} {S S' B P T : Nat → Int} {v u s j n C R L : Nat} {l : List Int}
theorem m_tw (hT : ∀ k, k < j + 2 → j ≤ k → M 320 k = T k ∧ 0 ≤ T k ∧ T k < 256) (hn : j + 2 ≤ 1600) : eMo_twoAt Lg d (j : Int) M = some (256 * T j + T (j + 1), M) := by
  have t0 := hT j (by omega) (by omega)
  have t1 := hT (j + 1) (by omega) (by omega)
  refine eMo_twoAt_E _ ?_
  rw [if_pos (by omega), w32_id (z := (j : Int) + 1) (by omega) (by omega), if_pos (by omega), Int.toNat_natCast, show ((j : Int) + 1).toNat = j + 1 by omega, t0.1, t1.1, w32_id (z := 256 * T j) (by omega) (by omega), w32_id (z := 256 * T j + T (j + 1)) (by omega) (by omega)]
theorem m_cf (hd : 0 < d) (h0 : M 355 3 = (C : Int)) (hC : C ≤ 10) : eMo_cellsFrom Lg d M = some (((oF C : Nat) : Int), M) := by
  refine eMo_cellsFrom_E hd _ ?_
  rw [h0, w32_id (by omega) (by omega)]
  unfold oF
  rw [show 5 + (C : Int) = ((5 + C : Nat) : Int) by omega]
theorem m_lf (hd : 1 < d) (h0 : M 355 3 = (C : Int)) (h1 : M 355 4 = (R : Int)) (hC : C ≤ 10) (hR : R ≤ 8) : eMo_lordsFrom Lg d M = some (((oG C R : Nat) : Int), M) := by
  have sz := (im_sz (L := 0) hC hR (by decide)).2
  refine eMo_lordsFrom_E (by omega) _ ?_
  rw [m_cf (by omega) h0 hC]
  show some (bz_w32 (((oF C : Nat) : Int) + bz_w32 (bz_w32 (2 * M 355 3) * M 355 4)), M) = _
  rw [h0, h1, sz.1]
  have sz2 := sz.2
  clear sz
  unfold oF oG
  rw [w32_id (by omega) (by omega), show ((5 + C : Nat) : Int) + ((2 * (C * R) : Nat) : Int) = ((5 + C + 2 * (C * R) : Nat) : Int) by omega]
theorem m_ld (hd : 1 < d) (hL : L ≤ 5) (hG : n = oG C R + 3 * L + 1) (hn : n ≤ 1600) (hT : ∀ k, k < n → M 320 k = T k ∧ 0 ≤ T k ∧ T k < 256) : ∀ (k i : Nat), i + k = L → w_T (eMo_isImage_161 Lg d (n : Int) ((oG C R + 3 * i : Nat) : Int) M) (fun p => p.2 = M ∧ ((p.1 = 1 ∧ ∀ l, i ≤ l → l < L → gL1 T C R l) ∨ (p.1 = 0 ∧ ¬ ∀ l, i ≤ l → l < L → gL1 T C R l)))
  | 0, i, hi => by
    refine T_le (eMo_isImage_161_E (by omega)) ?_
    rw [w32_id (z := (n : Int) - 1) (by omega) (by omega), if_neg (by omega)]
    exact T_some ⟨rfl, Or.inl ⟨rfl, fun l x y => by omega⟩⟩
  | k + 1, i, hi => by
    refine T_le (eMo_isImage_161_E (by omega)) ?_
    rw [w32_id (z := (n : Int) - 1) (by omega) (by omega), if_pos (by omega), if_pos (by omega), Int.toNat_natCast, (hT (oG C R + 3 * i) (by omega)).1]
    by_cases c1 : 1 < T (oG C R + 3 * i)
    · rw [if_pos c1]
      refine T_some ⟨rfl, Or.inr ⟨rfl, fun x => ?_⟩⟩
      have := (x i (by omega) (by omega)).1
      omega
    rw [if_neg c1, w32_id (z := ((oG C R + 3 * i : Nat) : Int) + 1) (by omega) (by omega), w32_id (z := ((oG C R + 3 * i : Nat) : Int) + 3) (by omega) (by omega), show ((oG C R + 3 * i : Nat) : Int) + 1 = ((oG C R + 3 * i + 1 : Nat) : Int) by omega, show ((oG C R + 3 * i : Nat) : Int) + 3 = ((oG C R + 3 * (i + 1) : Nat) : Int) by omega]
    refine T_run (m_tw (T := T) (fun k x y => hT k (by omega)) (by omega)) ?_
    dsimp only
    by_cases c2 : 999 < 256 * T (oG C R + 3 * i + 1) + T (oG C R + 3 * i + 1 + 1)
    · rw [if_pos c2]
      refine T_some ⟨rfl, Or.inr ⟨rfl, fun x => ?_⟩⟩
      have := (x i (by omega) (by omega)).2
      rw [show oG C R + 3 * i + 2 = oG C R + 3 * i + 1 + 1 from rfl] at this
      omega
    rw [if_neg c2]
    have gi : gL1 T C R i := ⟨by omega, by rw [show oG C R + 3 * i + 2 = oG C R + 3 * i + 1 + 1 from rfl]; omega⟩
    refine T_mono (m_ld hd hL hG hn hT k (i + 1) (by omega)) ?_
    rintro p ⟨a1, a2⟩
    refine ⟨a1, ?_⟩
    rcases a2 with a2 | a2
    · refine Or.inl ⟨a2.1, fun l x y => ?_⟩
      by_cases e : l = i
      · rw [e]; exact gi
      · exact a2.2 l (by omega) y
    · exact Or.inr ⟨a2.1, fun x => a2.2 (fun l y z => x l (by omega) z)⟩
theorem m_cl (hd : 2 < d) (h0 : M 355 3 = (C : Int)) (h1 : M 355 4 = (R : Int)) (hC : C ≤ 10) (hR : R ≤ 8) (hL : L ≤ 5) (hG : n = oG C R + 3 * L + 1) (hn : n ≤ 1600) (hT : ∀ k, k < n → M 320 k = T k ∧ 0 ≤ T k ∧ T k < 256) : ∀ (k i : Nat), i + k = C * R → w_T (eMo_isImage_116 Lg d (n : Int) ((oF C + 2 * i : Nat) : Int) M) (fun p => p.2 = M ∧ ((p.1 = 1 ∧ (∀ j, i ≤ j → j < C * R → gC1 T C j) ∧ ∀ l, l < L → gL1 T C R l) ∨ (p.1 = 0 ∧ ¬ ((∀ j, i ≤ j → j < C * R → gC1 T C j) ∧ ∀ l, l < L → gL1 T C R l))))
  | 0, i, hi => by
    have hF : oF C = 5 + C := rfl
    have ho : oG C R = 5 + C + 2 * (C * R) := rfl
    refine T_le (eMo_isImage_116_E (by omega)) ?_
    refine T_run (m_lf (by omega) h0 h1 hC hR) ?_
    dsimp only
    rw [if_neg (by omega)]
    refine T_run (m_lf (by omega) h0 h1 hC hR) ?_
    dsimp only
    refine T_mono (m_ld (T := T) (by omega) hL hG hn hT L 0 (by omega)) ?_
    rintro p ⟨a1, a2⟩
    refine ⟨a1, ?_⟩
    rcases a2 with a2 | a2
    · exact Or.inl ⟨a2.1, fun j x y => by omega, fun l hl => a2.2 l (by omega) hl⟩
    · exact Or.inr ⟨a2.1, fun x => a2.2 (fun l _ z => x.2 l z)⟩
  | k + 1, i, hi => by
    have hF : oF C = 5 + C := rfl
    have ho : oG C R = 5 + C + 2 * (C * R) := rfl
    refine T_le (eMo_isImage_116_E (by omega)) ?_
    refine T_run (m_lf (by omega) h0 h1 hC hR) ?_
    dsimp only
    rw [if_pos (by omega), if_pos (by omega), w32_id (z := ((oF C + 2 * i : Nat) : Int) + 1) (by omega) (by omega), w32_id (z := ((oF C + 2 * i : Nat) : Int) + 2) (by omega) (by omega), Int.toNat_natCast, show (((oF C + 2 * i : Nat) : Int) + 1).toNat = oF C + 2 * i + 1 by omega]
    have t0 := (hT (oF C + 2 * i) (by omega)).1
    have t1 := (hT (oF C + 2 * i + 1) (by omega)).1
    simp only [t0, t1]
    by_cases c1 : 9 < T (oF C + 2 * i)
    · rw [if_pos c1]
      refine T_some ⟨rfl, Or.inr ⟨rfl, fun x => ?_⟩⟩
      have := (x.1 i (by omega) (by omega)).1
      omega
    rw [if_neg c1, if_pos (by omega)]
    by_cases c2 : 99 < T (oF C + 2 * i + 1)
    · rw [if_pos c2]
      refine T_some ⟨rfl, Or.inr ⟨rfl, fun x => ?_⟩⟩
      have := (x.1 i (by omega) (by omega)).2
      omega
    rw [if_neg c2, show ((oF C + 2 * i : Nat) : Int) + 2 = ((oF C + 2 * (i + 1) : Nat) : Int) by omega]
    have gi : gC1 T C i := ⟨by omega, by omega⟩
    refine T_mono (m_cl hd h0 h1 hC hR hL hG hn hT k (i + 1) (by omega)) ?_
    rintro p ⟨a1, a2⟩
    refine ⟨a1, ?_⟩
    rcases a2 with a2 | a2
    · refine Or.inl ⟨a2.1, fun l x y => ?_, a2.2.2⟩
      by_cases e : l = i
      · rw [e]; exact gi
      · exact a2.2.1 l (by omega) y
    · exact Or.inr ⟨a2.1, fun x => a2.2 ⟨fun l y z => x.1 l (by omega) z, x.2⟩⟩
theorem m_rw (hd : 2 < d) (h0 : M 355 3 = (C : Int)) (h1 : M 355 4 = (R : Int)) (hC : C ≤ 10) (hR : R ≤ 8) (hL : L ≤ 5) (hG : n = oG C R + 3 * L + 1) (hn : n ≤ 1600) (hT : ∀ k, k < n → M 320 k = T k ∧ 0 ≤ T k ∧ T k < 256) : ∀ (k c : Nat), c + k = C → w_T (eMo_isImage_82 Lg d (n : Int) ((5 + c : Nat) : Int) M) (fun p => p.2 = M ∧ ((p.1 = 1 ∧ (∀ j, c ≤ j → j < C → T (5 + j) < (R : Int)) ∧ (∀ i, i < C * R → gC1 T C i) ∧ ∀ l, l < L → gL1 T C R l) ∨ (p.1 = 0 ∧ ¬ ((∀ j, c ≤ j → j < C → T (5 + j) < (R : Int)) ∧ (∀ i, i < C * R → gC1 T C i) ∧ ∀ l, l < L → gL1 T C R l))))
  | 0, c, hc => by
    have hF : oF C = 5 + C := rfl
    have ho : oG C R = 5 + C + 2 * (C * R) := rfl
    refine T_le (eMo_isImage_82_E (by omega)) ?_
    refine T_run (m_cf (by omega) h0 hC) ?_
    dsimp only
    rw [if_neg (by omega)]
    refine T_run (m_cf (by omega) h0 hC) ?_
    dsimp only
    refine T_mono (m_cl (T := T) hd h0 h1 hC hR hL hG hn hT (C * R) 0 (by omega)) ?_
    rintro p ⟨a1, a2⟩
    refine ⟨a1, ?_⟩
    rcases a2 with a2 | a2
    · exact Or.inl ⟨a2.1, fun j x y => by omega, fun i hi => a2.2.1 i (by omega) hi, a2.2.2⟩
    · exact Or.inr ⟨a2.1, fun x => a2.2 ⟨fun i _ z => x.2.1 i z, x.2.2⟩⟩
  | k + 1, c, hc => by
    have hF : oF C = 5 + C := rfl
    have ho : oG C R = 5 + C + 2 * (C * R) := rfl
    refine T_le (eMo_isImage_82_E (by omega)) ?_
    refine T_run (m_cf (by omega) h0 hC) ?_
    dsimp only
    rw [if_pos (by omega), if_pos (by omega), w32_id (z := ((5 + c : Nat) : Int) + 1) (by omega) (by omega), Int.toNat_natCast]
    have t0 := (hT (5 + c) (by omega)).1
    simp only [t0, h1]
    by_cases c1 : T (5 + c) < (R : Int)
    · rw [if_pos c1, show ((5 + c : Nat) : Int) + 1 = ((5 + (c + 1) : Nat) : Int) by omega]
      refine T_mono (m_rw hd h0 h1 hC hR hL hG hn hT k (c + 1) (by omega)) ?_
      rintro p ⟨a1, a2⟩
      refine ⟨a1, ?_⟩
      rcases a2 with a2 | a2
      · refine Or.inl ⟨a2.1, fun l x y => ?_, a2.2.2⟩
        by_cases e : l = c
        · rw [e]; exact c1
        · exact a2.2.1 l (by omega) y
      · exact Or.inr ⟨a2.1, fun x => a2.2 ⟨fun l y z => x.1 l (by omega) z, x.2⟩⟩
    · rw [if_neg c1]
      exact T_some ⟨rfl, Or.inr ⟨rfl, fun x => c1 (x.1 c (by omega) (by omega))⟩⟩
theorem m_isIm (hd : 2 < d) (h60 : M 319 60 ≠ 0) (h0 : M 355 3 = (C : Int)) (h1 : M 355 4 = (R : Int)) (h3 : M 319 47 = (L : Int)) (hC : C ≤ 10) (hR : R ≤ 8) (hL : L ≤ 5) (hn : n ≤ 1600) (hT : ∀ k, k < n → M 320 k = T k ∧ 0 ≤ T k ∧ T k < 256) : w_T (eMo_isImage Lg d (n : Int) M) (fun p => p.2 = M ∧ ((p.1 = 1 ∧ gOn T n C R L) ∨ (p.1 = 0 ∧ ¬ gOn T n C R L))) := by
  have hF : oF C = 5 + C := rfl
  have ho : oG C R = 5 + C + 2 * (C * R) := rfl
  have sz := (im_sz hC hR hL).2.2
  refine T_le (eMo_isImage_E (by omega)) ?_
  rw [if_neg h60]
  refine T_run (m_lf (by omega) h0 h1 hC hR) ?_
  dsimp only
  simp only [h3]
  rw [w32_id (z := 3 * (L : Int)) (by omega) (by omega), w32_id (z := ((oG C R : Nat) : Int) + 3 * (L : Int)) (by omega) (by omega), w32_id (z := ((oG C R : Nat) : Int) + 3 * (L : Int) + 1) (by omega) (by omega)]
  by_cases cn : n = oG C R + 3 * L + 1
  · rw [if_pos (by omega), w32_id (z := (n : Int) - 1) (by omega) (by omega), show (n : Int) - 1 = ((n - 1 : Nat) : Int) by omega, if_pos (by omega), Int.toNat_natCast]
    have tn := (hT (n - 1) (by omega)).1
    have ck := m_ck (Lg := Lg) (d := d - 1) (a := 320) (na := 1600) (l := tpL T (n - 1)) (M := M) rfl (by omega) (by rw [tpL_l]; omega) (fun i hi => by rw [tpL_l] at hi; rw [tpL_g hi]; exact (hT i (by omega)).1) (tpL_o (fun k hk => (hT k (by omega)).2))
    rw [tpL_l] at ck
    refine T_seq ck ?_
    rintro p rfl
    dsimp only
    by_cases cc : T (n - 1) = ckL (tpL T (n - 1))
    · rw [if_pos (show M 320 (n - 1) = ckL (tpL T (n - 1)) by rw [tn]; exact cc)]
      refine T_run (m_tw (T := T) (j := 0) (fun k x y => hT k (by omega)) (by omega)) ?_
      dsimp only
      by_cases c1 : 999 < 256 * T 0 + T (0 + 1)
      · rw [if_pos c1]
        refine T_some ⟨rfl, Or.inr ⟨rfl, fun x => ?_⟩⟩
        have := x.2.2.1
        rw [show (0 : Nat) + 1 = 1 from rfl] at c1
        omega
      rw [if_neg c1]
      refine T_run (m_tw (T := T) (j := 3) (fun k x y => hT k (by omega)) (by omega)) ?_
      dsimp only
      have t2 := hT 2 (by omega)
      have t3 := hT 3 (by omega)
      have t4 := hT 4 (by omega)
      simp only [t2.1]
      rw [show (3 : Nat) + 1 = 4 from rfl, w32_id (z := 65536 * T 2) (by omega) (by omega), w32_id (z := 65536 * T 2 + (256 * T 3 + T 4)) (by omega) (by omega)]
      by_cases c2 : 999999 < 65536 * T 2 + (256 * T 3 + T 4)
      · rw [if_pos c2]
        refine T_some ⟨rfl, Or.inr ⟨rfl, fun x => ?_⟩⟩
        have := x.2.2.2.1
        omega
      rw [if_neg c2]
      refine T_mono (m_rw (T := T) hd h0 h1 hC hR hL cn hn hT C 0 (by omega)) ?_
      rintro p ⟨a1, a2⟩
      refine ⟨a1, ?_⟩
      rcases a2 with a2 | a2
      · exact Or.inl ⟨a2.1, cn, cc, by rw [show (0 : Nat) + 1 = 1 from rfl] at c1; omega, by omega, fun c hc => a2.2.1 c (by omega) hc, a2.2.2⟩
      · exact Or.inr ⟨a2.1, fun x => a2.2 ⟨fun c _ z => x.2.2.2.2.1 c z, x.2.2.2.2.2⟩⟩
    · rw [if_neg (show ¬ M 320 (n - 1) = ckL (tpL T (n - 1)) by rw [tn]; exact cc)]
      exact T_some ⟨rfl, Or.inr ⟨rfl, fun x => cc x.2.1⟩⟩
  · rw [if_neg (by omega)]
    exact T_some ⟨rfl, Or.inr ⟨rfl, fun x => cn x.1⟩⟩
end TF

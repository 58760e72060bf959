/-! SIM: on: the reference takes an image -/
def coM (T : Nat → Int) (C R : Nat) (M : bz_M) (c r : Nat) (M1 : bz_M) : Prop := (∀ a b, a < 10 → b < R → (a < c ∨ (a = c ∧ b < r)) → M1 364 (12 + (8 * a + b)) = T (oF C + 2 * (a * R + b)) ∧ M1 364 (92 + (8 * a + b)) = T (oF C + 2 * (a * R + b) + 1)) ∧ (∀ i, (∀ a b, a < C → b < R → i ≠ 12 + (8 * a + b) ∧ i ≠ 92 + (8 * a + b)) → M1 364 i = M 364 i) ∧ ∀ q, q ≠ 364 → M1 q = M q
def onM (T : Nat → Int) (C R L : Nat) (M M' : bz_M) : Prop := (∀ j, j < C → M' 364 (2 + j) = T (5 + j)) ∧ (∀ a b, a < C → b < R → M' 364 (12 + (8 * a + b)) = T (oF C + 2 * (a * R + b)) ∧ M' 364 (92 + (8 * a + b)) = T (oF C + 2 * (a * R + b) + 1)) ∧ (∀ l, l < L → M' 364 (172 + 2 * l) = T (oG C R + 3 * l) ∧ M' 364 (173 + 2 * l) = 256 * T (oG C R + 3 * l + 1) + T (oG C R + 3 * l + 2)) ∧ (∀ i, i ≠ 182 → ¬ (2 ≤ i ∧ i < 2 + C) → (∀ a b, a < C → b < R → i ≠ 12 + (8 * a + b) ∧ i ≠ 92 + (8 * a + b)) → ¬ (172 ≤ i ∧ i < 172 + 2 * L) → M' 364 i = M 364 i) ∧ M' 364 182 = 0 ∧ M' 319 85 = 0 ∧ (∀ k, k ≠ 85 → M' 319 k = M 319 k) ∧ ∀ q, q ≠ 364 → q ≠ 319 → M' q = M q
section TG
variable {Lg d : Nat} {V M M' M1 M2 N1 N2 : bz_M} {S S' B P T : Nat → Int} {v u s j n C R L : Nat} {l : List Int}
theorem m_onL (hd : 0 < d) (h3 : M 319 47 = (L : Int)) (hL : L ≤ 5) (hT : ∀ k, k < n → M 320 k = T k ∧ 0 ≤ T k ∧ T k < 256) (hn : n ≤ 1600) (hG : oG C R + 3 * L ≤ n) : ∀ (k i : Nat) (M1 : bz_M), i + k = L → (∀ l, l < i → M1 364 (172 + 2 * l) = T (oG C R + 3 * l) ∧ M1 364 (173 + 2 * l) = 256 * T (oG C R + 3 * l + 1) + T (oG C R + 3 * l + 2)) → (∀ q, ¬ (172 ≤ q ∧ q < 172 + 2 * i) → M1 364 q = M 364 q) → (∀ q, q ≠ 364 → M1 q = M q) → w_T (eMo_on_183 Lg d ((oG C R + 3 * i : Nat) : Int) (i : Int) M1) (fun p => p.1 = 1 ∧ (∀ l, l < L → p.2 364 (172 + 2 * l) = T (oG C R + 3 * l) ∧ p.2 364 (173 + 2 * l) = 256 * T (oG C R + 3 * l + 1) + T (oG C R + 3 * l + 2)) ∧ (∀ q, q ≠ 182 → ¬ (172 ≤ q ∧ q < 172 + 2 * L) → p.2 364 q = M 364 q) ∧ p.2 364 182 = 0 ∧ p.2 319 85 = 0 ∧ (∀ k, k ≠ 85 → p.2 319 k = M 319 k) ∧ ∀ q, q ≠ 364 → q ≠ 319 → p.2 q = M q)
  | 0, i, M1, hi, m1, m2, m3 => by
    refine T_le (eMo_on_183_E hd) ?_
    rw [if_neg (by rw [m3 319 (by decide), h3]; omega)]
    have hi' : i = L := by omega
    subst hi'
    refine T_some ?_
    dsimp only
    refine ⟨rfl, fun l hl => ?_, fun q x y => ?_, ?_, ?_, fun k hk => ?_, fun q x y => ?_⟩
    · rw [bz_up_nr (by decide), bz_up_nk (by omega), bz_up_nr (by decide), bz_up_nk (by omega)]; exact m1 l hl
    · rw [bz_up_nr (by decide), bz_up_nk x]; exact m2 q y
    · rw [bz_up_nr (by decide), bz_up_eq]
    · rw [bz_up_eq]
    · rw [bz_up_nk hk, bz_up_nr (by decide), m3 319 (by decide)]
    · rw [bz_up_fn y, bz_up_fn x]; exact m3 q x
  | k + 1, i, M1, hi, m1, m2, m3 => by
    refine T_le (eMo_on_183_E hd) ?_
    have e320 : M1 320 = M 320 := m3 320 (by decide)
    have t0 := hT (oG C R + 3 * i) (by omega)
    rw [if_pos (by rw [m3 319 (by decide), h3]; omega), if_pos (by omega), w32_id (z := 2 * (i : Int)) (by omega) (by omega), w32_id (z := 172 + 2 * (i : Int)) (by omega) (by omega), if_pos (by omega), Int.toNat_natCast, e320, t0.1, w32_id (z := ((oG C R + 3 * i : Nat) : Int) + 1) (by omega) (by omega), show ((oG C R + 3 * i : Nat) : Int) + 1 = ((oG C R + 3 * i + 1 : Nat) : Int) by omega, show Int.toNat (172 + 2 * (i : Int)) = 172 + 2 * i by omega]
    refine T_run (m_tw (T := T) (fun k x y => by rw [bz_up_nr (by decide), e320]; exact hT k (by omega)) (by omega)) ?_
    dsimp only
    rw [w32_id (z := 172 + 2 * (i : Int) + 1) (by omega) (by omega), if_pos (by omega), w32_id (z := ((oG C R + 3 * i : Nat) : Int) + 3) (by omega) (by omega), w32_id (z := (i : Int) + 1) (by omega) (by omega), show ((oG C R + 3 * i : Nat) : Int) + 3 = ((oG C R + 3 * (i + 1) : Nat) : Int) by omega, show Int.toNat (172 + 2 * (i : Int) + 1) = 173 + 2 * i by omega]
    refine m_onL hd h3 hL hT hn hG k (i + 1) _ (by omega) (fun l hl => ?_) (fun q hq => ?_) (fun q hq => ?_)
    · by_cases e : l = i
      · rw [e]
        refine ⟨?_, bz_up_eq _ _ _ _⟩
        rw [bz_up_nk (by omega), bz_up_eq]
      · rw [bz_up_nk (by omega), bz_up_nk (by omega), bz_up_nk (by omega), bz_up_nk (by omega)]
        exact m1 l (by omega)
    · rw [bz_up_nk (by omega), bz_up_nk (by omega)]; exact m2 q (by omega)
    · rw [bz_up_fn hq, bz_up_fn hq]; exact m3 q hq
theorem q12b {c r : Nat} (hc : c ≤ 10) (hr : r ≤ 8) : bz_w32 (bz_w32 (12 + bz_w32 (8 * (c : Int))) + (r : Int)) = ((12 + (8 * c + r) : Nat) : Int) ∧ bz_w32 (bz_w32 (92 + bz_w32 (8 * (c : Int))) + (r : Int)) = ((92 + (8 * c + r) : Nat) : Int) := by
  rw [w32_id (z := 8 * (c : Int)) (by omega) (by omega), w32_id (z := 12 + 8 * (c : Int)) (by omega) (by omega), w32_id (z := 92 + 8 * (c : Int)) (by omega) (by omega), w32_id (z := 12 + 8 * (c : Int) + (r : Int)) (by omega) (by omega), w32_id (z := 92 + 8 * (c : Int) + (r : Int)) (by omega) (by omega)]; omega
theorem m_onC2 (hd : 0 < d) (h1 : M 355 4 = (R : Int)) (hC : C ≤ 10) (hR : R ≤ 8) (hT : ∀ k, k < n → M 320 k = T k ∧ 0 ≤ T k ∧ T k < 256) (hn : n ≤ 1600) (hG : oG C R ≤ n) {c : Nat} (hc : c < C) {Q : Int × bz_M → Prop} : ∀ (k r : Nat) (M1 : bz_M), r + k = R → coM T C R M c r M1 → (∀ M2, coM T C R M (c + 1) 0 M2 → w_T (eMo_on_102 Lg d ((oF C + 2 * ((c + 1) * R) : Nat) : Int) ((c + 1 : Nat) : Int) M2) Q) → w_T (eMo_on_113 Lg d ((oF C + 2 * (c * R + r) : Nat) : Int) (c : Int) (r : Int) M1) Q
  | 0, r, M1, hr, h, hQ => by
    have hm : (c + 1) * R = c * R + R := Nat.succ_mul c R
    refine T_le (eMo_on_113_E hd) ?_
    rw [if_neg (by rw [h.2.2 355 (by decide), h1]; omega), w32_id (z := (c : Int) + 1) (by omega) (by omega)]
    have hr' : r = R := by omega
    subst hr'
    rw [← hm]
    exact hQ M1 ⟨fun a b x y z => h.1 a b x y (by omega), h.2⟩
  | k + 1, r, M1, hr, h, hQ => by
    have hm : (c + 1) * R = c * R + R := Nat.succ_mul c R
    have hm2 : (c + 1) * R ≤ C * R := Nat.mul_le_mul_right R hc
    obtain ⟨a3, a4, a5⟩ := h
    have e320 : M1 320 = M 320 := a5 320 (by decide)
    unfold oG at hG
    have hF : oF C = 5 + C := rfl
    generalize hI : c * R + r = I
    have hI2 : I < C * R := by omega
    have t0 := hT (oF C + 2 * I) (by omega)
    have t1 := hT (oF C + 2 * I + 1) (by omega)
    refine T_le (eMo_on_113_E hd) ?_
    rw [if_pos (by rw [a5 355 (by decide), h1]; omega), if_pos (by omega), (q12b (c := c) (r := r) (by omega) (by omega)).1, (q12b (c := c) (r := r) (by omega) (by omega)).2, if_pos (by omega), w32_id (z := ((oF C + 2 * I : Nat) : Int) + 1) (by omega) (by omega), w32_id (z := ((oF C + 2 * I : Nat) : Int) + 2) (by omega) (by omega), if_pos (by omega), if_pos (by omega), w32_id (z := (r : Int) + 1) (by omega) (by omega), Int.toNat_natCast, Int.toNat_natCast, Int.toNat_natCast, show (((oF C + 2 * I : Nat) : Int) + 1).toNat = oF C + 2 * I + 1 by omega, e320, t0.1, t1.1, show ((oF C + 2 * I : Nat) : Int) + 2 = ((oF C + 2 * (c * R + (r + 1)) : Nat) : Int) by omega]
    refine m_onC2 hd h1 hC hR hT hn (by unfold oG; exact hG) hc k (r + 1) _ (by omega) ⟨fun a b x y z => ?_, fun i hi => ?_, fun q hq => ?_⟩ hQ
    · by_cases e : a = c ∧ b = r
      · obtain ⟨rfl, rfl⟩ := e
        rw [hI]
        refine ⟨?_, bz_up_eq _ _ _ _⟩
        rw [bz_up_nk (by omega), bz_up_eq]
      · have := a3 a b x y (by omega)
        refine ⟨?_, ?_⟩
        · rw [bz_up_nk (by omega), bz_up_nk (by omega)]; exact this.1
        · rw [bz_up_nk (by omega), bz_up_nk (by omega)]; exact this.2
    · have := hi c r hc (by omega)
      rw [bz_up_nk this.2, bz_up_nk this.1]; exact a4 i hi
    · rw [bz_up_fn hq, bz_up_fn hq]; exact a5 q hq
theorem m_onC (hd : 0 < d) (h0 : M 355 3 = (C : Int)) (h1 : M 355 4 = (R : Int)) (hC : C ≤ 10) (hR : R ≤ 8) (hT : ∀ k, k < n → M 320 k = T k ∧ 0 ≤ T k ∧ T k < 256) (hn : n ≤ 1600) (hG : oG C R ≤ n) {Q : Int × bz_M → Prop} (hQ : ∀ M2, coM T C R M C 0 M2 → w_T (eMo_on_183 Lg d ((oG C R : Nat) : Int) 0 M2) Q) : ∀ (k c : Nat) (M1 : bz_M), c + k = C → coM T C R M c 0 M1 → w_T (eMo_on_102 Lg d ((oF C + 2 * (c * R) : Nat) : Int) (c : Int) M1) Q
  | 0, c, M1, hc, h => by
    refine T_le (eMo_on_102_E hd) ?_
    have hc' : c = C := by omega
    subst hc'
    rw [if_neg (by rw [h.2.2 355 (by decide), h0]; omega)]
    exact hQ M1 h
  | k + 1, c, M1, hc, h => by
    refine T_le (eMo_on_102_E hd) ?_
    rw [if_pos (by rw [h.2.2 355 (by decide), h0]; omega)]
    exact m_onC2 hd h1 hC hR hT hn hG (by omega) R 0 M1 (by omega) h (fun M2 h2 => m_onC hd h0 h1 hC hR hT hn hG hQ k (c + 1) M2 (by omega) h2)
theorem m_onR (hd : 1 < d) (h0 : M 355 3 = (C : Int)) (h1 : M 355 4 = (R : Int)) (h3 : M 319 47 = (L : Int)) (hC : C ≤ 10) (hR : R ≤ 8) (hL : L ≤ 5) (hT : ∀ k, k < n → M 320 k = T k ∧ 0 ≤ T k ∧ T k < 256) (hn : n ≤ 1600) (hG : oG C R + 3 * L ≤ n) : ∀ (k c : Nat) (M1 : bz_M), c + k = C → (∀ j, j < c → M1 364 (2 + j) = T (5 + j)) → (∀ i, ¬ (2 ≤ i ∧ i < 2 + c) → M1 364 i = M 364 i) → (∀ q, q ≠ 364 → M1 q = M q) → w_T (eMo_on_65 Lg d (c : Int) M1) (fun p => p.1 = 1 ∧ onM T C R L M p.2)
  | 0, c, M1, hc, m1, m2, m3 => by
    have ho : oG C R = 5 + C + 2 * (C * R) := rfl
    have hc' : c = C := by omega
    subst hc'
    refine T_le (eMo_on_65_E (by omega)) ?_
    rw [if_neg (by rw [m3 355 (by decide), h0]; omega)]
    refine T_run (m_cf (C := c) (by omega) (by rw [m3 355 (by decide)]; exact h0) hC) ?_
    dsimp only
    · skip
      have z0 : coM T c R M1 0 0 M1 := ⟨fun a b _ _ x => by omega, fun _ _ => rfl, fun _ _ => rfl⟩
      have e320 : M1 320 = M 320 := m3 320 (by decide)
      have := m_onC (Lg := Lg) (d := d) (M := M1) (T := T) (n := n) (by omega) (by rw [m3 355 (by decide)]; exact h0) (by rw [m3 355 (by decide)]; exact h1) hC hR (by rw [e320]; exact hT) hn (by omega) (Q := fun p => p.1 = 1 ∧ onM T c R L M p.2) (fun M2 g => ?_) c 0 M1 (by omega) z0
      · rw [show oF c + 2 * (0 * R) = oF c by omega] at this
        exact this
      · refine T_mono (m_onL (M := M2) (T := T) (n := n) (C := c) (R := R) (by omega) (by rw [g.2.2 319 (by decide), m3 319 (by decide)]; exact h3) hL (by rw [g.2.2 320 (by decide), e320]; exact hT) hn hG L 0 M2 (by omega) (fun l hl => by omega) (fun _ _ => rfl) (fun _ _ => rfl)) ?_
        rintro p ⟨b1, b2, b3, b4, b5, b6, b7⟩
        refine ⟨b1, fun j hj => ?_, fun a b x y => ?_, b2, fun i x1 x2 x3 x4 => ?_, b4, b5, fun k hk => ?_, fun q x y => ?_⟩
        · rw [b3 (2 + j) (by omega) (by omega), g.2.1 (2 + j) (fun a b _ _ => by omega)]; exact m1 j hj
        · rw [b3 (12 + (8 * a + b)) (by omega) (by omega), b3 (92 + (8 * a + b)) (by omega) (by omega)]
          exact g.1 a b (by omega) y (Or.inl x)
        · rw [b3 i x1 x4, g.2.1 i x3]; exact m2 i x2
        · rw [b6 k hk, g.2.2 319 (by decide), m3 319 (by decide)]
        · rw [b7 q x y, g.2.2 q x, m3 q x]
  | k + 1, c, M1, hc, m1, m2, m3 => by
    have ho : oG C R = 5 + C + 2 * (C * R) := rfl
    have t0 := hT (5 + c) (by omega)
    refine T_le (eMo_on_65_E (by omega)) ?_
    rw [if_pos (by rw [m3 355 (by decide), h0]; omega), w32_id (z := 5 + (c : Int)) (by omega) (by omega), if_pos (by omega), w32_id (z := 2 + (c : Int)) (by omega) (by omega), if_pos (by omega), w32_id (z := (c : Int) + 1) (by omega) (by omega), show Int.toNat (2 + (c : Int)) = 2 + c by omega, show Int.toNat (5 + (c : Int)) = 5 + c by omega, m3 320 (by decide), t0.1]
    refine m_onR hd h0 h1 h3 hC hR hL hT hn hG k (c + 1) _ (by omega) (fun j hj => ?_) (fun i hi => ?_) (fun q hq => ?_)
    · by_cases e : j = c
      · rw [e, bz_up_eq]
      · rw [bz_up_nk (by omega)]; exact m1 j (by omega)
    · rw [bz_up_nk (by omega)]; exact m2 i (by omega)
    · rw [bz_up_fn hq]; exact m3 q hq
end TG

/-! SIM: on: the class reads an image -/
def liC (T : Nat → Int) (C R : Nat) (M : bz_M) (i : Nat) (f : Int) (M1 : bz_M) : Prop := (f = 0 ∨ f = 1) ∧ (f = 1 ↔ ∀ l, l < i → gL1 T C R l) ∧ (∀ l, l < i → M1 290 l = T (oG C R + 3 * l) ∧ M1 291 l = 256 * T (oG C R + 3 * l + 1) + T (oG C R + 3 * l + 2)) ∧ (∀ l, i ≤ l → M1 290 l = M 290 l ∧ M1 291 l = M 291 l) ∧ ∀ q, q ≠ 290 → q ≠ 291 → M1 q = M q
def ciC (T : Nat → Int) (C R : Nat) (M : bz_M) (c r : Nat) (f : Int) (M1 : bz_M) : Prop := (f = 0 ∨ f = 1) ∧ (f = 1 ↔ ∀ i, i < c * R + r → gC1 T C i) ∧ (∀ a b, a < 10 → b < R → (a < c ∨ (a = c ∧ b < r)) → M1 288 (8 * a + b) = T (oF C + 2 * (a * R + b)) ∧ M1 289 (8 * a + b) = T (oF C + 2 * (a * R + b) + 1)) ∧ (∀ a b, a < 10 → b < 8 → ¬ (a < C ∧ b < R) → M1 288 (8 * a + b) = M 288 (8 * a + b) ∧ M1 289 (8 * a + b) = M 289 (8 * a + b)) ∧ ∀ q, q ≠ 288 → q ≠ 289 → M1 q = M q
section TD
variable {Lg d : Nat} {V M M' M1 M2 N1 N2 : bz_M} {S S' B P T : Nat → Int} {v u s j n C R L : Nat} {l : List Int}
theorem c_rdL (hd : 0 < d) (o : bz_oV v) (h3 : M v 3 = (L : Int)) (hL : L ≤ 5) (hT : ∀ k, k < n → bz_and (M 124 k) 255 = T k ∧ 0 ≤ T k ∧ T k < 256) (hn : n ≤ 1600) (hG : oG C R + 3 * L ≤ n) : ∀ (k i : Nat) (f : Int) (M1 : bz_M), i + k = L → liC T C R M i f M1 → w_T (eSt_readLords_6 Lg d 286 124 ((oG C R : Nat) : Int) v f (i : Int) M1) (fun p => liC T C R M L p.1 p.2)
  | 0, i, f, M1, hi, h => by
    have hvv := oV_c o
    refine T_le (eSt_readLords_6_E hd (by decide) o) ?_
    rw [if_neg (by rw [h.2.2.2.2 v (by omega) (by omega), h3]; omega), if_pos h.1]
    rw [show i = L by omega] at h
    exact T_some h
  | k + 1, i, f, M1, hi, h => by
    have hvv := oV_c o
    obtain ⟨a1, a2, a3, a4, a5⟩ := h
    have e124 : M1 124 = M 124 := a5 124 (by decide) (by decide)
    refine T_le (eSt_readLords_6_E hd (by decide) o) ?_
    rw [if_pos (by rw [a5 v (by omega) (by omega), h3]; omega), w32_id (z := 3 * (i : Int)) (by omega) (by omega), w32_id (z := ((oG C R : Nat) : Int) + 3 * (i : Int)) (by omega) (by omega), w32_id (z := ((oG C R : Nat) : Int) + 3 * (i : Int) + 1) (by omega) (by omega), w32_id (z := (i : Int) + 1) (by omega) (by omega), show ((oG C R : Nat) : Int) + 3 * (i : Int) = ((oG C R + 3 * i : Nat) : Int) by omega, show ((oG C R + 3 * i : Nat) : Int) + 1 = ((oG C R + 3 * i + 1 : Nat) : Int) by omega]
    refine T_run (c_rn1 (T := T) (by rw [e124]; exact hT _ (by omega)) (by omega)) ?_
    dsimp only
    rw [if_pos (by omega), Int.toNat_natCast]
    refine T_run (c_rn2 (T := T) (n := oG C R + 3 * i + 1) (fun j x y => by rw [bz_up_nr (by decide), e124]; exact hT _ (by omega)) (by omega)) ?_
    dsimp only
    generalize hX : T (oG C R + 3 * i) = X
    generalize hY : 256 * T (oG C R + 3 * i + 1) + T (oG C R + 3 * i + 1 + 1) = Y
    have ex : bz_up (bz_up M1 (286 + 4) i X) (286 + 5) i Y (286 + 4) i = X := by rw [bz_up_nr (by decide), bz_up_eq]
    have ey : bz_up (bz_up M1 (286 + 4) i X) (286 + 5) i Y (286 + 5) i = Y := bz_up_eq _ _ _ _
    have gi : gL1 T C R i ↔ X ≤ 1 ∧ Y ≤ 999 := by unfold gL1; rw [hX, ← hY]
    have mem : ∀ f', (f' = 0 ∨ f' = 1) → (f' = 1 ↔ (f = 1 ∧ X ≤ 1 ∧ Y ≤ 999)) → liC T C R M (i + 1) f' (bz_up (bz_up M1 (286 + 4) i X) (286 + 5) i Y) := fun f' y1 y2 => by
      refine ⟨y1, ?_, fun j hj => ?_, fun j hj => ?_, fun q x1 x2 => ?_⟩
      · rw [y2, a2, ← gi]
        constructor
        · intro hh j hj
          by_cases e : j = i
          · rw [e]; exact hh.2
          · exact hh.1 j (by omega)
        · intro hh
          exact ⟨fun j hj => hh j (by omega), hh i (by omega)⟩
      · by_cases e : j = i
        · rw [e]; exact ⟨ex.trans hX.symm, ey.trans hY.symm⟩
        · have := a3 j (by omega)
          refine ⟨?_, ?_⟩
          · rw [bz_up_nk e, bz_up_nk e]; exact this.1
          · rw [bz_up_nk e, bz_up_nk e]; exact this.2
      · have := a4 j (by omega)
        refine ⟨?_, ?_⟩
        · rw [bz_up_nk (by omega), bz_up_nk (by omega)]; exact this.1
        · rw [bz_up_nk (by omega), bz_up_nk (by omega)]; exact this.2
      · rw [bz_up_fn x2, bz_up_fn x1]; exact a5 q x1 x2
    refine T_ite (fun c => ?_) (fun c => T_ite (fun c2 => ?_) (fun c2 => T_ite (fun c3 => ?_) (fun c3 => ?_)))
    · exact c_rdL hd o h3 hL hT hn hG k (i + 1) 0 _ (by omega) (mem 0 (Or.inl rfl) (by omega))
    · rw [ex] at c2
      exact c_rdL hd o h3 hL hT hn hG k (i + 1) 0 _ (by omega) (mem 0 (Or.inl rfl) (by omega))
    · rw [ey] at c3
      exact c_rdL hd o h3 hL hT hn hG k (i + 1) 0 _ (by omega) (mem 0 (Or.inl rfl) (by omega))
    · rw [ex] at c2
      rw [ey] at c3
      exact c_rdL hd o h3 hL hT hn hG k (i + 1) 1 _ (by omega) (mem 1 (Or.inr rfl) (by omega))
theorem c_rdC2 (hd : 0 < d) (o : bz_oV v) (h1 : M v 1 = (R : Int)) (hC : C ≤ 10) (hR : R ≤ 8) (hT : ∀ k, k < n → bz_and (M 124 k) 255 = T k ∧ 0 ≤ T k ∧ T k < 256) (hn : n ≤ 1600) (hG : oG C R ≤ n) {c : Nat} (hc : c < C) {Q : Int × bz_M → Prop} : ∀ (k r : Nat) (f : Int) (M1 : bz_M), r + k = R → ciC T C R M c r f M1 → (∀ f' M2, ciC T C R M (c + 1) 0 f' M2 → w_T (eSt_readCells_9 Lg d 286 124 v f' ((oF C + 2 * ((c + 1) * R) : Nat) : Int) ((c + 1 : Nat) : Int) M2) Q) → w_T (eSt_readCells_21 Lg d 286 124 v f ((oF C + 2 * (c * R + r) : Nat) : Int) (c : Int) (r : Int) M1) Q
  | 0, r, f, M1, hr, h, hQ => by
    have hvv := oV_c o
    have hm : (c + 1) * R = c * R + R := Nat.succ_mul c R
    refine T_le (eSt_readCells_21_E hd (by decide) o) ?_
    rw [if_neg (by rw [h.2.2.2.2 v (by omega) (by omega), h1]; omega), w32_id (z := (c : Int) + 1) (by omega) (by omega)]
    have hr' : r = R := by omega
    subst hr'
    rw [← hm]
    refine hQ f M1 ⟨h.1, ?_, fun a b x y z => ?_, h.2.2.2.1, h.2.2.2.2⟩
    · rw [h.2.1, Nat.add_zero, hm]
    · exact h.2.2.1 a b x y (by omega)
  | k + 1, r, f, M1, hr, h, hQ => by
    have hvv := oV_c o
    have hm : (c + 1) * R = c * R + R := Nat.succ_mul c R
    have hm2 : (c + 1) * R ≤ C * R := Nat.mul_le_mul_right R hc
    obtain ⟨a1, a2, a3, a4, a5⟩ := h
    have e124 : M1 124 = M 124 := a5 124 (by decide) (by decide)
    unfold oG at hG
    have hF : oF C = 5 + C := rfl
    generalize hI : c * R + r = I at a2
    have hI2 : I < C * R := by omega
    refine T_le (eSt_readCells_21_E hd (by decide) o) ?_
    rw [if_pos (by rw [a5 v (by omega) (by omega), h1]; omega), q8c (c := c) (r := r) (by omega) (by omega), w32_id (z := ((oF C + 2 * I : Nat) : Int) + 1) (by omega) (by omega), w32_id (z := ((oF C + 2 * I : Nat) : Int) + 2) (by omega) (by omega), w32_id (z := (r : Int) + 1) (by omega) (by omega)]
    refine T_run (c_rn1 (T := T) (by rw [e124]; exact hT _ (by omega)) (by omega)) ?_
    dsimp only
    rw [if_pos (by omega), Int.toNat_natCast, show ((oF C + 2 * I : Nat) : Int) + 1 = ((oF C + 2 * I + 1 : Nat) : Int) by omega]
    refine T_run (c_rn1 (T := T) (n := oF C + 2 * I + 1) (by rw [bz_up_nr (by decide), e124]; exact hT _ (by omega)) (by omega)) ?_
    dsimp only
    generalize hX : T (oF C + 2 * I) = X
    generalize hY : T (oF C + 2 * I + 1) = Y
    have ex : bz_up (bz_up M1 (286 + 2) (8 * c + r) X) (286 + 3) (8 * c + r) Y (286 + 2) (8 * c + r) = X := by rw [bz_up_nr (by decide), bz_up_eq]
    have ey : bz_up (bz_up M1 (286 + 2) (8 * c + r) X) (286 + 3) (8 * c + r) Y (286 + 3) (8 * c + r) = Y := bz_up_eq _ _ _ _
    have gi : gC1 T C I ↔ X ≤ 9 ∧ Y ≤ 99 := by unfold gC1; rw [hX, hY]
    have mem : ∀ f', (f' = 0 ∨ f' = 1) → (f' = 1 ↔ (f = 1 ∧ X ≤ 9 ∧ Y ≤ 99)) → ciC T C R M c (r + 1) f' (bz_up (bz_up M1 (286 + 2) (8 * c + r) X) (286 + 3) (8 * c + r) Y) := fun f' y1 y2 => by
      refine ⟨y1, ?_, fun a b x y z => ?_, fun a b x y z => ?_, fun q x1 x2 => ?_⟩
      · rw [y2, a2, ← gi, show c * R + (r + 1) = I + 1 by omega]
        constructor
        · intro hh j hj
          by_cases e : j = I
          · rw [e]; exact hh.2
          · exact hh.1 j (by omega)
        · intro hh
          exact ⟨fun j hj => hh j (by omega), hh I (by omega)⟩
      · by_cases e : a = c ∧ b = r
        · obtain ⟨rfl, rfl⟩ := e
          rw [hI, hX, hY]
          exact ⟨ex, ey⟩
        · have := a3 a b x y (by omega)
          refine ⟨?_, ?_⟩
          · rw [bz_up_nk (by omega), bz_up_nk (by omega)]; exact this.1
          · rw [bz_up_nk (by omega), bz_up_nk (by omega)]; exact this.2
      · have := a4 a b x y z
        refine ⟨?_, ?_⟩
        · rw [bz_up_nk (by omega), bz_up_nk (by omega)]; exact this.1
        · rw [bz_up_nk (by omega), bz_up_nk (by omega)]; exact this.2
      · rw [bz_up_fn x2, bz_up_fn x1]; exact a5 q x1 x2
    have go : ∀ f', ciC T C R M c (r + 1) f' (bz_up (bz_up M1 (286 + 2) (8 * c + r) X) (286 + 3) (8 * c + r) Y) → w_T (eSt_readCells_21 Lg d 286 124 v f' (((oF C + 2 * I : Nat) : Int) + 2) (c : Int) ((r : Int) + 1) (bz_up (bz_up M1 (286 + 2) (8 * c + r) X) (286 + 3) (8 * c + r) Y)) Q := fun f' hf => by
      rw [show ((oF C + 2 * I : Nat) : Int) + 2 = ((oF C + 2 * (c * R + (r + 1)) : Nat) : Int) by omega]
      exact c_rdC2 hd o h1 hC hR hT hn (by unfold oG; exact hG) hc k (r + 1) f' _ (by omega) hf hQ
    refine T_ite (fun c => ?_) (fun c => T_ite (fun c2 => ?_) (fun c2 => T_ite (fun c3 => ?_) (fun c3 => ?_)))
    · exact go 0 (mem 0 (Or.inl rfl) (by omega))
    · rw [ex] at c2
      exact go 0 (mem 0 (Or.inl rfl) (by omega))
    · rw [ey] at c3
      exact go 0 (mem 0 (Or.inl rfl) (by omega))
    · rw [ex] at c2
      rw [ey] at c3
      exact go 1 (mem 1 (Or.inr rfl) (by omega))
theorem c_rdC (hd : 0 < d) (o : bz_oV v) (h0 : M v 0 = (C : Int)) (h1 : M v 1 = (R : Int)) (hC : C ≤ 10) (hR : R ≤ 8) (hT : ∀ k, k < n → bz_and (M 124 k) 255 = T k ∧ 0 ≤ T k ∧ T k < 256) (hn : n ≤ 1600) (hG : oG C R ≤ n) : ∀ (k c : Nat) (f : Int) (M1 : bz_M), c + k = C → ciC T C R M c 0 f M1 → w_T (eSt_readCells_9 Lg d 286 124 v f ((oF C + 2 * (c * R) : Nat) : Int) (c : Int) M1) (fun p => ciC T C R M C 0 p.1 p.2)
  | 0, c, f, M1, hc, h => by
    have hvv := oV_c o
    refine T_le (eSt_readCells_9_E o) ?_
    rw [if_neg (by rw [h.2.2.2.2 v (by omega) (by omega), h0]; omega), if_pos h.1]
    rw [show c = C by omega] at h
    exact T_some h
  | k + 1, c, f, M1, hc, h => by
    have hvv := oV_c o
    refine T_le (eSt_readCells_9_E o) ?_
    rw [if_pos (by rw [h.2.2.2.2 v (by omega) (by omega), h0]; omega)]
    exact c_rdC2 hd o h1 hC hR hT hn hG (by omega) R 0 f M1 (by omega) h (fun f' M2 h2 => c_rdC hd o h0 h1 hC hR hT hn hG k (c + 1) f' M2 (by omega) h2)
end TD

/-! SIM: on: the class reads an image, whole -/
def onR (T : Nat → Int) (C k : Nat) : Int := if k < C then T (5 + k) else 0
def onW (T : Nat → Int) (C R a b : Nat) : Int := if a < C ∧ b < R then T (oF C + 2 * (a * R + b)) else 0
def onE (T : Nat → Int) (C R a b : Nat) : Int := if a < C ∧ b < R then T (oF C + 2 * (a * R + b) + 1) else 0
def onO (T : Nat → Int) (C R L l : Nat) : Int := if l < L then T (oG C R + 3 * l) else 0
def onP (T : Nat → Int) (C R L l : Nat) : Int := if l < L then 256 * T (oG C R + 3 * l + 1) + T (oG C R + 3 * l + 2) else 0
def oCl (T : Nat → Int) (C R L : Nat) (M : bz_M) : Prop := (M 286 0 = 256 * T 0 + T 1 ∧ M 286 1 = 65536 * T 2 + (256 * T 3 + T 4) ∧ M 286 2 = 0) ∧ (∀ k, k < 10 → M 287 k = onR T C k) ∧ (∀ a b, a < 10 → b < 8 → M 288 (8 * a + b) = onW T C R a b ∧ M 289 (8 * a + b) = onE T C R a b) ∧ ∀ l, l < 5 → M 290 l = onO T C R L l ∧ M 291 l = onP T C R L l
section TE
variable {Lg d : Nat} {V M M' M1 M2 N1 N2 : bz_M} {S S' B P T : Nat → Int} {v u s j n C R L : Nat} {l : List Int}
theorem im_sz (hC : C ≤ 10) (hR : R ≤ 8) (hL : L ≤ 5) : bz_w32 (bz_w32 (bz_w32 (bz_w32 (5 + (C : Int)) + bz_w32 (bz_w32 (2 * (C : Int)) * (R : Int))) + bz_w32 (3 * (L : Int))) + 1) = ((oG C R + 3 * L + 1 : Nat) : Int) ∧ bz_w32 (bz_w32 (2 * (C : Int)) * (R : Int)) = ((2 * (C * R) : Nat) : Int) ∧ C * R ≤ 80 := by
  have hm : C * R ≤ 10 * 8 := Nat.mul_le_mul hC hR
  have e : 2 * (C : Int) * (R : Int) = ((2 * (C * R) : Nat) : Int) := by
    rw [Int.mul_assoc]; push_cast; rfl
  have hG : oG C R = 5 + C + 2 * (C * R) := rfl
  rw [w32_id (z := 2 * (C : Int)) (by omega) (by omega), e, w32_id (z := 5 + (C : Int)) (by omega) (by omega), w32_id (z := ((2 * (C * R) : Nat) : Int)) (by omega) (by omega), w32_id (z := 3 * (L : Int)) (by omega) (by omega), w32_id (z := 5 + (C : Int) + ((2 * (C * R) : Nat) : Int)) (by omega) (by omega), w32_id (z := 5 + (C : Int) + ((2 * (C * R) : Nat) : Int) + 3 * (L : Int)) (by omega) (by omega), w32_id (by omega) (by omega)]
  omega
theorem c_rdR (hd : 1 < d) (o : bz_oV v) (h0 : M v 0 = (C : Int)) (h1 : M v 1 = (R : Int)) (h3 : M v 3 = (L : Int)) (hC : C ≤ 10) (hR : R ≤ 8) (hL : L ≤ 5) (hT : ∀ k, k < n → bz_and (M 124 k) 255 = T k ∧ 0 ≤ T k ∧ T k < 256) (hn : n ≤ 1600) (hG : n = oG C R + 3 * L + 1) {g0 : Prop} {Q : Int × bz_M → Prop} (hz : ¬ (g0 ∧ gRow T C R ∧ (∀ i, i < C * R → gC1 T C i) ∧ ∀ l, l < L → gL1 T C R l) → ∀ M2, (∀ r, ¬ (287 ≤ r ∧ r ≤ 291) → M2 r = M r) → Q (0, M2)) (hg : (g0 ∧ gRow T C R ∧ (∀ i, i < C * R → gC1 T C i) ∧ ∀ l, l < L → gL1 T C R l) → ∀ M2, (∀ r, ¬ (287 ≤ r ∧ r ≤ 291) → M2 r = M r) → (∀ k, k < C → M2 287 k = T (5 + k)) → (∀ k, C ≤ k → M2 287 k = M 287 k) → (∀ a b, a < C → b < R → M2 288 (8 * a + b) = T (oF C + 2 * (a * R + b)) ∧ M2 289 (8 * a + b) = T (oF C + 2 * (a * R + b) + 1)) → (∀ a b, a < 10 → b < 8 → ¬ (a < C ∧ b < R) → M2 288 (8 * a + b) = M 288 (8 * a + b) ∧ M2 289 (8 * a + b) = M 289 (8 * a + b)) → (∀ l, l < L → M2 290 l = T (oG C R + 3 * l) ∧ M2 291 l = 256 * T (oG C R + 3 * l + 1) + T (oG C R + 3 * l + 2)) → (∀ l, L ≤ l → M2 290 l = M 290 l ∧ M2 291 l = M 291 l) → Q (1, M2)) : ∀ (k c : Nat) (f : Int) (M1 : bz_M), c + k = C → (f = 0 ∨ f = 1) → (f = 1 ↔ g0 ∧ ∀ j, j < c → T (5 + j) < (R : Int)) → (∀ j, j < c → M1 287 j = T (5 + j)) → (∀ j, c ≤ j → M1 287 j = M 287 j) → (∀ q, q ≠ 287 → M1 q = M q) → w_T (eSt_read_91 Lg d 286 124 v f ((5 + c : Nat) : Int) (c : Int) M1) Q
  | 0, c, f, M1, hc, f1, f2, m1, m2, m3 => by
    have hvv := oV_c o
    have sz := (im_sz hC hR hL).2
    have ho : oG C R = 5 + C + 2 * (C * R) := rfl
    have hc' : c = C := by omega
    subst hc'
    refine T_le (eSt_read_91_E (by omega) (by decide) o) ?_
    rw [if_neg (by rw [m3 v (by omega), h0]; omega)]
    have fr1 : ∀ r, ¬ (287 ≤ r ∧ r ≤ 291) → M1 r = M r := fun r hr => m3 r (by omega)
    refine T_ite (fun c0 => T_some (hz (fun hh => ?_) M1 fr1)) (fun c0 => ?_)
    · have := f2.mpr ⟨hh.1, hh.2.1⟩
      omega
    · have f3 := f2.mp (by omega)
      have z0 : ciC T c R M1 0 0 1 M1 := ⟨Or.inr rfl, ⟨fun _ i hi => by omega, fun _ => rfl⟩, fun a b _ _ x => by omega, fun _ _ _ _ _ => ⟨rfl, rfl⟩, fun _ _ _ => rfl⟩
      have e124 : M1 124 = M 124 := m3 124 (by decide)
      have rc := c_rdC (Lg := Lg) (d := d - 1) (T := T) (n := n) (by omega) o (by rw [m3 v (by omega)]; exact h0) (by rw [m3 v (by omega)]; exact h1) hC hR (by rw [e124]; exact hT) hn (by omega) c 0 1 M1 (by omega) z0
      rw [show oF c + 2 * (0 * R) = 5 + c by unfold oF; omega] at rc
      refine T_seq (T_le eSt_readCells_E rc) ?_
      rintro ⟨p1, M2⟩ ⟨a1, a2, a3, a4, a5⟩
      dsimp only at a1 a2 a3 a4 a5 ⊢
      have fr2 : ∀ r, ¬ (287 ≤ r ∧ r ≤ 291) → M2 r = M r := fun r hr => by rw [a5 r (by omega) (by omega)]; exact fr1 r hr
      refine T_ite (fun c1 => T_some (hz (fun hh => ?_) M2 fr2)) (fun c1 => ?_)
      · have := a2.mpr (fun i hi => hh.2.2.1 i (by omega))
        omega
      · have g3 := a2.mp (by omega)
        have z1 : liC T c R M2 0 1 M2 := ⟨Or.inr rfl, ⟨fun _ i hi => by omega, fun _ => rfl⟩, fun _ x => by omega, fun _ _ => ⟨rfl, rfl⟩, fun _ _ _ => rfl⟩
        have ev0 : M2 v 0 = (c : Int) := by rw [fr2 v (by omega)]; exact h0
        have ev1 : M2 v 1 = (R : Int) := by rw [fr2 v (by omega)]; exact h1
        rw [ev0, ev1, sz.1, w32_id (z := ((5 + c : Nat) : Int) + ((2 * (c * R) : Nat) : Int)) (by omega) (by omega), show ((5 + c : Nat) : Int) + ((2 * (c * R) : Nat) : Int) = ((oG c R : Nat) : Int) by omega]
        refine T_seq (T_le eSt_readLords_E (c_rdL (T := T) (n := n) (by omega) o (by rw [fr2 v (by omega)]; exact h3) hL (by rw [fr2 124 (by decide)]; exact hT) hn (by omega) L 0 1 M2 (by omega) z1)) ?_
        rintro ⟨p2, M3⟩ ⟨b1, b2, b3, b4, b5⟩
        dsimp only at b1 b2 b3 b4 b5 ⊢
        have fr3 : ∀ r, ¬ (287 ≤ r ∧ r ≤ 291) → M3 r = M r := fun r hr => by rw [b5 r (by omega) (by omega)]; exact fr2 r hr
        refine T_ite (fun c2 => T_some (hz (fun hh => ?_) M3 fr3)) (fun c2 => T_some (hg ⟨f3.1, f3.2, fun i hi => g3 i (by omega), b2.mp (by omega)⟩ M3 fr3 (fun k hk => ?_) (fun k hk => ?_) (fun a b x y => ?_) (fun a b x y z => ?_) b3 (fun l hl => ?_)))
        · have := b2.mpr hh.2.2.2
          omega
        · rw [b5 287 (by decide) (by decide), a5 287 (by decide) (by decide)]; exact m1 k hk
        · rw [b5 287 (by decide) (by decide), a5 287 (by decide) (by decide)]; exact m2 k hk
        · rw [b5 288 (by decide) (by decide), b5 289 (by decide) (by decide)]
          exact a3 a b (by omega) y (Or.inl x)
        · rw [b5 288 (by decide) (by decide), b5 289 (by decide) (by decide), (a4 a b x y z).1, (a4 a b x y z).2, m3 288 (by decide), m3 289 (by decide)]
          exact ⟨rfl, rfl⟩
        · rw [(b4 l hl).1, (b4 l hl).2, a5 290 (by decide) (by decide), a5 291 (by decide) (by decide), m3 290 (by decide), m3 291 (by decide)]
          exact ⟨rfl, rfl⟩
  | k + 1, c, f, M1, hc, f1, f2, m1, m2, m3 => by
    have hvv := oV_c o
    have sz := (im_sz hC hR hL).2
    have ho : oG C R = 5 + C + 2 * (C * R) := rfl
    refine T_le (eSt_read_91_E (by omega) (by decide) o) ?_
    rw [if_pos (by rw [m3 v (by omega), h0]; omega), w32_id (z := ((5 + c : Nat) : Int) + 1) (by omega) (by omega), w32_id (z := (c : Int) + 1) (by omega) (by omega)]
    refine T_run (c_rn1 (T := T) (n := 5 + c) (by rw [m3 124 (by decide)]; exact hT _ (by omega)) (by omega)) ?_
    dsimp only
    rw [if_pos (by omega), Int.toNat_natCast]
    have ex : bz_up M1 (286 + 1) c (T (5 + c)) (286 + 1) c = T (5 + c) := bz_up_eq _ _ _ _
    have ev : bz_up M1 (286 + 1) c (T (5 + c)) v 1 = (R : Int) := by rw [bz_up_nr (by omega), m3 v (by omega)]; exact h1
    have go : ∀ f', (f' = 0 ∨ f' = 1) → (f' = 1 ↔ (f = 1 ∧ T (5 + c) < (R : Int))) → w_T (eSt_read_91 Lg d 286 124 v f' (((5 + c : Nat) : Int) + 1) ((c : Int) + 1) (bz_up M1 (286 + 1) c (T (5 + c)))) Q := fun f' y1 y2 => by
      refine c_rdR hd o h0 h1 h3 hC hR hL hT hn hG hz hg k (c + 1) f' _ (by omega) y1 ?_ (fun j hj => ?_) (fun j hj => ?_) (fun q hq => ?_)
      · rw [y2, f2]
        constructor
        · intro hh
          refine ⟨hh.1.1, fun j hj => ?_⟩
          by_cases e : j = c
          · rw [e]; exact hh.2
          · exact hh.1.2 j (by omega)
        · intro hh
          exact ⟨⟨hh.1, fun j hj => hh.2 j (by omega)⟩, hh.2 c (by omega)⟩
      · by_cases e : j = c
        · rw [e]; exact ex
        · rw [bz_up_nk e]; exact m1 j (by omega)
      · rw [bz_up_nk (by omega)]; exact m2 j (by omega)
      · rw [bz_up_fn hq]; exact m3 q hq
    refine T_ite (fun c0 => ?_) (fun c0 => T_ite (fun c1 => ?_) (fun c1 => ?_))
    · exact go 0 (Or.inl rfl) (by omega)
    · rw [ex, ev] at c1
      exact go 1 (Or.inr rfl) (by omega)
    · rw [ex, ev] at c1
      exact go 0 (Or.inl rfl) (by omega)
theorem c_rd (hd : 2 < d) (o : bz_oV v) (h0 : M v 0 = (C : Int)) (h1 : M v 1 = (R : Int)) (h3 : M v 3 = (L : Int)) (hC : C ≤ 10) (hR : R ≤ 8) (hL : L ≤ 5) (hT : ∀ k, k < n → bz_and (M 124 k) 255 = T k ∧ 0 ≤ T k ∧ T k < 256) (hn : n ≤ 1600) (vo1 : ∀ k, C ≤ k → k < 10 → M (v + 1) k = 0) (vo2 : ∀ a b, a < 10 → b < 8 → ¬ (a < C ∧ b < R) → M (v + 3) (8 * a + b) = 0) (vo3 : ∀ l, L ≤ l → l < 5 → M (v + 9) l = 0) : w_T (eSt_read Lg d 286 124 (n : Int) v M) (fun p => (∀ r, ¬ (286 ≤ r ∧ r ≤ 291) → p.2 r = M r) ∧ ((p.1 = 1 ∧ gOn T n C R L ∧ oCl T C R L p.2) ∨ (p.1 = 0 ∧ ¬ gOn T n C R L))) := by
  have hvv := oV_c o
  have sz := (im_sz hC hR hL)
  have sz2 := sz.2.2
  refine T_le (eSt_read_E (by omega) (by decide)) ?_
  refine T_seq (R := fun p => p = (((oG C R + 3 * L + 1 : Nat) : Int), M)) (T_le (eSt_sizeOfImage_E o) ?_) ?_
  · rw [h0, h1, h3, sz.1]; exact T_some rfl
  have ho : oG C R = 5 + C + 2 * (C * R) := rfl
  clear sz
  rintro p rfl
  dsimp only
  by_cases cn : n = oG C R + 3 * L + 1
  · rw [if_pos (by omega), w32_id (z := ((oG C R + 3 * L + 1 : Nat) : Int) - 1) (by omega) (by omega), show ((oG C R + 3 * L + 1 : Nat) : Int) - 1 = ((n - 1 : Nat) : Int) by omega]
    refine T_run (c_rn1 (T := T) (hT _ (by omega)) (by omega)) ?_
    dsimp only
    have ck := c_ck (Lg := Lg) (d := d - 1) (a := 124) (na := 1600) (l := tpL T (n - 1)) (M := M) rfl (by omega) (by rw [tpL_l]; omega) (fun i hi => by rw [tpL_l] at hi; rw [tpL_g hi]; exact (hT i (by omega)).1) (tpL_o (fun k hk => (hT k (by omega)).2))
    rw [tpL_l] at ck
    refine T_seq ck ?_
    rintro p rfl
    dsimp only
    by_cases cc : T (n - 1) = ckL (tpL T (n - 1))
    · rw [if_pos cc]
      refine T_seq (c_begin6 o) ?_
      rintro M1 ⟨b1, b2, b3, b4, b5, b6⟩
      have e124 : M1 124 = M 124 := b2 124 (by decide) (by decide)
      refine T_run (c_rn2 (T := T) (n := 0) (fun k x y => by rw [e124]; exact hT k (by omega)) (by decide)) ?_
      dsimp only
      refine T_run (c_rn3 (T := T) (n := 2) (fun k x y => by rw [bz_up_nr (by decide), e124]; exact hT k (by omega)) (by decide)) ?_
      dsimp only
      generalize hX : 256 * T 0 + T (0 + 1) = X
      generalize hY : 65536 * T 2 + (256 * T (2 + 1) + T (2 + 2)) = Y
      have ex : bz_up (bz_up M1 286 0 X) 286 1 Y 286 0 = X := by rw [bz_up_nk (by decide), bz_up_eq]
      have ey : bz_up (bz_up M1 286 0 X) 286 1 Y 286 1 = Y := bz_up_eq _ _ _ _
      generalize hZ : bz_up (bz_up M1 286 0 X) 286 1 Y = Z at ex ey
      have kZ : ∀ r, r ≠ 286 → Z r = M1 r := fun r hr => by rw [← hZ, bz_up_fn hr, bz_up_fn hr]
      have e2 : Z 286 2 = 0 := by rw [← hZ, bz_up_nk (by decide), bz_up_nk (by decide)]; exact b3.2.2
      have kM : ∀ r, ¬ (286 ≤ r ∧ r ≤ 291) → Z r = M r := fun r hr => by
        rw [kZ r (by omega)]
        by_cases e : r = 131
        · funext i
          rw [e]
          by_cases i0 : i = 0
          · rw [i0]; exact b1.1
          · exact b1.2 i i0
        · exact b2 r e (by omega)
      have gn : gOn T n C R L ↔ ((X ≤ 999 ∧ Y ≤ 999999) ∧ gRow T C R ∧ (∀ i, i < C * R → gC1 T C i) ∧ ∀ l, l < L → gL1 T C R l) := by
        unfold gOn
        rw [show 256 * T 0 + T 1 = X from hX, show 65536 * T 2 + (256 * T 3 + T 4) = Y from hY]
        constructor
        · intro hh; exact ⟨⟨hh.2.2.1, hh.2.2.2.1⟩, hh.2.2.2.2⟩
        · intro hh; exact ⟨cn, cc, hh.1.1, hh.1.2, hh.2⟩
      have go : ∀ f, (f = 0 ∨ f = 1) → (f = 1 ↔ (X ≤ 999 ∧ Y ≤ 999999)) → w_T (eSt_read_91 Lg d 286 124 v f 5 0 Z) (fun p => (∀ r, ¬ (286 ≤ r ∧ r ≤ 291) → p.2 r = M r) ∧ ((p.1 = 1 ∧ gOn T n C R L ∧ oCl T C R L p.2) ∨ (p.1 = 0 ∧ ¬ gOn T n C R L))) := fun f y1 y2 => by
        refine c_rdR (M := Z) (T := T) (n := n) (g0 := X ≤ 999 ∧ Y ≤ 999999) (by omega) o (by rw [kM v (by omega)]; exact h0) (by rw [kM v (by omega)]; exact h1) (by rw [kM v (by omega)]; exact h3) hC hR hL (by rw [kM 124 (by decide)]; exact hT) hn cn (fun hh M2 m => ?_) (fun hh M2 m r1 r2 r3 r4 r5 r6 => ?_) C 0 f Z (by omega) y1 ?_ (fun j hj => by omega) (fun _ _ => rfl) (fun _ _ => rfl)
        · refine ⟨fun r hr => by dsimp only; rw [m r (by omega)]; exact kM r hr, Or.inr ⟨rfl, fun x => hh (gn.mp x)⟩⟩
        · refine ⟨fun r hr => by dsimp only; rw [m r (by omega)]; exact kM r hr, Or.inl ⟨rfl, gn.mpr hh, ⟨?_, ?_, ?_⟩, fun k hk => ?_, fun a b x y => ?_, fun l hl => ?_⟩⟩
          · dsimp only
            rw [m 286 (by decide), ex]; exact hX.symm
          · dsimp only
            rw [m 286 (by decide), ey]; exact hY.symm
          · dsimp only
            rw [m 286 (by decide)]; exact e2
          · dsimp only
            unfold onR
            by_cases c : k < C
            · rw [if_pos c]; exact r1 k c
            · rw [if_neg c, r2 k (by omega), kZ 287 (by decide), b4 k hk]; exact vo1 k (by omega) hk
          · dsimp only
            unfold onW onE
            by_cases c : a < C ∧ b < R
            · rw [if_pos c, if_pos c]; exact r3 a b c.1 c.2
            · rw [if_neg c, if_neg c, (r4 a b x y c).1, (r4 a b x y c).2, kZ 288 (by decide), kZ 289 (by decide), (b5 (8 * a + b) (by omega)).1, (b5 (8 * a + b) (by omega)).2]
              exact ⟨vo2 a b x y c, rfl⟩
          · dsimp only
            unfold onO onP
            by_cases c : l < L
            · rw [if_pos c, if_pos c]; exact r5 l c
            · rw [if_neg c, if_neg c, (r6 l (by omega)).1, (r6 l (by omega)).2, kZ 290 (by decide), kZ 291 (by decide), (b6 l hl).1, (b6 l hl).2, h3, if_neg (by omega)]
              exact ⟨rfl, vo3 l (by omega) hl⟩
        · rw [y2]
          exact ⟨fun hh => ⟨hh, fun j hj => by omega⟩, fun hh => hh.1⟩
      refine T_ite (fun c0 => ?_) (fun c0 => T_ite (fun c1 => ?_) (fun c1 => ?_))
      · rw [ex] at c0
        exact go 0 (Or.inl rfl) (by omega)
      · rw [ey] at c1
        exact go 0 (Or.inl rfl) (by omega)
      · rw [ex] at c0
        rw [ey] at c1
        exact go 1 (Or.inr rfl) (by omega)
    · rw [if_neg cc]
      exact T_some ⟨fun _ _ => rfl, Or.inr ⟨rfl, fun x => cc x.2.1⟩⟩
  · rw [if_neg (by omega)]
    exact T_some ⟨fun _ _ => rfl, Or.inr ⟨rfl, fun x => cn x.1⟩⟩
end TE

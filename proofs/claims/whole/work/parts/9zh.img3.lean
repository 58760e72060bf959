/-! SIM: image, the reference; both -/
section TA
variable {Lg d : Nat} {V M M' M1 M2 N1 N2 : bz_M} {S S' B P T : Nat → Int} {v u s j n C R L : Nat} {l : List Int}
abbrev fI (M M' : bz_M) : Prop := (∀ r, r ≠ 411 → r ≠ 319 → M' r = M r) ∧ ∀ k, k ≠ 131 → M' 319 k = M 319 k
theorem fI_trans {A B C : bz_M} (h : fI A B) (g : fI B C) : fI A C := ⟨fun r a b => (g.1 r a b).trans (h.1 r a b), fun k a => (g.2 k a).trans (h.2 k a)⟩
theorem m_w1 {x : Int} (hl : l.length < 191) (h : mW l M) : w_T (eMo_writes Lg d x M) (fun M' => mW (l ++ [x]) M' ∧ fI M M') := by
  refine T_le eMo_writes_E ?_
  rw [h.1, if_pos (by omega), Int.toNat_natCast, w32_id (by omega) (by omega)]
  refine T_some ⟨⟨?_, fun i hi => ?_⟩, fun r x1 x2 => by rw [bz_up_fn x2, bz_up_fn x1], fun k hk => by rw [bz_up_nk hk, bz_up_nr (by decide)]⟩
  · rw [bz_up_eq, List.length_append, List.length_singleton]; rfl
  · rw [List.length_append, List.length_singleton] at hi
    rw [gD_app, bz_up_nr (by decide)]
    by_cases c : i < l.length
    · rw [if_pos c, bz_up_nk (by omega)]; exact h.2 i c
    · rw [if_neg c, if_pos (by omega), show i = l.length by omega, bz_up_eq]
theorem m_w2 (hd : 0 < d) {x : Int} (hl : l.length + 2 ≤ 191) (hx : 0 ≤ x ∧ x < 65536) (h : mW l M) : w_T (eMo_writesTwo Lg d x M) (fun M' => mW (w2 l x) M' ∧ fI M M') := by
  refine T_le (eMo_writesTwo_E hd) ?_
  rw [Int.tdiv_eq_ediv_of_nonneg hx.1, Int.tmod_eq_emod_of_nonneg hx.1, w32_id (z := x / 256) (by omega) (by omega)]
  have e : x / 256 = x / 256 % 256 := by omega
  rw [e]
  refine T_seq (m_w1 (by omega) h) ?_
  rintro M1 ⟨a1, a2⟩
  refine T_seq (m_w1 (by rw [List.length_append, List.length_singleton]; omega) a1) ?_
  rintro M2 ⟨b1, b2⟩
  exact T_some ⟨b1, fI_trans a2 b2⟩
theorem m_im130 (hd : 1 < d) (hO : imO S C R L) (hD : mDi S C R L M) : ∀ (k i : Nat) (l : List Int) (M1 : bz_M), i + k = L → mW l M1 → oO l → fI M M1 → l.length + 3 * k + 1 ≤ 191 → w_T (eMo_image_130 Lg d (i : Int) M1) (fun p => p.1 = ((imLords S k i l).length : Int) + 1 ∧ mW (imLords S k i l ++ [ckL (imLords S k i l)]) p.2 ∧ fI M p.2)
  | 0, i, l, M1, hi, hW, ho, hf, hl => by
    refine T_le (eMo_image_130_E (by omega)) ?_
    rw [if_neg (by rw [hf.2 47 (by decide), hD.1.2.2]; omega), hW.1]
    refine T_seq (m_ck (na := 191) rfl (by omega) (by omega) hW.2 ho) ?_
    rintro p rfl
    dsimp only
    refine T_seq (m_w1 (by omega) hW) ?_
    rintro M2 ⟨a1, a2⟩
    refine T_some ⟨?_, a1, fI_trans hf a2⟩
    dsimp only
    rw [a1.1, List.length_append, List.length_singleton]; rfl
  | k + 1, i, l, M1, hi, hW, ho, hf, hl => by
    have hL := hO.2.2.2.2.2 i (by omega)
    have h5 := hO.1.2.2
    have e2 : M1 364 (Int.toNat (172 + 2 * (i : Int))) = S (172 + 2 * i) := by rw [show Int.toNat (172 + 2 * (i : Int)) = 172 + 2 * i by omega, hf.1 364 (by decide) (by decide)]; exact hD.2 _ (by omega)
    have el : (l ++ [S (172 + 2 * i)]).length = l.length + 1 := by rw [List.length_append, List.length_singleton]
    have go : ∀ x, S (172 + 2 * i) = x → w_T ((eMo_writes Lg (d - 1) x M1).bind (fun M1 => ((eMo_writesTwo Lg (d - 1) (M1 364 (Int.toNat (173 + 2 * (i : Int)))) M1).bind (fun M2 => (eMo_image_130 Lg d (bz_w32 ((i : Int) + 1)) M2))))) (fun p => p.1 = ((imLords S (k + 1) i l).length : Int) + 1 ∧ mW (imLords S (k + 1) i l ++ [ckL (imLords S (k + 1) i l)]) p.2 ∧ fI M p.2) := by
      rintro x rfl
      refine T_seq (m_w1 (by omega) hW) ?_
      rintro M2 ⟨a1, a2⟩
      have e3 : M2 364 (Int.toNat (173 + 2 * (i : Int))) = S (173 + 2 * i) := by rw [show Int.toNat (173 + 2 * (i : Int)) = 173 + 2 * i by omega, a2.1 364 (by decide) (by decide), hf.1 364 (by decide) (by decide)]; exact hD.2 _ (by omega)
      rw [e3, w32_id (z := (i : Int) + 1) (by omega) (by omega)]
      refine T_seq (m_w2 (by omega) (by omega) hL.2 a1) ?_
      rintro M3 ⟨b1, b2⟩
      exact m_im130 hd hO hD k (i + 1) (w2 (l ++ [S (172 + 2 * i)]) (S (173 + 2 * i))) M3 (by omega) b1 (oO_w2 (oO_app ho (by omega))) (fI_trans hf (fI_trans a2 b2)) (by rw [w2_l, el]; omega)
    refine T_le (eMo_image_130_E (by omega)) ?_
    rw [if_pos (by rw [hf.2 47 (by decide), hD.1.2.2]; omega), if_pos (by omega), e2]
    by_cases c : S (172 + 2 * i) = 1
    · rw [if_neg (fun e => bz_b0.mp e c)]; exact go 1 c
    · rw [if_pos (bz_b0.mpr c)]; exact go 0 (by omega)
theorem q12 {c r : Nat} (hc : c ≤ 10) (hr : r ≤ 8) : bz_w32 (12 + bz_w32 (bz_w32 (8 * (c : Int)) + (r : Int))) = ((12 + (8 * c + r) : Nat) : Int) ∧ bz_w32 (92 + bz_w32 (bz_w32 (8 * (c : Int)) + (r : Int))) = ((92 + (8 * c + r) : Nat) : Int) := by
  rw [w32_id (z := 8 * (c : Int)) (by omega) (by omega), w32_id (z := 8 * (c : Int) + (r : Int)) (by omega) (by omega), w32_id (z := 12 + (8 * (c : Int) + (r : Int))) (by omega) (by omega), w32_id (z := 92 + (8 * (c : Int) + (r : Int))) (by omega) (by omega)]; omega
theorem m_im80 (hd : 1 < d) (hO : imO S C R L) (hD : mDi S C R L M) {c : Nat} (hc : c < C) {Q : Int × bz_M → Prop} : ∀ (k r : Nat) (l : List Int) (M1 : bz_M), r + k = R → mW l M1 → oO l → fI M M1 → l.length + 2 * k ≤ 191 → (∀ M2, mW (imCol S c k r l) M2 → oO (imCol S c k r l) → fI M M2 → w_T (eMo_image_70 Lg d ((c + 1 : Nat) : Int) M2) Q) → w_T (eMo_image_80 Lg d (c : Int) (r : Int) M1) Q
  | 0, r, l, M1, hr, hW, ho, hf, hl, hQ => by
    have h10 := hO.1
    refine T_le (eMo_image_80_E (by omega)) ?_
    rw [if_neg (by rw [hf.1 355 (by decide) (by decide), hD.1.2.1]; omega), w32_id (z := (c : Int) + 1) (by omega) (by omega)]
    exact hQ M1 hW ho hf
  | k + 1, r, l, M1, hr, hW, ho, hf, hl, hQ => by
    have h10 := hO.1
    have hx := hO.2.2.2.2.1 c r hc (by omega)
    have e2 : M1 364 (12 + (8 * c + r)) = S (12 + (8 * c + r)) := by rw [hf.1 364 (by decide) (by decide)]; exact hD.2 _ (by omega)
    refine T_le (eMo_image_80_E (by omega)) ?_
    rw [if_pos (by rw [hf.1 355 (by decide) (by decide), hD.1.2.1]; omega), (q12 (c := c) (r := r) (by omega) (by omega)).1, (q12 (c := c) (r := r) (by omega) (by omega)).2, if_pos (by omega), Int.toNat_natCast, Int.toNat_natCast, e2]
    refine T_seq (m_w1 (by omega) hW) ?_
    rintro M2 ⟨a1, a2⟩
    have e3 : M2 364 (92 + (8 * c + r)) = S (92 + (8 * c + r)) := by rw [a2.1 364 (by decide) (by decide), hf.1 364 (by decide) (by decide)]; exact hD.2 _ (by omega)
    rw [if_pos (by omega), e3]
    have el : (l ++ [S (12 + (8 * c + r))]).length = l.length + 1 := by rw [List.length_append, List.length_singleton]
    refine T_seq (m_w1 (by omega) a1) ?_
    rintro M3 ⟨b1, b2⟩
    rw [w32_id (z := (r : Int) + 1) (by omega) (by omega)]
    exact m_im80 hd hO hD hc k (r + 1) (l ++ [S (12 + (8 * c + r))] ++ [S (92 + (8 * c + r))]) M3 (by omega) b1 (oO_app (oO_app ho hx.1) hx.2) (fI_trans hf (fI_trans a2 b2)) (by rw [List.length_append, el, List.length_singleton]; omega) hQ
theorem m_im70 (hd : 1 < d) (hO : imO S C R L) (hD : mDi S C R L M) : ∀ (k c : Nat) (l : List Int) (M1 : bz_M), c + k = C → mW l M1 → oO l → fI M M1 → l.length + 2 * R * k + 3 * L + 1 ≤ 191 → w_T (eMo_image_70 Lg d (c : Int) M1) (fun p => p.1 = ((imLords S L 0 (imCells S R k c l)).length : Int) + 1 ∧ mW (imLords S L 0 (imCells S R k c l) ++ [ckL (imLords S L 0 (imCells S R k c l))]) p.2 ∧ fI M p.2)
  | 0, c, l, M1, hc, hW, ho, hf, hl => by
    refine T_le (eMo_image_70_E (by omega)) ?_
    rw [if_neg (by rw [hf.1 355 (by decide) (by decide), hD.1.1]; omega)]
    exact m_im130 hd hO hD L 0 l M1 (by omega) hW ho hf (by omega)
  | k + 1, c, l, M1, hc, hW, ho, hf, hl => by
    rw [Nat.mul_succ] at hl
    refine T_le (eMo_image_70_E (by omega)) ?_
    rw [if_pos (by rw [hf.1 355 (by decide) (by decide), hD.1.1]; omega)]
    refine m_im80 hd hO hD (by omega) R 0 l M1 (by omega) hW ho hf (by omega) ?_
    intro M2 h1 h2 h3
    exact m_im70 hd hO hD k (c + 1) (imCol S c R 0 l) M2 (by omega) h1 h2 h3 (by rw [imCol_l]; omega)
theorem m_im45 (hd : 1 < d) (hO : imO S C R L) (hD : mDi S C R L M) : ∀ (k c : Nat) (l : List Int) (M1 : bz_M), c + k = C → mW l M1 → oO l → fI M M1 → l.length + k + 2 * R * C + 3 * L + 1 ≤ 191 → w_T (eMo_image_45 Lg d (c : Int) M1) (fun p => p.1 = ((imLords S L 0 (imCells S R C 0 (imRows S k c l))).length : Int) + 1 ∧ mW (imLords S L 0 (imCells S R C 0 (imRows S k c l)) ++ [ckL (imLords S L 0 (imCells S R C 0 (imRows S k c l)))]) p.2 ∧ fI M p.2)
  | 0, c, l, M1, hc, hW, ho, hf, hl => by
    refine T_le (eMo_image_45_E (by omega)) ?_
    rw [if_neg (by rw [hf.1 355 (by decide) (by decide), hD.1.1]; omega)]
    exact m_im70 hd hO hD C 0 l M1 (by omega) hW ho hf (by omega)
  | k + 1, c, l, M1, hc, hW, ho, hf, hl => by
    have h10 := hO.1
    have hx := hO.2.2.2.1 c (by omega)
    have e2 : M1 364 (Int.toNat (2 + (c : Int))) = S (2 + c) := by rw [show Int.toNat (2 + (c : Int)) = 2 + c by omega, hf.1 364 (by decide) (by decide)]; exact hD.2 _ (by omega)
    refine T_le (eMo_image_45_E (by omega)) ?_
    rw [if_pos (by rw [hf.1 355 (by decide) (by decide), hD.1.1]; omega), w32_id (z := 2 + (c : Int)) (by omega) (by omega), if_pos (by omega), e2]
    refine T_seq (m_w1 (by omega) hW) ?_
    rintro M2 ⟨a1, a2⟩
    rw [w32_id (z := (c : Int) + 1) (by omega) (by omega)]
    exact m_im45 hd hO hD k (c + 1) (l ++ [S (2 + c)]) M2 (by omega) a1 (oO_app ho hx) (fI_trans hf a2) (by rw [List.length_append, List.length_singleton]; omega)
theorem m_image (hd : 1 < d) (hO : imO S C R L) (hD : mDi S C R L M) (hsz : 5 + C + 2 * R * C + 3 * L + 1 ≤ 191) : w_T (eMo_image Lg d M) (fun p => p.1 = ((imL S C R L).length : Int) ∧ mW (imL S C R L) p.2 ∧ fI M p.2) := by
  have h0 := hO.2.1
  have h1 := hO.2.2.1
  have e0 : M 364 0 = S 0 := hD.2 0 (by decide)
  have e1 : M 364 1 = S 1 := hD.2 1 (by decide)
  refine T_le (eMo_image_E (by omega)) ?_
  rw [e0]
  have f0 : fI M (bz_up M 319 131 0) := ⟨fun r _ x => bz_up_fn x, fun k hk => bz_up_nk hk _⟩
  refine T_seq (m_w2 (l := []) (by omega) (by decide) h0 ⟨bz_up_eq _ _ _ _, fun i hi => absurd hi (by simp)⟩) ?_
  rintro M1 ⟨a1, a2⟩
  have f1 := fI_trans f0 a2
  rw [f1.1 364 (by decide) (by decide), e1, Int.tdiv_eq_ediv_of_nonneg h1.1, w32_id (z := S 1 / 65536) (by omega) (by omega), show S 1 / 65536 = S 1 / 65536 % 256 by omega]
  refine T_seq (m_w1 (by rw [w2_l]; decide) a1) ?_
  rintro M2 ⟨b1, b2⟩
  have f2 := fI_trans f1 b2
  rw [f2.1 364 (by decide) (by decide), e1, Int.tmod_eq_emod_of_nonneg h1.1]
  refine T_seq (m_w2 (by omega) (by rw [List.length_append, w2_l, List.length_singleton]; decide) (by omega) b1) ?_
  rintro M3 ⟨c1, c2⟩
  have ew : w2 (w2 [] (S 0) ++ [S 1 / 65536 % 256]) (S 1 % 65536) = w2 (w2 [] (S 0) ++ [S 1 / 65536 % 256]) (S 1) := by
    show w2 [] (S 0) ++ [S 1 / 65536 % 256] ++ [S 1 % 65536 / 256 % 256] ++ [S 1 % 65536 % 256] = w2 [] (S 0) ++ [S 1 / 65536 % 256] ++ [S 1 / 256 % 256] ++ [S 1 % 256]
    rw [show S 1 % 65536 / 256 % 256 = S 1 / 256 % 256 by omega, show S 1 % 65536 % 256 = S 1 % 256 by omega]
  rw [ew] at c1
  refine T_mono (m_im45 hd hO hD C 0 _ M3 (by omega) c1 (oO_w2 (oO_app (oO_w2 (fun _ h => by cases h)) (by omega))) (fI_trans f2 c2) (by rw [imH_l]; omega)) ?_
  rintro ⟨p1, M4⟩ ⟨g1, g2, g3⟩
  dsimp only at g1 g2 g3 ⊢
  refine ⟨?_, g2, g3⟩
  unfold imL
  rw [g1, List.length_append, List.length_singleton]; rfl
/-- what an image is made of -/
theorem sim_im (hS : Sim' V S v u M) : ∃ C R L, imO S C R L ∧ cD S C R L v M ∧ mDi S C R L M ∧ 5 + C + 2 * R * C + 3 * L + 1 ≤ 191 := by
  have bd := sim_bd hS
  have bd1 := bd.1
  have bd2 := bd.2.1
  have bd3 := bd.2.2.1
  have sz := sim_sz hS
  have sL := (sim_L hS).1
  have c8 := sim_cS hS
  have hc := c8.1
  refine ⟨(M v 0).toNat, (M v 1).toNat, (M v 3).toNat, ⟨by omega, ?_⟩, ⟨by omega, ?_, fun c h => ?_, fun k h => ⟨?_, ?_⟩, fun i h => ⟨?_, ?_⟩⟩, ⟨by omega, fun k hk => hS.2.1 k (by omega)⟩, ?_⟩
  · rcases hS.2.2.1 with c | c
    · have hV := c.1.1
      have hO := c.1.2.1
      have hC := hV.2.1
      have hR := hV.2.2.1
      have hL := hV.2.2.2.2.1
      have e0 : M v 0 = vC V := c.2.1.2.1.1.1
      have e1 : M v 1 = vR V := c.2.1.2.1.1.2.1
      have e3 : M v 3 = vL V := c.2.1.2.1.1.2.2.2.1
      have o1 := hO.2.1
      refine ⟨by omega, by omega, fun i hi => ?_, fun i r hi hr => ?_, fun i hi => ?_⟩
      · have := hO.2.2.1 (i : Int) (by omega) (by omega)
        unfold sRow at this
        rw [show Int.toNat (2 + (i : Int)) = 2 + i by omega] at this
        omega
      · have := hO.2.2.2.1 ((8 * i + r : Nat) : Int) (by omega) (by omega)
        unfold sWi sEv at this
        rw [show Int.toNat (12 + ((8 * i + r : Nat) : Int)) = 12 + (8 * i + r) by omega, show Int.toNat (92 + ((8 * i + r : Nat) : Int)) = 92 + (8 * i + r) by omega] at this
        omega
      · have := hO.2.2.2.2 (i : Int) (by omega) (by omega)
        unfold sOf sPu at this
        rw [show Int.toNat (172 + 2 * (i : Int)) = 172 + 2 * i by omega, show Int.toNat (173 + 2 * (i : Int)) = 173 + 2 * i by omega] at this
        omega
    · have z := c.2.2.2.1
      have e := c.1
      refine ⟨by rw [z 0 (by decide)]; omega, by rw [z 1 (by decide)]; omega, fun i hi => by omega, fun i r hi hr => by omega, fun i hi => by omega⟩
  · rw [hc.1.1, hc.1.2]; omega
  · have := hc.2.1 (c : Int) (by omega) (by omega)
    unfold sRow at this
    rw [Int.toNat_natCast, show Int.toNat (2 + (c : Int)) = 2 + c by omega] at this
    exact this
  · have := (hc.2.2.1 (k : Int) (by omega) (by omega)).1
    unfold sWi at this
    rw [Int.toNat_natCast, show Int.toNat (12 + (k : Int)) = 12 + k by omega] at this
    exact this
  · have := (hc.2.2.1 (k : Int) (by omega) (by omega)).2
    unfold sEv at this
    rw [Int.toNat_natCast, show Int.toNat (92 + (k : Int)) = 92 + k by omega] at this
    exact this
  · have := (hc.2.2.2 (i : Int) (by omega) (by omega)).1
    unfold sOf at this
    rw [Int.toNat_natCast, show Int.toNat (172 + 2 * (i : Int)) = 172 + 2 * i by omega] at this
    exact this
  · have := (hc.2.2.2 (i : Int) (by omega) (by omega)).2
    unfold sPu at this
    rw [Int.toNat_natCast, show Int.toNat (173 + 2 * (i : Int)) = 173 + 2 * i by omega] at this
    exact this
  · have h1 : (M v 1).toNat * (M v 0).toNat ≤ 8 * 10 := Nat.mul_le_mul (by omega) (by omega)
    rw [Nat.mul_assoc]
    omega
theorem stp_image (hd : 1 < d) (h : Sim M) : stp (eBr_image Lg d) (eMo_image Lg d) M := by
  obtain ⟨V, S, v, u, hS⟩ := h
  have hvv := oV_c hS.1.1
  obtain ⟨C, R, L, hO, hD, hE, hz⟩ := sim_im hS
  refine T_mono (c_image hd hS.1.1 hS.1.2.2.2.1 hO hD hz) ?_
  rintro ⟨p1, M1⟩ ⟨a1, a2, a3, a4, a5, a6⟩
  dsimp only at a1 a2 a3 a4 a5 a6 ⊢
  have k1 : ∀ r, r ≠ 299 → r ≠ 122 → M1 r = M r := a6
  refine T_mono (m_image hd hO (M := M1) ⟨by rw [k1 355 (by decide) (by decide), k1 319 (by decide) (by decide)]; exact hE.1, fun k hk => by rw [k1 364 (by decide) (by decide)]; exact hE.2 k hk⟩ hz) ?_
  rintro ⟨p2, N⟩ ⟨b1, b2, b3⟩
  dsimp only at b1 b2 b3 ⊢
  have k : ∀ r, r ≠ 299 → r ≠ 122 → r ≠ 411 → r ≠ 319 → N r = M r := fun r x1 x2 x3 x4 => by rw [b3.1 r x3 x4, k1 r x1 x2]
  have k9 : ∀ i, i ≠ 131 → N 319 i = M 319 i := fun i hi => by rw [b3.2 i hi, k1 319 (by decide) (by decide)]
  have k12 : ∀ i, i ≠ 12 → N 122 i = M 122 i := fun i hi => by rw [b3.1 122 (by decide) (by decide), a5 i hi]
  have t1 := hS.2.2.2.1
  have t2 := hS.2.2.2.2.1
  have t3 := hS.2.2.2.2.2.1
  have t4 := hS.2.2.2.2.2.2.1
  have el : (imL S C R L).length ≤ 191 := by
    unfold imL
    rw [List.length_append, List.length_singleton, imB_l]; omega
  refine ⟨by rw [a1, b1], ⟨V, S, v, u, Sim_g hS ⟨fun r _ x2 x3 x4 => k r x4 x2 x3 (by omega), k12 11 (by decide), by rw [k 279 (by decide) (by decide) (by decide) (by decide)], fun j _ _ x => k9 j x, fun j _ => by rw [k 355 (by decide) (by decide) (by decide) (by decide)], fun j _ => by rw [k 356 (by decide) (by decide) (by decide) (by decide)], fun j _ => by rw [k 357 (by decide) (by decide) (by decide) (by decide)], fun j _ => by rw [k 358 (by decide) (by decide) (by decide) (by decide)], fun j _ => ⟨by rw [k 361 (by decide) (by decide) (by decide) (by decide)], by rw [k 362 (by decide) (by decide) (by decide) (by decide)]⟩, fun j _ => by rw [k 363 (by decide) (by decide) (by decide) (by decide)]⟩ (tpR_co t1 (by rw [k 123 (by decide) (by decide) (by decide) (by decide)]) (k9 1 (by decide)) (k 320 (by decide) (by decide) (by decide) (by decide)) (k 124 (by decide) (by decide) (by decide) (by decide))) ?_ ?_ ?_ ⟨?_, ?_, fun i hi => ?_⟩⟩, fun r hr => k r (by omega) (by omega) (by omega) (by omega)⟩
  · unfold ftR at t2 ⊢
    rw [k 123 (by decide) (by decide) (by decide) (by decide), k9 7 (by decide), k9 8 (by decide)]
    exact t2
  · unfold rfR at t3 ⊢
    rw [k 302 (by decide) (by decide) (by decide) (by decide), k 321 (by decide) (by decide) (by decide) (by decide)]
    exact t3
  · unfold drR at t4 ⊢
    rw [k12 13 (by decide), k9 87 (by decide)]
    exact t4
  · rw [b3.1 122 (by decide) (by decide), a4, b2.1]
  · rw [b2.1]; omega
  · rw [b2.1] at hi
    have hg := gD_oO a3 (i := i) (by omega)
    rw [b2.2 i (by omega), b3.1 299 (by decide) (by decide), a2 i (by omega), w8_255 hg.1 hg.2]
end TA

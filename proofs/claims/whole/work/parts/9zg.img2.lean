/-! SIM: image, class and reference -/
/-- what an image is made of, class and reference -/
def cD (S : Nat → Int) (C R L v : Nat) (M : bz_M) : Prop := (M v 0 = (C : Int) ∧ M v 1 = (R : Int) ∧ M v 3 = (L : Int)) ∧ (M 148 0 = S 0 ∧ M 148 1 = S 1) ∧ (∀ c, c < 10 → M 149 c = S (2 + c)) ∧ (∀ k, k < 80 → M 150 k = S (12 + k) ∧ M 151 k = S (92 + k)) ∧ ∀ i, i < 5 → M 152 i = S (172 + 2 * i) ∧ M 153 i = S (173 + 2 * i)
def mDi (S : Nat → Int) (C R L : Nat) (M : bz_M) : Prop := (M 355 3 = (C : Int) ∧ M 355 4 = (R : Int) ∧ M 319 47 = (L : Int)) ∧ ∀ k, k < 182 → M 364 k = S k
section SZ
variable {Lg d : Nat} {V M M' M1 M2 N1 N2 : bz_M} {S S' B P T : Nat → Int} {v u s j n C R L : Nat} {l : List Int}
theorem q8c {c r : Nat} (hc : c ≤ 10) (hr : r ≤ 8) : bz_w32 (bz_w32 ((c : Int) * 8) + (r : Int)) = ((8 * c + r : Nat) : Int) := by
  rw [w32_id (z := (c : Int) * 8) (by omega) (by omega), w32_id (by omega) (by omega)]; omega
theorem gD_mid {l1 l2 : List Int} {x : Int} : (l1 ++ x :: l2).getD l1.length 0 = x := by
  simp only [List.getD_eq_getElem?_getD]
  rw [List.getElem?_append_right (Nat.le_refl _), Nat.sub_self]; rfl
theorem c_ck {a na : Nat} (ha : bz_kd Lg a = some (.inr (2, na))) (hna : na ≤ 1600) (hl : l.length ≤ na) (h : ∀ i, i < l.length → bz_and (M a i) 255 = l.getD i 0) (ho : oO l) : w_T (eSt_check Lg d a (l.length : Int) M) (fun p => p = (ckL l, M)) := by
  have key : ∀ (l2 l1 : List Int), l = l1 ++ l2 → w_T (eSt_check_6 Lg d a (l.length : Int) (ckL l1) (l1.length : Int) M) (fun p => p = (ckL l, M)) := by
    intro l2
    induction l2 with
    | nil =>
      intro l1 e
      rw [List.append_nil] at e
      refine T_le (eSt_check_6_E ha) ?_
      rw [e, if_neg (by omega)]
      exact T_some rfl
    | cons x l2 ih =>
      intro l1 e
      have el : l.length = l1.length + (l2.length + 1) := by rw [e, List.length_append]; rfl
      have hx : 0 ≤ x ∧ x < 256 := ho x (by rw [e]; exact List.mem_append_right _ List.mem_cons_self)
      have hc := ckL_bd (l := l1)
      have hv : bz_and (M a l1.length) 255 = x := by rw [h l1.length (by omega), e, gD_mid]
      refine T_le (eSt_check_6_E ha) ?_
      rw [if_pos (by omega), if_pos (by omega), if_pos (by omega), Int.toNat_natCast, hv, w32_id (z := 3 * ckL l1) (by omega) (by omega), w32_id (z := 3 * ckL l1 + x) (by omega) (by omega), w32_id (z := (l1.length : Int) + 1) (by omega) (by omega), Int.tmod_eq_emod_of_nonneg (by omega), ← ckL_app]
      have := ih (l1 ++ [x]) (by rw [e, List.append_assoc]; rfl)
      rw [List.length_append, List.length_singleton] at this
      exact this
  refine T_le eSt_check_E ?_
  exact key l [] rfl
theorem m_ck {a na : Nat} (ha : bz_kd Lg a = some (.inr (0, na))) (hna : na ≤ 1600) (hl : l.length ≤ na) (h : ∀ i, i < l.length → M a i = l.getD i 0) (ho : oO l) : w_T (eMo_checked Lg d a (l.length : Int) M) (fun p => p = (ckL l, M)) := by
  have key : ∀ (l2 l1 : List Int), l = l1 ++ l2 → w_T (eMo_checked_6 Lg d a (l.length : Int) (ckL l1) (l1.length : Int) M) (fun p => p = (ckL l, M)) := by
    intro l2
    induction l2 with
    | nil =>
      intro l1 e
      rw [List.append_nil] at e
      refine T_le (eMo_checked_6_E ha) ?_
      rw [e, if_neg (by omega)]
      exact T_some rfl
    | cons x l2 ih =>
      intro l1 e
      have el : l.length = l1.length + (l2.length + 1) := by rw [e, List.length_append]; rfl
      have hx : 0 ≤ x ∧ x < 256 := ho x (by rw [e]; exact List.mem_append_right _ List.mem_cons_self)
      have hc := ckL_bd (l := l1)
      have hv : M a l1.length = x := by rw [h l1.length (by omega), e, gD_mid]
      refine T_le (eMo_checked_6_E ha) ?_
      rw [if_pos (by omega), if_pos (by omega), Int.toNat_natCast, hv, w32_id (z := 3 * ckL l1) (by omega) (by omega), w32_id (z := 3 * ckL l1 + x) (by omega) (by omega), w32_id (z := (l1.length : Int) + 1) (by omega) (by omega), Int.tmod_eq_emod_of_nonneg (by omega), ← ckL_app]
      have := ih (l1 ++ [x]) (by rw [e, List.append_assoc]; rfl)
      rw [List.length_append, List.length_singleton] at this
      exact this
  refine T_le eMo_checked_E ?_
  exact key l [] rfl
theorem gD_oO (ho : oO l) {i : Nat} (hi : i < l.length) : 0 ≤ l.getD i 0 ∧ l.getD i 0 < 256 := by
  have : l.getD i 0 = l[i] := by simp [List.getD_eq_getElem?_getD, List.getElem?_eq_getElem hi]
  rw [this]
  exact ho _ (List.getElem_mem hi)
abbrev f299 (M M' : bz_M) : Prop := ∀ r, r ≠ 299 → M' r = M r
theorem c_im133 (hd : 0 < d) (o : bz_oV v) (hO : imO S C R L) (hD : cD S C R L v M) : ∀ (k i : Nat) (l : List Int) (M1 : bz_M), i + k = L → cW l M1 → oO l → f299 M M1 → l.length + 3 * k + 1 ≤ 191 → w_T (eSt_write_133 Lg d 148 299 v (l.length : Int) (i : Int) M1) (fun p => p.1 = ((imLords S k i l).length : Int) + 1 ∧ cW (imLords S k i l ++ [ckL (imLords S k i l)]) p.2 ∧ oO (imLords S k i l) ∧ f299 M p.2)
  | 0, i, l, M1, hi, hW, ho, hf, hl => by
    have hvv := oV_c o
    refine T_le (eSt_write_133_E hd (by decide) o) ?_
    rw [if_neg (by rw [hf v (by omega), hD.1.2.2]; omega)]
    refine T_seq (c_ck (na := 191) rfl (by omega) (by omega) (fun j hj => by rw [hW j hj]; exact w8_255 (gD_oO ho hj).1 (gD_oO ho hj).2) ho) ?_
    rintro p rfl
    dsimp only
    refine T_seq (c_w1 (by omega) ckL_bd hW) ?_
    rintro ⟨p1, M2⟩ ⟨a1, a2, a3⟩
    dsimp only at a1 a2 a3 ⊢
    refine T_some ⟨?_, a2, ho, fun r hr => (a3 r hr).trans (hf r hr)⟩
    rw [a1, List.length_append, List.length_singleton]; rfl
  | k + 1, i, l, M1, hi, hW, ho, hf, hl => by
    have hvv := oV_c o
    have hL := hO.2.2.2.2.2 i (by omega)
    have h5 := hO.1.2.2
    have e2 : M1 (148 + 4) (Int.toNat (i : Int)) = S (172 + 2 * i) := by rw [Int.toNat_natCast, hf (148 + 4) (by decide)]; exact (hD.2.2.2.2 i (by omega)).1
    refine T_le (eSt_write_133_E hd (by decide) o) ?_
    rw [if_pos (by rw [hf v (by omega), hD.1.2.2]; omega), if_pos (by omega), e2]
    refine T_seq (c_w1 (by omega) (by omega) hW) ?_
    rintro ⟨p1, M2⟩ ⟨a1, a2, a3⟩
    dsimp only at a1 a2 a3 ⊢
    have e3 : M2 (148 + 5) (Int.toNat (i : Int)) = S (173 + 2 * i) := by rw [Int.toNat_natCast, a3 (148 + 5) (by decide), hf (148 + 5) (by decide)]; exact (hD.2.2.2.2 i (by omega)).2
    rw [a1, e3]
    have el : (l ++ [S (172 + 2 * i)]).length = l.length + 1 := by rw [List.length_append, List.length_singleton]
    refine T_seq (c_w2 (by omega) (by omega) a2) ?_
    rintro ⟨p2, M3⟩ ⟨b1, b2, b3⟩
    dsimp only at b1 b2 b3 ⊢
    rw [b1, w32_id (z := (i : Int) + 1) (by omega) (by omega)]
    exact c_im133 hd o hO hD k (i + 1) (w2 (l ++ [S (172 + 2 * i)]) (S (173 + 2 * i))) M3 (by omega) b2 (oO_w2 (oO_app ho (by omega))) (fun r hr => ((b3 r hr).trans (a3 r hr)).trans (hf r hr)) (by rw [w2_l, el]; omega)
theorem c_im69 (hd : 0 < d) (o : bz_oV v) (hO : imO S C R L) (hD : cD S C R L v M) {c : Nat} (hc : c < C) {Q : Int × bz_M → Prop} : ∀ (k r : Nat) (l : List Int) (M1 : bz_M), r + k = R → cW l M1 → oO l → f299 M M1 → l.length + 2 * k ≤ 191 → (∀ M2, cW (imCol S c k r l) M2 → oO (imCol S c k r l) → f299 M M2 → w_T (eSt_write_57 Lg d 148 299 v ((imCol S c k r l).length : Int) ((c + 1 : Nat) : Int) M2) Q) → w_T (eSt_write_69 Lg d 148 299 v (l.length : Int) (c : Int) (r : Int) M1) Q
  | 0, r, l, M1, hr, hW, ho, hf, hl, hQ => by
    have hvv := oV_c o
    have h10 := hO.1
    refine T_le (eSt_write_69_E hd (by decide) o) ?_
    rw [if_neg (by rw [hf v (by omega), hD.1.2.1]; omega), w32_id (z := (c : Int) + 1) (by omega) (by omega)]
    exact hQ M1 hW ho hf
  | k + 1, r, l, M1, hr, hW, ho, hf, hl, hQ => by
    have hvv := oV_c o
    have h10 := hO.1
    have hx := hO.2.2.2.2.1 c r hc (by omega)
    have e2 : M1 (148 + 2) (8 * c + r) = S (12 + (8 * c + r)) := by rw [hf (148 + 2) (by decide)]; exact (hD.2.2.2.1 (8 * c + r) (by omega)).1
    refine T_le (eSt_write_69_E hd (by decide) o) ?_
    rw [if_pos (by rw [hf v (by omega), hD.1.2.1]; omega), q8c (c := c) (r := r) (by omega) (by omega), if_pos (by omega), Int.toNat_natCast, e2]
    refine T_seq (c_w1 (by omega) hx.1 hW) ?_
    rintro ⟨p1, M2⟩ ⟨a1, a2, a3⟩
    dsimp only at a1 a2 a3 ⊢
    have e3 : M2 (148 + 3) (8 * c + r) = S (92 + (8 * c + r)) := by rw [a3 (148 + 3) (by decide), hf (148 + 3) (by decide)]; exact (hD.2.2.2.1 (8 * c + r) (by omega)).2
    rw [a1, e3]
    have el : (l ++ [S (12 + (8 * c + r))]).length = l.length + 1 := by rw [List.length_append, List.length_singleton]
    refine T_seq (c_w1 (by omega) hx.2 a2) ?_
    rintro ⟨p2, M3⟩ ⟨b1, b2, b3⟩
    dsimp only at b1 b2 b3 ⊢
    rw [b1, w32_id (z := (r : Int) + 1) (by omega) (by omega)]
    exact c_im69 hd o hO hD hc k (r + 1) (l ++ [S (12 + (8 * c + r))] ++ [S (92 + (8 * c + r))]) M3 (by omega) b2 (oO_app (oO_app ho hx.1) hx.2) (fun r hr => ((b3 r hr).trans (a3 r hr)).trans (hf r hr)) (by rw [List.length_append, el, List.length_singleton]; omega) hQ
theorem c_im57 (hd : 0 < d) (o : bz_oV v) (hO : imO S C R L) (hD : cD S C R L v M) : ∀ (k c : Nat) (l : List Int) (M1 : bz_M), c + k = C → cW l M1 → oO l → f299 M M1 → l.length + 2 * R * k + 3 * L + 1 ≤ 191 → w_T (eSt_write_57 Lg d 148 299 v (l.length : Int) (c : Int) M1) (fun p => p.1 = ((imLords S L 0 (imCells S R k c l)).length : Int) + 1 ∧ cW (imLords S L 0 (imCells S R k c l) ++ [ckL (imLords S L 0 (imCells S R k c l))]) p.2 ∧ oO (imLords S L 0 (imCells S R k c l)) ∧ f299 M p.2)
  | 0, c, l, M1, hc, hW, ho, hf, hl => by
    have hvv := oV_c o
    refine T_le (eSt_write_57_E o) ?_
    rw [if_neg (by rw [hf v (by omega), hD.1.1]; omega)]
    exact c_im133 hd o hO hD L 0 l M1 (by omega) hW ho hf (by omega)
  | k + 1, c, l, M1, hc, hW, ho, hf, hl => by
    have hvv := oV_c o
    rw [Nat.mul_succ] at hl
    refine T_le (eSt_write_57_E o) ?_
    rw [if_pos (by rw [hf v (by omega), hD.1.1]; omega)]
    refine c_im69 hd o hO hD (by omega) R 0 l M1 (by omega) hW ho hf (by omega) ?_
    intro M2 h1 h2 h3
    exact c_im57 hd o hO hD k (c + 1) (imCol S c R 0 l) M2 (by omega) h1 h2 h3 (by rw [imCol_l]; omega)
theorem c_im25 (hd : 0 < d) (o : bz_oV v) (hO : imO S C R L) (hD : cD S C R L v M) : ∀ (k c : Nat) (l : List Int) (M1 : bz_M), c + k = C → cW l M1 → oO l → f299 M M1 → l.length + k + 2 * R * C + 3 * L + 1 ≤ 191 → w_T (eSt_write_25 Lg d 148 299 v (l.length : Int) (c : Int) M1) (fun p => p.1 = ((imLords S L 0 (imCells S R C 0 (imRows S k c l))).length : Int) + 1 ∧ cW (imLords S L 0 (imCells S R C 0 (imRows S k c l)) ++ [ckL (imLords S L 0 (imCells S R C 0 (imRows S k c l)))]) p.2 ∧ oO (imLords S L 0 (imCells S R C 0 (imRows S k c l))) ∧ f299 M p.2)
  | 0, c, l, M1, hc, hW, ho, hf, hl => by
    have hvv := oV_c o
    refine T_le (eSt_write_25_E hd (by decide) o) ?_
    rw [if_neg (by rw [hf v (by omega), hD.1.1]; omega)]
    exact c_im57 hd o hO hD C 0 l M1 (by omega) hW ho hf (by omega)
  | k + 1, c, l, M1, hc, hW, ho, hf, hl => by
    have hvv := oV_c o
    have h10 := hO.1
    have hx := hO.2.2.2.1 c (by omega)
    have e2 : M1 (148 + 1) (Int.toNat (c : Int)) = S (2 + c) := by rw [Int.toNat_natCast, hf (148 + 1) (by decide)]; exact hD.2.2.1 c (by omega)
    refine T_le (eSt_write_25_E hd (by decide) o) ?_
    rw [if_pos (by rw [hf v (by omega), hD.1.1]; omega), if_pos (by omega), e2]
    refine T_seq (c_w1 (by omega) hx hW) ?_
    rintro ⟨p1, M2⟩ ⟨a1, a2, a3⟩
    dsimp only at a1 a2 a3 ⊢
    rw [a1, w32_id (z := (c : Int) + 1) (by omega) (by omega)]
    exact c_im25 hd o hO hD k (c + 1) (l ++ [S (2 + c)]) M2 (by omega) a2 (oO_app ho hx) (fun r hr => (a3 r hr).trans (hf r hr)) (by rw [List.length_append, List.length_singleton]; omega)
theorem c_image (hd : 1 < d) (o : bz_oV v) (h131 : M 131 0 = (v : Int)) (hO : imO S C R L) (hD : cD S C R L v M) (hsz : 5 + C + 2 * R * C + 3 * L + 1 ≤ 191) : w_T (eBr_image Lg d M) (fun p => p.1 = ((imL S C R L).length : Int) ∧ cW (imL S C R L) p.2 ∧ oO (imL S C R L) ∧ p.2 122 12 = ((imL S C R L).length : Int) ∧ (∀ k, k ≠ 12 → p.2 122 k = M 122 k) ∧ ∀ r, r ≠ 299 → r ≠ 122 → p.2 r = M r) := by
  have hvv := oV_c o
  refine T_le (eBr_image_E (v := v) (by omega)) ?_
  rw [if_pos h131]
  have key : w_T (eSt_write Lg (d - 1) 148 299 v M) (fun p => p.1 = ((imB S C R L).length : Int) + 1 ∧ cW (imL S C R L) p.2 ∧ oO (imB S C R L) ∧ f299 M p.2) := by
    refine T_le (eSt_write_E (by omega) (by decide)) ?_
    rw [hD.2.1.1]
    refine T_seq (c_w2 (l := []) (by decide) (by have := hO.2.1; omega) (fun i hi => absurd hi (by simp))) ?_
    rintro ⟨p1, M1⟩ ⟨a1, a2, a3⟩
    dsimp only at a1 a2 a3 ⊢
    rw [a1, a3 148 (by decide), hD.2.1.2]
    refine T_seq (c_w3 (by rw [w2_l]; decide) (by have := hO.2.2.1; omega) a2) ?_
    rintro ⟨p2, M2⟩ ⟨b1, b2, b3⟩
    dsimp only at b1 b2 b3 ⊢
    rw [b1]
    exact c_im25 (by omega) o hO hD C 0 _ M2 (by omega) b2 (oO_w2 (oO_app (oO_w2 (fun _ h => by cases h)) (by omega))) (fun r hr => (b3 r hr).trans (a3 r hr)) (by rw [imH_l]; omega)
  refine T_seq key ?_
  rintro ⟨p1, M1⟩ ⟨a1, a2, a3, a4⟩
  dsimp only at a1 a2 a3 a4 ⊢
  have el : ((imL S C R L).length : Int) = p1 := by
    unfold imL
    rw [a1, List.length_append, List.length_singleton]; rfl
  refine T_some ?_
  dsimp only
  refine ⟨el.symm, fun i hi => by rw [bz_up_nr (by decide)]; exact a2 i hi, oO_app a3 ckL_bd, by rw [bz_up_eq, el], fun k hk => by rw [bz_up_nk hk, a4 122 (by decide)], fun r x1 x2 => by rw [bz_up_fn x2]; exact a4 r x1⟩
end SZ

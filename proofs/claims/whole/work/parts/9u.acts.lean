/-! SIM: acts: what is remembered -/
section SN
variable {Lg d : Nat} {V M M' M1 M2 N1 N2 : bz_M} {S S' : Nat → Int} {v u s j : Nat}
theorem stO_cg (hV : vOK V) (h : stO V S) (e : ∀ k, k < 182 → S' k = S k) : stO V S' := by
  have hC := hV.2.1
  have hR := hV.2.2.1
  have hL := hV.2.2.2.2.1
  obtain ⟨⟨a1, a2, a3, a4, a5⟩, b1, b2, b3, b4⟩ := h
  have er : ∀ c : Int, 0 ≤ c → c < 10 → sRow S' c = sRow S c := fun c x y => e _ (by omega)
  have ew : ∀ c : Int, 0 ≤ c → c < 80 → sWi S' c = sWi S c ∧ sEv S' c = sEv S c := fun c x y => ⟨e _ (by omega), e _ (by omega)⟩
  have el : ∀ c : Int, 0 ≤ c → c < 5 → sOf S' c = sOf S c ∧ sPu S' c = sPu S c := fun c x y => ⟨e _ (by omega), e _ (by omega)⟩
  refine ⟨⟨by rw [e 0 (by decide)]; exact a1, by rw [e 1 (by decide)]; exact a2, fun c x y => by rw [er c x (by omega)]; exact a3 c x y, fun k x y => by rw [(ew k x y).1, (ew k x y).2]; exact a4 k x y, fun l x y => by rw [(el l x (by omega)).1, (el l x (by omega)).2]; exact a5 l x y⟩, by rw [e 0 (by decide)]; exact b1, fun k x y => by rw [(ew k x y).1]; exact b2 k x y, fun l x y => by rw [(el l (by omega) y).1, (el l (by omega) y).2]; exact b3 l x y, fun c x y => by rw [e _ (by omega)]; exact b4.1 c x y, fun c r x y z => by rw [e _ (by omega), e _ (by omega)]; exact b4.2 c r x y z⟩
theorem cS_cg (h : cS s S M) (e : ∀ k, k < 182 → S' k = S k) : cS s S' M := by
  refine ⟨by rw [e 0 (by decide), e 1 (by decide)]; exact h.1, fun c x y => (h.2.1 c x y).trans (e _ (by omega)).symm, fun k x y => ⟨(h.2.2.1 k x y).1.trans (e _ (by omega)).symm, (h.2.2.1 k x y).2.trans (e _ (by omega)).symm⟩, fun l x y => ⟨(h.2.2.2 l x y).1.trans (e _ (by omega)).symm, (h.2.2.2 l x y).2.trans (e _ (by omega)).symm⟩⟩
theorem kpR_cg (h : kpR S s M) (e : ∀ k, k < 303 → S' k = S k) : kpR S' s M := by
  obtain ⟨a, b, c⟩ := h
  refine ⟨by rw [e 0 (by decide)]; exact a, by rw [e 182 (by decide)]; exact b, fun i hi => ?_⟩
  rw [e 182 (by decide)] at hi
  have hb : (i : Int) < 40 := by omega
  rw [e (183 + 3 * i) (by omega), e (184 + 3 * i) (by omega), e (185 + 3 * i) (by omega), e 182 (by decide), e 0 (by decide)]
  exact c i hi
theorem kpR_lt (h : kpR S s M) (h1 : M' s 2 = M s 2) (h3 : ∀ k : Nat, (k : Int) < M s 2 → M' 300 k = M 300 k ∧ M' 301 k = M 301 k) : kpR S s M' := by
  obtain ⟨a, b, c⟩ := h
  refine ⟨by rw [h1]; exact a, by rw [h1]; exact b, fun i hi => ?_⟩
  have := h3 (M s 2 - S 182 + i).toNat (by omega)
  rw [h1, this.1, this.2]
  exact c i hi
theorem pa_chain (h : paR V M) : ∀ i : Nat, (i : Int) < M 157 0 → M (159 + 6 * pjR M i) 2 ≤ M 148 2
  | 0, hi => by
    have := (h.2.2.2.2 0 hi).2.2.2
    rw [if_pos rfl] at this
    exact this
  | i + 1, hi => by
    have a := (h.2.2.2.2 (i + 1) hi).2.2.2
    rw [if_neg (by omega), Nat.add_sub_cancel] at a
    have b := pa_chain h i (by omega)
    omega
/-- what the class remembers -/
def rmC (M : bz_M) (j : Nat) (M' : bz_M) : Prop := (M' 157 1 = (j : Int) ∧ M' 157 0 = min (M 157 0 + 1) 20) ∧ (M' (159 + 6 * j) 0 = M 148 0 ∧ M' (159 + 6 * j) 1 = M 148 1 ∧ M' (159 + 6 * j) 2 = M 148 2) ∧ (∀ k, k < 10 → M' (159 + 6 * j + 1) k = M (148 + 1) k) ∧ (∀ k, k < 80 → M' (159 + 6 * j + 2) k = M (148 + 2) k ∧ M' (159 + 6 * j + 3) k = M (148 + 3) k) ∧ (∀ k, k < 5 → M' (159 + 6 * j + 4) k = M (148 + 4) k ∧ M' (159 + 6 * j + 5) k = M (148 + 5) k) ∧ ∀ r, r ≠ 157 → ¬ (159 + 6 * j ≤ r ∧ r ≤ 159 + 6 * j + 5) → M' r = M r
/-- what the reference remembers -/
def kpM (M : bz_M) (j : Nat) (M' : bz_M) : Prop := (M' 319 86 = (j : Int) ∧ M' 319 85 = min (M 319 85 + 1) 20) ∧ (∀ k, k < 303 → M' 375 (303 * j + k) = M 364 k) ∧ (∀ i, ¬ (303 * j ≤ i ∧ i < 303 * j + 303) → M' 375 i = M 375 i) ∧ (∀ k, k ≠ 85 → k ≠ 86 → M' 319 k = M 319 k) ∧ ∀ r, r ≠ 319 → r ≠ 375 → M' r = M r
theorem oS_j : ∀ j, j < 20 → bz_oS (159 + 6 * j) ∧ 159 + 6 * j ≠ 148 := by decide
theorem tm20 (n : Nat) : Int.tmod ((n : Int) + 1) 20 = (((n + 1) % 20 : Nat) : Int) := by
  rw [Int.tmod_eq_emod_of_nonneg (by omega)]; omega
theorem pa_rem (hd : 0 < d) {n : Nat} (h1 : M 157 1 = (n : Int)) (hn : n < 20) (h0 : 0 ≤ M 157 0 ∧ M 157 0 ≤ 20) (h158 : ∀ j, j < 20 → M 158 j = ((159 + 6 * j : Nat) : Int)) : w_T (ePa_remember Lg d M) (rmC M ((n + 1) % 20)) := by
  have hj : (n + 1) % 20 < 20 := Nat.mod_lt _ (by decide)
  generalize hJ : (n + 1) % 20 = j at hj
  have ho := oS_j j hj
  refine T_le (ePa_remember_E hd) ?_
  rw [h1, w32_id (z := (n : Int) + 1) (by omega) (by omega), tm20, hJ, if_pos (by omega), Int.toNat_natCast, h158 j hj, Int.toNat_natCast, if_pos (oS_k ho.1)]
  obtain ⟨M1, e, a0, a1, a2, a4, af⟩ := st_copy (Lg := Lg) (d := d - 1) (M := bz_up M 157 1 (j : Int)) ho.1 (show bz_oS 148 by decide) ho.2
  refine T_run e ?_
  have e0 : M1 157 0 = M 157 0 := by rw [af 157 (by omega), bz_up_nk (by decide)]
  have k : ∀ r, r ≠ 157 → bz_up M 157 1 (j : Int) r = M r := fun r hr => bz_up_fn hr
  have k' : ∀ r, r ≠ 157 → bz_up M1 157 0 (min (bz_w32 (M1 157 0 + 1)) 20) r = M1 r := fun r hr => bz_up_fn hr
  refine T_some ⟨⟨?_, ?_⟩, ?_, fun i hi => ?_, fun i hi => ?_, fun i hi => ?_, fun r x1 x2 => ?_⟩
  · rw [bz_up_nk (by decide), af 157 (by omega), bz_up_eq]
  · rw [bz_up_eq, e0, w32_id (by omega) (by omega)]
  · rw [k' _ (by omega), a0.1, a0.2.1, a0.2.2, k 148 (by decide)]
    exact ⟨rfl, rfl, rfl⟩
  · rw [k' _ (by omega), a1 i hi, k (148 + 1) (by decide)]
  · rw [k' _ (by omega), k' _ (by omega), (a2 i hi).1, (a2 i hi).2, k (148 + 2) (by decide), k (148 + 3) (by decide)]
    exact ⟨rfl, rfl⟩
  · rw [k' _ (by omega), k' _ (by omega), (a4 i hi).1, (a4 i hi).2, k (148 + 4) (by decide), k (148 + 5) (by decide)]
    exact ⟨rfl, rfl⟩
  · rw [k' _ x1, af r x2, k r x1]
theorem mo_keeps {n : Nat} (h1 : M 319 86 = (n : Int)) (hn : n < 20) (h0 : 0 ≤ M 319 85 ∧ M 319 85 ≤ 20) : w_T (eMo_keeps Lg d M) (kpM M ((n + 1) % 20)) := by
  have hj : (n + 1) % 20 < 20 := Nat.mod_lt _ (by decide)
  generalize hJ : (n + 1) % 20 = j at hj
  have key : ∀ (f i : Nat) (M1 : bz_M), i + f = 303 → M1 319 86 = (j : Int) → (∀ k, k < i → M1 375 (303 * j + k) = M 364 k) → (∀ q, ¬ (303 * j ≤ q ∧ q < 303 * j + 303) → M1 375 q = M 375 q) → (∀ k, k ≠ 86 → M1 319 k = M 319 k) → (∀ r, r ≠ 319 → r ≠ 375 → M1 r = M r) → w_T (eMo_keeps_15 Lg d (i : Int) M1) (kpM M j) := by
    intro f
    induction f with
    | zero =>
      intro i M1 hi g1 g2 g3 g4 g5
      refine T_le eMo_keeps_15_E ?_
      have e5 : M1 319 85 = M 319 85 := g4 85 (by decide)
      rw [if_neg (by omega), e5]
      rw [show i = 303 by omega] at g2
      by_cases c : M 319 85 < 20
      · rw [if_pos c]
        refine T_some ⟨⟨?_, ?_⟩, fun k hk => ?_, fun q hq => ?_, fun k x1 x2 => ?_, fun r x1 x2 => ?_⟩
        · rw [bz_up_nk (by decide)]; exact g1
        · rw [bz_up_eq, w32_id (by omega) (by omega)]; omega
        · rw [bz_up_nr (by decide)]; exact g2 k hk
        · rw [bz_up_nr (by decide)]; exact g3 q hq
        · rw [bz_up_nk x1]; exact g4 k x2
        · rw [bz_up_fn x1]; exact g5 r x1 x2
      · rw [if_neg c]
        exact T_some ⟨⟨g1, by rw [e5]; omega⟩, g2, g3, fun k _ x2 => g4 k x2, g5⟩
    | succ f ih =>
      intro i M1 hi g1 g2 g3 g4 g5
      refine T_le eMo_keeps_15_E ?_
      rw [if_pos (by omega), if_pos (by omega), g1, w32_id (z := 303 * (j : Int)) (by omega) (by omega), w32_id (z := 303 * (j : Int) + (i : Int)) (by omega) (by omega), if_pos (by omega), w32_id (z := (i : Int) + 1) (by omega) (by omega), Int.toNat_natCast, show (303 * (j : Int) + (i : Int)).toNat = 303 * j + i by omega]
      refine ih (i + 1) _ (by omega) ?_ (fun k hk => ?_) (fun q hq => ?_) (fun k hk => ?_) (fun r x1 x2 => ?_)
      · rw [bz_up_nr (by decide)]; exact g1
      · by_cases e : k = i
        · rw [e, bz_up_eq, g5 364 (by decide) (by decide)]
        · rw [bz_up_nk (by omega)]; exact g2 k (by omega)
      · rw [bz_up_nk (by omega)]; exact g3 q hq
      · rw [bz_up_nr (by decide)]; exact g4 k hk
      · rw [bz_up_fn x2]; exact g5 r x1 x2
  refine T_le eMo_keeps_E ?_
  rw [h1, w32_id (z := (n : Int) + 1) (by omega) (by omega), tm20, hJ]
  exact key 303 0 _ (by omega) (bz_up_eq _ _ _ _) (fun k hk => by omega) (fun q hq => bz_up_nr (by decide) _) (fun k hk => bz_up_nk hk _) (fun r x1 _ => bz_up_fn x1)
theorem paR_keep (hV : vOK V) (h : paR V M) (hO : stO V S) (h8 : cS 148 S M) (hk : kpR S 148 M) (hR : ∀ k, k < 303 → M 364 k = S k) (hj : j = ((M 157 1).toNat + 1) % 20) (p1 : M' 157 1 = (j : Int)) (p2 : M' 319 86 = (j : Int)) (p0 : M' 157 0 = min (M 157 0 + 1) 20) (p3 : M' 319 85 = min (M 157 0 + 1) 20) (b0 : M' (159 + 6 * j) 0 = M 148 0 ∧ M' (159 + 6 * j) 1 = M 148 1 ∧ M' (159 + 6 * j) 2 = M 148 2) (b1 : ∀ k, k < 10 → M' (159 + 6 * j + 1) k = M (148 + 1) k) (b2 : ∀ k, k < 80 → M' (159 + 6 * j + 2) k = M (148 + 2) k ∧ M' (159 + 6 * j + 3) k = M (148 + 3) k) (b4 : ∀ k, k < 5 → M' (159 + 6 * j + 4) k = M (148 + 4) k ∧ M' (159 + 6 * j + 5) k = M (148 + 5) k) (fr : ∀ r, 158 ≤ r → r ≤ 278 → ¬ (159 + 6 * j ≤ r ∧ r ≤ 159 + 6 * j + 5) → M' r = M r) (q1 : ∀ k, k < 303 → M' 375 (303 * j + k) = M 364 k) (q2 : ∀ i, ¬ (303 * j ≤ i ∧ i < 303 * j + 303) → M' 375 i = M 375 i) (hm : M 148 2 ≤ M' 148 2) (h3 : ∀ k : Nat, (k : Int) < M 148 2 → M' 300 k = M 300 k ∧ M' 301 k = M 301 k) : paR V M' := by
  have ch := pa_chain h
  obtain ⟨c1, c2, c3, c4, c5⟩ := h
  have e0 : pjR M' 0 = j := by
    unfold pjR
    rw [p1]; omega
  have eS : ∀ i, 1 ≤ i → i < 20 → pjR M' i = pjR M (i - 1) ∧ pjR M (i - 1) ≠ j := fun i x y => by
    unfold pjR
    rw [p1]; omega
  refine ⟨⟨by rw [p0, p3], by rw [p1, p2]⟩, by rw [p0]; omega, by rw [p1]; omega, fun i hi => by rw [fr 158 (by decide) (by decide) (by omega)]; exact c4 i hi, fun i hi => ?_⟩
  rw [p0] at hi
  by_cases i0 : i = 0
  · subst i0
    have eP : ∀ k, k < 303 → paS M' 0 k = S k := fun k hk => by
      unfold paS
      rw [e0, q1 k hk, hR k hk]
    rw [if_pos rfl, e0]
    refine ⟨stO_cg hV hO (fun k hk => eP k (by omega)), cS_cg (cS_cp h8 b0 b1 b2 b4) (fun k hk => eP k (by omega)), kpR_cg ?_ eP, by rw [b0.2.2]; exact hm⟩
    obtain ⟨k1, k2, k3⟩ := hk
    refine ⟨by rw [b0.2.2]; exact k1, by rw [b0.2.2]; exact k2, fun i hi => ?_⟩
    have := h3 (M 148 2 - S 182 + i).toNat (by omega)
    rw [b0.2.2, this.1, this.2]
    exact k3 i hi
  · obtain ⟨x1, x2⟩ := eS i (by omega) (by omega)
    have hi' : ((i - 1 : Nat) : Int) < M 157 0 := by omega
    obtain ⟨g1, g2, g3, g4⟩ := c5 (i - 1) hi'
    have hl := pjR_lt (M := M) (i - 1)
    have hch := ch (i - 1) hi'
    rw [x1]
    generalize hy : pjR M (i - 1) = y at x2 hl g2 g3 g4 hch
    have eP : ∀ k, k < 303 → paS M' i k = paS M (i - 1) k := fun k hk => by
      unfold paS
      rw [x1, hy]
      exact q2 _ (by omega)
    have fb : ∀ r, 159 + 6 * y ≤ r → r ≤ 159 + 6 * y + 5 → M' r = M r := fun r y1 y2 => fr r (by omega) (by omega) (by omega)
    have f0 := fb (159 + 6 * y) (by omega) (by omega)
    refine ⟨stO_cg hV g1 (fun k hk => eP k (by omega)), cS_cg (cS_co g2 f0 (fb _ (by omega) (by omega)) (fb _ (by omega) (by omega)) (fb _ (by omega) (by omega)) (fb _ (by omega) (by omega)) (fb _ (by omega) (by omega))) (fun k hk => eP k (by omega)), kpR_cg (kpR_lt g3 (by rw [f0]) (fun k hk => h3 k (by omega))) eP, ?_⟩
    rw [if_neg i0, f0]
    by_cases i1 : i = 1
    · subst i1
      rw [show 1 - 1 = 0 from rfl, e0, b0.2.2]
      exact hch
    · obtain ⟨z1, z2⟩ := eS (i - 1) (by omega) (by omega)
      rw [if_neg (by omega)] at g4
      have hl' := pjR_lt (M := M) (i - 1 - 1)
      rw [z1, fr (159 + 6 * pjR M (i - 1 - 1)) (by omega) (by omega) (by omega)]
      exact g4
end SN

/-! QUERIES: later, sums, straight -/
def sZ (V : bz_M) (S : Nat → Int) : Prop := ∀ l, vL V ≤ l → l < 5 → sOf S l = 0 ∧ sPu S l = 0
def qLater (V : bz_M) (S : Nat → Int) (c n : Int) : Int := if (0 ≤ c ∧ c < vC V) ∧ (0 ≤ n ∧ n ≤ 60 ∧ S 0 + n ≤ 999) then sRow (sRun V n.toNat S) c else -1
def sPuL (S : Nat → Int) : Nat → Int → Int → Int
  | 0, _, n => n
  | k + 1, l, n => sPuL S k (l + 1) (n + sPu S l)
def qSums (V : bz_M) (S : Nat → Int) (n w : Int) : Int := if (0 ≤ n ∧ n ≤ 60 ∧ S 0 + n ≤ 999) ∧ (0 ≤ w ∧ w ≤ 2) then (if w = 0 then sBends V (sRun V n.toNat S) 0 (vC V - 1) else if w = 1 then sRun V n.toNat S 1 else sPuL (sRun V n.toNat S) (vL V).toNat 0 0) else -1
def qStrL (V : bz_M) : Nat → Int → (Nat → Int) → Int
  | 0, n, S => if sBends V S 0 (vC V - 1) = 0 then n else -1
  | k + 1, n, S => if sBends V S 0 (vC V - 1) = 0 then n else qStrL V k (n + 1) (sPass V S)
def qStraight (V : bz_M) (S : Nat → Int) : Int := qStrL V (min 60 (999 - S 0)).toNat 0 S
section Q1
variable {Lg d v : Nat} {V M M0 M' : bz_M} {S : Nat → Int}
theorem sColL_far (hV : vOK V) {c : Int} : ∀ (k : Nat) (l : Int) (q : (Nat → Int) × Int), 0 ≤ l → l + k = vL V → ∀ j, (172 + 2 * vL V).toNat ≤ j → (sColL V c k l q).1 j = q.1 j
  | 0, _, _, _, _, _, _ => rfl
  | k + 1, l, q, h0, h1, j, hj => by
    unfold sColL
    split
    · rw [sColL_far hV k (l + 1) _ (by omega) (by omega) j hj]
      exact upS_ne (by omega)
    · exact sColL_far hV k (l + 1) q (by omega) (by omega) j hj
theorem sPaidL_far (hV : vOK V) : ∀ (k : Nat) (c : Int) (q : (Nat → Int) × Int × Int) (j : Nat), (172 + 2 * vL V).toNat ≤ j → (sPaidL V k c q).1 j = q.1 j
  | 0, _, _, _, _ => rfl
  | k + 1, c, q, j, hj => by
    have hL := hV.2.2.2.2.1
    unfold sPaidL
    rw [sPaidL_far hV k (c + 1) _ j hj]
    split
    · rfl
    · exact sColL_far hV (vL V).toNat 0 (q.1, 0) (by omega) (by omega) j hj
theorem sPass_far (hV : vOK V) (hS : sOK V S) {j : Nat} (hj : (172 + 2 * vL V).toNat ≤ j) : sPass V S j = S j := by
  have hC := hV.2.1
  have hL := hV.2.2.2.2.1
  have h1 := sMoves_ok hV (vC V).toNat 0 S hS (by omega) (by omega)
  have h2 := sEvers_ok hV (vC V).toNat 0 _ h1.1 (by omega) (by omega)
  unfold sPass
  rw [upS_ne (by omega), upS_ne (by omega)]
  unfold sPaid
  rw [sPaidL_far hV _ _ _ _ hj]
  unfold sBefore
  dsimp only
  rw [h2.2 j (by omega), h1.2 j (by omega)]
theorem sPass_Z (hV : vOK V) (hS : sOK V S) (hZ : sZ V S) : sZ V (sPass V S) := fun l h0 h1 => by
  have hL := hV.2.2.2.2.1
  have := hZ l h0 h1
  unfold sOf sPu at this ⊢
  rw [sPass_far hV hS (by omega), sPass_far hV hS (by omega)]
  exact this
theorem sRun_Z (hV : vOK V) : ∀ (n : Nat) (S : Nat → Int), sOK V S → S 0 + n ≤ 1030 → sZ V S → sZ V (sRun V n S)
  | 0, _, _, _, hZ => hZ
  | n + 1, S, hS, h, hZ => by
    have h1 := sPass_ok hV hS (by omega)
    exact sRun_Z hV n (sPass V S) h1.1 (by rw [h1.2]; omega) (sPass_Z hV hS hZ)
theorem sRun_add : ∀ (a b : Nat) (S : Nat → Int), sRun V (a + b) S = sRun V b (sRun V a S)
  | 0, b, S => by simp [sRun]
  | a + 1, b, S => by rw [show a + 1 + b = (a + b) + 1 by omega]; exact sRun_add a b (sPass V S)
theorem comes_w {n : Int} (h9 : 0 ≤ S 0 ∧ S 0 ≤ 999) (k : Int) (hk : k ≤ 1000) : (0 ≤ n ∧ n ≤ k ∧ n ≤ bz_w32 (999 - S 0)) ↔ (0 ≤ n ∧ n ≤ k ∧ S 0 + n ≤ 999) := by
  rw [w32_id (by omega) (by omega)]; omega
theorem c_later (hd : 5 < d) (hv : bz_oV v) (hV : vOK V) (hS : sOK V S) (h9 : S 0 ≤ 999) (hM : cR V S 131 148 v M) {c n : Int} : w_T (eBr_later Lg d c n M) (fun p => p.1 = qLater V S c n ∧ qC M p.2) := by
  have hC := hV.2.1
  have s0 := hS.1
  have e0 : M 148 0 = S 0 := by rw [hM.2.2.1.1]; omega
  refine T_le (eBr_later_E (by omega) hv) ?_
  simp only [bz_b0]
  rw [if_pos hM.1, hM.2.1.1.1, e0, w32_id (z := 999 - S 0) (by omega) (by omega)]
  unfold qLater
  by_cases h1 : 0 ≤ c ∧ c < vC V
  · rw [if_neg (fun h => h h1)]
    by_cases h2 : 0 ≤ n ∧ n ≤ 60 ∧ n ≤ 999 - S 0
    · rw [if_neg (fun h => h h2), if_pos ⟨h1, by omega⟩]
      refine T_seq (fc_behind (by omega) hv hV hS hM h2.1 (by omega) (by omega)) ?_
      rintro ⟨p1, p2⟩ ⟨a1, a2, a3⟩
      dsimp only at a1 a2 a3 ⊢
      rw [if_pos a1, if_pos (by omega)]
      exact T_some ⟨a2.2.2.2.1 c h1.1 (by omega), a3⟩
    · rw [if_pos h2, if_neg (by omega)]; exact T_some ⟨rfl, qC_refl _⟩
  · rw [if_pos h1, if_neg (fun h => h1 h.1)]; exact T_some ⟨rfl, qC_refl _⟩
theorem m_later (hd : 8 < d) (hV : vOK V) (hS : sOK V S) (h9 : S 0 ≤ 999) (hM : mR V S M) (h7 : M 319 70 = 0) {c n : Int} : w_T (eMo_later Lg d c n M) (fun p => p.1 = qLater V S c n ∧ qM M p.2) := by
  have hC := hV.2.1
  have s0 := hS.1
  have e0 : M 364 0 = S 0 := hM.2 0 (by omega)
  have e6 : M 319 60 = 1 := hM.1.1.2.2.2.2.trans hV.1
  refine T_le (eMo_later_E (by omega)) ?_
  simp only [bz_b0]
  rw [hM.1.1.1, e0, e6, w32_id (z := vC V - 1) (by omega) (by omega)]
  unfold qLater
  by_cases h1 : 0 ≤ c ∧ c < vC V
  · rw [if_neg (fun h => h (by omega))]
    by_cases h2 : 0 ≤ n ∧ n ≤ 60
    · rw [w32_id (z := S 0 + n) (by omega) (by omega)]
      by_cases h3 : S 0 + n ≤ 999
      · rw [if_neg (fun h => h (by omega)), if_pos ⟨h1, by omega⟩]
        refine T_seq mo_aside ?_
        rintro M1 ⟨a1, a2, _⟩
        refine T_seq (mo_goT (by omega) hV hS (mR_th a1 hM a2) a1 h2.1 (by omega) (by omega)) ?_
        rintro M2 ⟨b1, b2, b3, _⟩
        rw [w32_id (z := 2 + c) (by omega) (by omega), if_pos (by omega)]
        refine T_seq (mo_back (by omega) b3 h7) ?_
        intro M3 c1
        exact T_some ⟨mr_row b1 h1.1 (by omega), c1⟩
      · rw [if_pos (by omega), if_neg (by omega)]; exact T_some ⟨rfl, qM_refl _⟩
    · rw [if_pos (by omega), if_neg (by omega)]; exact T_some ⟨rfl, qM_refl _⟩
  · rw [if_pos (by omega), if_neg (fun h => h1 h.1)]; exact T_some ⟨rfl, qM_refl _⟩
theorem sPuL_add : ∀ (a b : Nat) (l n : Int), sPuL S (a + b) l n = sPuL S b (l + a) (sPuL S a l n)
  | 0, b, l, n => by simp [sPuL]
  | a + 1, b, l, n => by
    rw [show a + 1 + b = (a + b) + 1 by omega]
    show sPuL S (a + b) (l + 1) _ = sPuL S b (l + (a + 1 : Nat)) (sPuL S a (l + 1) _)
    rw [sPuL_add a b]
    congr 1
    push_cast; omega
theorem sPuL_Z : ∀ (k : Nat) (l n : Int), (∀ j, l ≤ j → j < l + k → sPu S j = 0) → sPuL S k l n = n
  | 0, _, _, _ => rfl
  | k + 1, l, n, h => by
    show sPuL S k (l + 1) (n + sPu S l) = n
    rw [sPuL_Z k (l + 1) _ (fun j a b => h j (by omega) (by push_cast at b ⊢; omega)), h l (by omega) (by omega)]
    omega
theorem br_totL {a : Nat} (ha : bz_kd Lg a = some (.inr (0, 5))) (hp : ∀ l, 0 ≤ l → l < 5 → M a (Int.toNat l) = sPu S l ∧ (0 ≤ sPu S l ∧ sPu S l ≤ 999)) : ∀ (k : Nat) (l n : Int), 0 ≤ l → l + k = 5 → 0 ≤ n → n + 999 * k ≤ 5000 → eBr_total_4 Lg d a n l M = some (sPuL S k l n, M)
  | 0, l, n, h0, h1, h2, h3 => by
    refine eBr_total_4_E ha _ ?_
    rw [if_neg (by omega)]; rfl
  | k + 1, l, n, h0, h1, h2, h3 => by
    have e := hp l h0 (by omega)
    refine eBr_total_4_E ha _ ?_
    rw [if_pos (by omega), if_pos (by omega), e.1, w32_id (z := l + 1) (by omega) (by omega), w32_id (z := n + sPu S l) (by omega) (by omega)]
    exact br_totL ha hp k (l + 1) _ (by omega) (by omega) (by omega) (by omega)
theorem mo_purL (hd : 0 < d) (hV : vOK V) (hS : sOK V S) (hM : mR V S M) : ∀ (k : Nat) (l n : Int), 0 ≤ l → l + k = vL V → 0 ≤ n → n + 999 * k ≤ 5000 → eMo_purseAll_4 Lg d n l M = some (sPuL S k l n, M)
  | 0, l, n, h0, h1, h2, h3 => by
    refine eMo_purseAll_4_E hd _ ?_
    rw [hM.1.1.2.2.2.1, if_neg (by omega)]; rfl
  | k + 1, l, n, h0, h1, h2, h3 => by
    have hL := hV.2.2.2.2.1
    have e := (mr_of hM h0 (by omega)).2
    have e2 := (hS.2.2.2.2 l h0 (by omega)).2
    refine eMo_purseAll_4_E hd _ ?_
    rw [hM.1.1.2.2.2.1, if_pos (by omega), if_pos (by omega), e, w32_id (z := l + 1) (by omega) (by omega), w32_id (z := n + sPu S l) (by omega) (by omega)]
    exact mo_purL hd hV hS hM k (l + 1) _ (by omega) (by omega) (by omega) (by omega)
theorem sPu_bd (hV : vOK V) (hS : sOK V S) (hZ : sZ V S) {l : Int} (h0 : 0 ≤ l) (h1 : l < 5) : 0 ≤ sPu S l ∧ sPu S l ≤ 999 := by
  by_cases h : l < vL V
  · exact (hS.2.2.2.2 l h0 h).2
  · rw [(hZ l (by omega) h1).2]; omega
theorem c_sums (hd : 6 < d) (hv : bz_oV v) (hV : vOK V) (hS : sOK V S) (hZ : sZ V S) (h9 : S 0 ≤ 999) (hM : cR V S 131 148 v M) {n w : Int} : w_T (eBr_sums Lg d n w M) (fun p => p.1 = qSums V S n w ∧ qC M p.2) := by
  have hC := hV.2.1
  have hL := hV.2.2.2.2.1
  have s0 := hS.1
  have e0 : M 148 0 = S 0 := by rw [hM.2.2.1.1]; omega
  refine T_le (eBr_sums_E (by omega) hv) ?_
  simp only [bz_b0]
  rw [if_pos hM.1, hM.2.1.1.1, e0, w32_id (z := 999 - S 0) (by omega) (by omega), if_neg (by omega)]
  unfold qSums
  by_cases h2 : 0 ≤ n ∧ n ≤ 60 ∧ n ≤ 999 - S 0
  · rw [if_neg (fun h => h h2)]
    by_cases h3 : w < 0
    · rw [if_pos h3, if_neg (by omega)]; exact T_some ⟨rfl, qC_refl _⟩
    · rw [if_neg h3]
      by_cases h4 : 2 < w
      · rw [if_pos h4, if_neg (by omega)]; exact T_some ⟨rfl, qC_refl _⟩
      · rw [if_neg h4, if_pos (by omega)]
        have hr := sRun_ok hV n.toNat S hS (by omega)
        have hz := sRun_Z hV n.toNat S hS (by omega) hZ
        refine T_seq (fc_behind (by omega) hv hV hS hM h2.1 (by omega) (by omega)) ?_
        rintro ⟨p1, p2⟩ ⟨a1, a2, a3⟩
        dsimp only at a1 a2 a3 ⊢
        have hM2 := cR_qC hv hM a3
        rw [if_pos a1, if_pos hM2.1, hM2.2.1.1.1, w32_id (z := vC V - 1) (by omega) (by omega)]
        by_cases h5 : w = 0
        · rw [if_pos h5, if_pos h5]
          refine T_seq (ri_bends (by omega) hr285 hv hV hr.1 (by rw [hr.2]; omega) a2 (by omega) (by omega) (by omega)) ?_
          rintro ⟨b1, b2⟩ ⟨c1, c2⟩
          exact T_some ⟨c1, qC_trans a3 (qC_cF c2)⟩
        · rw [if_neg h5, if_neg h5]
          by_cases h6 : w = 1
          · rw [if_pos h6, if_pos h6]
            exact T_some ⟨a2.2.2.1.2, a3⟩
          · rw [if_neg h6, if_neg h6]
            refine T_run (eBr_total_E _ (br_totL (S := sRun V n.toNat S) rfl (fun l g0 g1 => ⟨(a2.2.2.2.2.2 l g0 g1).2, sPu_bd hV hr.1 hz g0 g1⟩) 5 0 0 (by omega) (by omega) (by omega) (by omega))) ?_
            refine T_some ⟨?_, a3⟩
            dsimp only
            rw [show (5 : Nat) = (vL V).toNat + (5 - (vL V).toNat) by omega, sPuL_add, sPuL_Z]
            intro j j0 j1
            exact (hz j (by omega) (by omega)).2
  · rw [if_pos h2, if_neg (by omega)]; exact T_some ⟨rfl, qC_refl _⟩
theorem m_sums (hd : 8 < d) (hV : vOK V) (hS : sOK V S) (h9 : S 0 ≤ 999) (hM : mR V S M) (h7 : M 319 70 = 0) {n w : Int} : w_T (eMo_sums Lg d n w M) (fun p => p.1 = qSums V S n w ∧ qM M p.2) := by
  have hC := hV.2.1
  have hL := hV.2.2.2.2.1
  have s0 := hS.1
  have e0 : M 364 0 = S 0 := hM.2 0 (by omega)
  have e6 : M 319 60 = 1 := hM.1.1.2.2.2.2.trans hV.1
  refine T_le (eMo_sums_E (by omega)) ?_
  simp only [bz_b0]
  rw [e0, e6]
  unfold qSums
  by_cases h2 : 0 ≤ n ∧ n ≤ 60
  · rw [w32_id (z := S 0 + n) (by omega) (by omega)]
    by_cases h3 : S 0 + n ≤ 999
    · rw [if_neg (fun h => h (by omega))]
      by_cases h4 : 0 ≤ w ∧ w ≤ 2
      · rw [if_neg (fun h => h h4), if_pos (by omega)]
        have hr := sRun_ok hV n.toNat S hS (by omega)
        refine T_seq mo_aside ?_
        rintro M1 ⟨a1, a2, _⟩
        refine T_seq (mo_goT (by omega) hV hS (mR_th a1 hM a2) a1 h2.1 (by omega) (by omega)) ?_
        rintro M2 ⟨b1, b2, b3, _⟩
        by_cases h5 : w = 0
        · rw [if_pos h5, if_pos h5]
          refine T_seq (mo_bendMany (by omega) hV hr.1 b1) ?_
          rintro ⟨p1, p2⟩ ⟨c1, c2⟩
          refine T_seq (mo_back (by omega) (th_fz b3 c2) h7) ?_
          intro M3 d1
          exact T_some ⟨c1, d1⟩
        · rw [if_neg h5, if_neg h5]
          by_cases h6 : w = 1
          · rw [if_pos h6, if_pos h6]
            refine T_seq (mo_back (by omega) b3 h7) ?_
            intro M3 d1
            exact T_some ⟨b1.2 1 (by omega), d1⟩
          · rw [if_neg h6, if_neg h6]
            refine T_run (eMo_purseAll_E _ (mo_purL (by omega) hV hr.1 b1 (vL V).toNat 0 0 (by omega) (by omega) (by omega) (by omega))) ?_
            refine T_seq (mo_back (by omega) b3 h7) ?_
            intro M3 d1
            exact T_some ⟨rfl, d1⟩
      · rw [if_pos h4, if_neg (fun h => h4 h.2)]; exact T_some ⟨rfl, qM_refl _⟩
    · rw [if_pos (by omega), if_neg (by omega)]; exact T_some ⟨rfl, qM_refl _⟩
  · rw [if_pos (by omega), if_neg (by omega)]; exact T_some ⟨rfl, qM_refl _⟩
theorem c_strL (hd : 5 < d) (hv : bz_oV v) (hV : vOK V) {L : Int} (hL : L ≤ 60) : ∀ (k : Nat) (n : Int) (S : Nat → Int) (M : bz_M), sOK V S → S 0 + k ≤ 999 → cR V S 285 286 v M → 0 ≤ n → n + k = L → w_T (eFc_firstStraight_33 Lg d L n M) (fun p => p.1 = qStrL V k n S ∧ fA M p.2)
  | k, n, S, M, hS, h9, hM, h0, h1 => by
    have hC := hV.2.1
    have s0 := hS.1
    refine T_le (eFc_firstStraight_33_E (by omega) hv) ?_
    rw [if_neg (by omega), if_pos hM.1, hM.2.1.1.1, w32_id (z := vC V - 1) (by omega) (by omega), w32_id (z := n + 1) (by omega) (by omega)]
    refine T_seq (ri_bends (by omega) hr285 hv hV hS (by omega) hM (by omega) (by omega) (by omega)) ?_
    rintro ⟨p1, p2⟩ ⟨a1, a2⟩
    dsimp only at a1 a2 ⊢
    rw [a1]
    have hM2 := cR_cF hr285 hv hM a2
    cases k with
    | zero =>
      unfold qStrL
      split
      · exact T_some ⟨rfl, fA_cF a2⟩
      · refine T_seq (ri_passA (by omega) hv hV hS (by omega) hM2) ?_
        rintro ⟨q1, q2⟩ ⟨_, _, _, b4, _⟩
        refine T_le (eFc_firstStraight_33_E (by omega) hv) ?_
        rw [if_pos (by omega)]
        exact T_some ⟨rfl, fA_trans (fA_cF a2) b4⟩
    | succ k =>
      unfold qStrL
      split
      · exact T_some ⟨rfl, fA_cF a2⟩
      · refine T_seq (ri_passA (by omega) hv hV hS (by omega) hM2) ?_
        rintro ⟨q1, q2⟩ ⟨b1, _, _, b4, _⟩
        have hp := sPass_ok hV hS (by omega)
        exact T_mono (c_strL hd hv hV hL k (n + 1) (sPass V S) q2 hp.1 (by rw [hp.2]; omega) b1 (by omega) (by omega)) (fun p hp => ⟨hp.1, fA_trans (fA_cF a2) (fA_trans b4 hp.2)⟩)
theorem c_straight (hd : 6 < d) (hv : bz_oV v) (hV : vOK V) (hS : sOK V S) (h9 : S 0 ≤ 999) (hM : cR V S 131 148 v M) : w_T (eBr_straight Lg d M) (fun p => p.1 = qStraight V S ∧ qC M p.2) := by
  have hC := hV.2.1
  have s0 := hS.1
  have e0 : M 148 0 = S 0 := by rw [hM.2.2.1.1]; omega
  refine T_le (eBr_straight_E (by omega) hv) ?_
  simp only [bz_b0]
  rw [if_pos hM.1, hM.2.1.1.1, if_neg (by omega)]
  refine T_seq (T_le (eFc_firstStraight_E (by omega)) (Q := fun p => p.1 = qStraight V S ∧ qC M p.2) ?_) (fun p hp => T_some hp)
  refine T_seq (ri_follow (by omega) hv hM) ?_
  rintro M1 ⟨a1, _, _, a4⟩
  rw [e0, w32_id (by omega) (by omega)]
  refine T_mono (c_strL (by omega) hv hV (by omega) (min 60 (999 - S 0)).toNat 0 S M1 hS (by omega) a1 (by omega) (by omega)) ?_
  rintro ⟨b1, b2⟩ ⟨c1, c3⟩
  exact ⟨c1, qC_trans (qC_of (fun q hq => a4 q (by omega))) (qC_fA c3)⟩
theorem m_strL (hd : 8 < d) (hV : vOK V) (h7 : M0 319 70 = 0) : ∀ (k : Nat) (n : Int) (S : Nat → Int) (M : bz_M), sOK V S → S 0 ≤ 999 → (k : Int) = min (60 - n) (999 - S 0) → mR V S M → th M0 M → 0 ≤ n → n ≤ 60 → w_T (eMo_straight_15 Lg d n M) (fun p => p.1 = qStrL V k n S ∧ qM M0 p.2)
  | k, n, S, M, hS, h9, hk, hM, ht, h0, h1 => by
    have s0 := hS.1
    refine T_le (eMo_straight_15_E (by omega)) ?_
    refine T_seq (mo_bendMany (by omega) hV hS hM) ?_
    rintro ⟨p1, p2⟩ ⟨a1, a2⟩
    dsimp only at a1 a2 ⊢
    have hM2 := mR_fz hM a2
    have ht2 := th_fz ht a2
    have e0 : p2 364 0 = S 0 := hM2.2 0 (by omega)
    have kE : w_T (eMo_straight_50 Lg d n p2) (fun p => p.1 = (if sBends V S 0 (vC V - 1) = 0 then n else -1) ∧ qM M0 p.2) := by
      refine T_le (eMo_straight_50_E (by omega)) ?_
      refine T_seq (mo_bendMany (by omega) hV hS hM2) ?_
      rintro ⟨q1, q2⟩ ⟨b1, b2⟩
      dsimp only at b1 b2 ⊢
      rw [b1]
      split
      · refine T_seq (mo_back (by omega) (th_fz ht2 b2) h7) ?_
        intro M3 d1
        exact T_some ⟨rfl, d1⟩
      · refine T_seq (mo_back (by omega) (th_fz ht2 b2) h7) ?_
        intro M3 d1
        exact T_some ⟨rfl, d1⟩
    have hb : 0 ≤ sBends V S 0 (vC V - 1) := by
      have : ∀ (k : Nat) (c n : Int), n ≤ sBendsL V S k c n := by
        intro k
        induction k with
        | zero => intro c n; exact Int.le_refl _
        | succ k ih =>
          intro c n
          unfold sBendsL
          have := ih (c + 1) (if sBend V S c = 0 then n else n + 1)
          split at this <;> rename_i hh
          · rw [if_pos hh]; exact this
          · rw [if_neg hh]; omega
      exact this _ _ _
    rw [a1]
    simp only [e0]
    cases k with
    | zero =>
      unfold qStrL
      by_cases g1 : 0 < sBends V S 0 (vC V - 1)
      · rw [if_pos g1]
        by_cases g2 : n < 60
        · rw [if_pos g2, if_neg (by omega)]; exact kE
        · rw [if_neg g2]; exact kE
      · rw [if_neg g1]; exact kE
    | succ k =>
      unfold qStrL
      by_cases g1 : 0 < sBends V S 0 (vC V - 1)
      · rw [if_pos g1, if_pos (by push_cast at hk; omega), if_pos (by push_cast at hk; omega), if_neg (by omega), w32_id (by omega) (by omega)]
        refine T_seq (mo_seasonT (by omega) hV hS (by omega) hM2 (by rw [ht2.1]; decide)) ?_
        rintro M3 ⟨b1, b2, b3, b4, b5⟩
        have hp := sPass_ok hV hS (by omega)
        exact m_strL hd hV h7 k (n + 1) (sPass V S) M3 hp.1 (by rw [hp.2]; push_cast at hk; omega) (by rw [hp.2]; push_cast at hk; omega) b1 (th_fh ht2 b4 b5) (by omega) (by push_cast at hk; omega)
      · rw [if_neg g1, if_pos (by omega)]
        rw [if_pos (by omega)] at kE
        exact kE
theorem m_straight (hd : 8 < d) (hV : vOK V) (hS : sOK V S) (h9 : S 0 ≤ 999) (hM : mR V S M) (h7 : M 319 70 = 0) : w_T (eMo_straight Lg d M) (fun p => p.1 = qStraight V S ∧ qM M p.2) := by
  have s0 := hS.1
  have e6 : M 319 60 = 1 := hM.1.1.2.2.2.2.trans hV.1
  refine T_le (eMo_straight_E (by omega)) ?_
  rw [e6, if_neg (by decide)]
  refine T_seq mo_aside ?_
  rintro M1 ⟨a1, a2, _⟩
  exact m_strL hd hV h7 (min 60 (999 - S 0)).toNat 0 S M1 hS h9 (by omega) (mR_th a1 hM a2) a1 (by omega) (by omega)
end Q1

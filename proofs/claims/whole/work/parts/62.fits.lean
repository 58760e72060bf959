/-! QUERIES: ran, tells: which rows fit what was seen -/
/-- what was seen: K rows of three, as they lie in A -/
def snOK (V : bz_M) (K : Int) (A : Nat → Int) : Prop := (0 ≤ K ∧ K ≤ 16) ∧ ∀ i, 0 ≤ i → i < K → (0 ≤ A (Int.toNat (3 * i)) ∧ A (Int.toNat (3 * i)) ≤ 30) ∧ (0 ≤ A (Int.toNat (3 * i + 1)) ∧ A (Int.toNat (3 * i + 1)) < vC V) ∧ (0 ≤ A (Int.toNat (3 * i + 2)) ∧ A (Int.toNat (3 * i + 2)) < vR V)
def sAt (S : Nat → Int) (c x : Int) : Nat → Int := upS S (Int.toNat (2 + c)) x
def fit (V : bz_M) (S : Nat → Int) (K : Int) (A : Nat → Int) (c x : Int) : Prop := ∀ i, 0 ≤ i → i < K → S 0 + A (Int.toNat (3 * i)) ≤ 999 ∧ sRow (sRun V (A (Int.toNat (3 * i))).toNat (sAt S c x)) (A (Int.toNat (3 * i + 1))) = A (Int.toNat (3 * i + 2))
noncomputable def fb (V : bz_M) (S : Nat → Int) (K : Int) (A : Nat → Int) (c x : Int) : Int := @ite Int (fit V S K A c x) (Classical.propDecidable _) 1 0
theorem fb_1 {V : bz_M} {S : Nat → Int} {K : Int} {A : Nat → Int} {c x : Int} (h : fit V S K A c x) : fb V S K A c x = 1 := by unfold fb; exact if_pos h
theorem fb_0 {V : bz_M} {S : Nat → Int} {K : Int} {A : Nat → Int} {c x : Int} (h : ¬ fit V S K A c x) : fb V S K A c x = 0 := by unfold fb; exact if_neg h
/-- a season n: what was seen of it is so in S' -/
def sn1 (K : Int) (A : Nat → Int) (S' : Nat → Int) (n : Int) : Prop := ∀ i, 0 ≤ i → i < K → A (Int.toNat (3 * i)) = n → sRow S' (A (Int.toNat (3 * i + 1))) = A (Int.toNat (3 * i + 2))
noncomputable def qRanL (f : Int → Int) : Nat → Int → Int → Int
  | 0, _, x => x
  | k + 1, r, x => qRanL f k (r + 1) (if f r = 0 then x else bz_or x (bz_shl 1 r))
noncomputable def qRan (V : bz_M) (S : Nat → Int) (K : Int) (A : Nat → Int) (c : Int) : Int := if 0 ≤ c ∧ c < vC V then qRanL (fb V S K A c) (vR V).toNat 0 0 else -1
section FT
variable {Lg d v : Nat} {V M M0 M' : bz_M} {S : Nat → Int} {K : Int} {A : Nat → Int}
theorem sAt_ok (hV : vOK V) (hS : sOK V S) {c x : Int} (h0 : 0 ≤ c) (h1 : c < vC V) (hx : 0 ≤ x ∧ x < vR V) : sOK V (sAt S c x) ∧ sAt S c x 0 = S 0 := by
  have hC := hV.2.1
  exact ⟨sRowUp_ok hV hS h0 (by omega) hx, upS_ne (by omega)⟩
theorem sRun_succ : ∀ (n : Nat) (S : Nat → Int), sRun V (n + 1) S = sPass V (sRun V n S)
  | 0, _ => rfl
  | n + 1, S => sRun_succ n (sPass V S)
/-- the class: what was seen of season n; and on -/
theorem fc_36 (hd : 4 < d) (hv : bz_oV v) (hV : vOK V) (hS : sOK V S) (hK : snOK V K A) {L n : Int} (hn : 0 ≤ n) {Q : Int × bz_M → Prop} : ∀ (k : Nat) (i : Int) (M : bz_M), cR V S 285 286 v M → M 279 1 = K → (∀ j : Nat, (j : Int) < 3 * K → M 280 j = A j) → 0 ≤ i → i + k = K → (∀ j, 0 ≤ j → j < i → A (Int.toNat (3 * j)) = n → sRow S (A (Int.toNat (3 * j + 1))) = A (Int.toNat (3 * j + 2))) → (¬ sn1 K A S n → Q (0, M)) → (sn1 K A S n → w_T ((eRi_pass Lg (d - 1) 285 M).bind (fun p1 => (eFc_fits_27 Lg d L (bz_w32 (n + 1)) p1.2))) Q) → w_T (eFc_fits_36 Lg d L n i M) Q
  | 0, i, M, hM, e1, e2, h0, h1, hd1, hQ0, hQ1 => by
    refine T_le (eFc_fits_36_E (by omega)) ?_
    rw [e1, if_neg (by omega)]
    exact hQ1 (fun j a b c => hd1 j a (by omega) c)
  | k + 1, i, M, hM, e1, e2, h0, h1, hd1, hQ0, hQ1 => by
    have hC := hV.2.1
    have hR := hV.2.2.1
    have hb := hK.2 i h0 (by omega)
    have hK1 := hK.1
    have w3 : bz_w32 (3 * i) = 3 * i := w32_id (by omega) (by omega)
    have w4 : bz_w32 (3 * i + 1) = 3 * i + 1 := w32_id (by omega) (by omega)
    have w5 : bz_w32 (3 * i + 2) = 3 * i + 2 := w32_id (by omega) (by omega)
    refine T_le (eFc_fits_36_E (by omega)) ?_
    rw [e1, if_pos (by omega), w3, w4, w5, w32_id (z := i + 1) (by omega) (by omega), if_pos (by omega), e2 _ (by omega), e2 _ (by omega), e2 _ (by omega)]
    have go := fun hd2 => fc_36 hd hv hV hS hK hn (L := L) (Q := Q) k (i + 1) M hM e1 e2 (by omega) (by omega) hd2 hQ0 hQ1
    by_cases ht : A (Int.toNat (3 * i)) = n
    · rw [if_pos ht, if_pos (by omega), if_pos (by omega), if_pos (by omega)]
      have er : M 287 (A (3 * i + 1).toNat).toNat = sRow S (A (3 * i + 1).toNat) := hM.2.2.2.1 _ hb.2.1.1 (by omega)
      rw [er]
      by_cases hs : sRow S (A (3 * i + 1).toNat) = A (3 * i + 2).toNat
      · rw [if_pos hs]
        refine go (fun j a b c => ?_)
        by_cases e : j = i
        · rw [e]; exact hs
        · exact hd1 j a (by omega) c
      · rw [if_neg hs]
        exact T_some (hQ0 (fun h => hs (h i h0 (by omega) ht)))
    · rw [if_neg ht]
      refine go (fun j a b c => ?_)
      by_cases e : j = i
      · rw [e] at c; exact absurd c ht
      · exact hd1 j a (by omega) c
theorem fc_27 (hd : 4 < d) (hv : bz_oV v) (hV : vOK V) (hK : snOK V K A) {S0 : Nat → Int} {L : Int} (hL : L ≤ 30) (hlast : ∀ i, 0 ≤ i → i < K → A (Int.toNat (3 * i)) ≤ L) (h9 : S0 0 + L ≤ 999) (hS0 : sOK V S0) : ∀ (k : Nat) (n : Nat) (M : bz_M), cR V (sRun V n S0) 285 286 v M → M 279 1 = K → (∀ j : Nat, (j : Int) < 3 * K → M 280 j = A j) → (n : Int) + k = L + 1 → (∀ m, m < n → sn1 K A (sRun V m S0) (m : Int)) → w_T (eFc_fits_27 Lg d L (n : Int) M) (fun p => ((p.1 = 1 ∧ ∀ m : Nat, (m : Int) ≤ L → sn1 K A (sRun V m S0) (m : Int)) ∨ (p.1 = 0 ∧ ¬ ∀ m : Nat, (m : Int) ≤ L → sn1 K A (sRun V m S0) (m : Int))) ∧ fA M p.2)
  | 0, n, M, hM, e1, e2, h1, hdn => by
    refine T_le eFc_fits_27_E ?_
    rw [if_pos (by omega)]
    exact T_some ⟨Or.inl ⟨rfl, fun m hm => hdn m (by omega)⟩, fA_refl _⟩
  | k + 1, n, M, hM, e1, e2, h1, hdn => by
    have s0 := hS0.1
    have hr := sRun_ok hV n S0 hS0 (by push_cast at h1; omega)
    refine T_le eFc_fits_27_E ?_
    rw [if_neg (by omega)]
    refine fc_36 hd hv hV hr.1 hK (by omega) K.toNat 0 M hM e1 e2 (by omega) (by have := hK.1; omega) (fun j a b => by omega) ?_ ?_
    · intro hno
      exact ⟨Or.inr ⟨rfl, fun h => hno (h n (by push_cast at h1; omega))⟩, fA_refl _⟩
    · intro hyes
      refine T_seq (ri_passA (by omega) hv hV hr.1 (by rw [hr.2]; push_cast at h1; omega) hM) ?_
      rintro ⟨p1, p2⟩ ⟨a1, _, _, a4, _⟩
      dsimp only at a1 a4 ⊢
      rw [show bz_w32 ((n : Int) + 1) = ((n + 1 : Nat) : Int) by rw [w32_id (by omega) (by push_cast at h1; omega)]; omega]
      have ex := sRun_succ (V := V) n S0
      rw [← ex] at a1
      refine T_mono (fc_27 hd hv hV hK hL hlast h9 hS0 k (n + 1) p2 a1 (by rw [a4 279 (by decide)]; exact e1) (fun j hj => by rw [a4 280 (by decide)]; exact e2 j hj) (by push_cast at h1 ⊢; omega) (fun m hm => ?_)) (fun p hp => ⟨hp.1, fA_trans a4 hp.2⟩)
      by_cases e : m = n
      · rw [e]; exact hyes
      · exact hdn m (by omega)
/-- all seasons up to the last one seen: that is a fit -/
theorem fit_iff (hK : snOK V K A) {L c x : Int} (hlast : ∀ i, 0 ≤ i → i < K → A (Int.toNat (3 * i)) ≤ L) (h9 : S 0 + L ≤ 999) : (∀ m : Nat, (m : Int) ≤ L → sn1 K A (sRun V m (sAt S c x)) (m : Int)) ↔ fit V S K A c x := by
  constructor
  · intro h i a b
    have hb := hK.2 i a b
    have hl := hlast i a b
    refine ⟨by omega, ?_⟩
    exact h (A (Int.toNat (3 * i))).toNat (by omega) i a b (by omega)
  · intro h m hm i a b e
    have := (h i a b).2
    rw [e, Int.toNat_natCast] at this
    exact this
theorem fc_fits (hd : 5 < d) (hv : bz_oV v) (hV : vOK V) (hS : sOK V S) (hK : snOK V K A) (hM : cR V S 131 148 v M) (e1 : M 279 1 = K) (e2 : ∀ j : Nat, (j : Int) < 3 * K → M 280 j = A j) {c x L : Int} (h0 : 0 ≤ c) (h1 : c < vC V) (hx : 0 ≤ x ∧ x < vR V) (hL0 : 0 ≤ L) (hL : L ≤ 30) (hlast : ∀ i, 0 ≤ i → i < K → A (Int.toNat (3 * i)) ≤ L) (h9 : S 0 + L ≤ 999) : w_T (eFc_fits Lg d c x L M) (fun p => p.1 = fb V S K A c x ∧ fA M p.2) := by
  have hC := hV.2.1
  have hk := sAt_ok hV hS h0 h1 hx
  refine T_le (eFc_fits_E (by omega)) ?_
  refine T_seq (ri_follow (by omega) hv hM) ?_
  rintro M1 ⟨a1, _, _, a4⟩
  rw [if_pos (by omega)]
  have hc := cR_row hr285 hv a1 (c := c) (x := x) h0 (by omega)
  have f1 : fA M (bz_up M1 287 c.toNat x) := fun q hq => by rw [bz_up_fn (by omega), a4 q (by omega)]
  refine T_mono (fc_27 (S0 := sAt S c x) (by omega) hv hV hK hL hlast (by rw [hk.2]; exact h9) hk.1 (L + 1).toNat 0 _ hc (by rw [f1 279 (by decide)]; exact e1) (fun j hj => by rw [f1 280 (by decide)]; exact e2 j hj) (by omega) (fun m hm => by omega)) ?_
  rintro ⟨p1, p2⟩ ⟨b1, b2⟩
  refine ⟨?_, fA_trans f1 b2⟩
  rcases b1 with ⟨g1, g2⟩ | ⟨g1, g2⟩
  · exact g1.trans (fb_1 ((fit_iff hK hlast h9).mp g2)).symm
  · exact g1.trans (fb_0 (fun h => g2 ((fit_iff hK hlast h9).mpr h))).symm
theorem fc_56 (hd : 6 < d) (hv : bz_oV v) (hV : vOK V) (hS : sOK V S) (hK : snOK V K A) {c L : Int} (h0 : 0 ≤ c) (h1 : c < vC V) (hL0 : 0 ≤ L) (hL : L ≤ 30) (hlast : ∀ i, 0 ≤ i → i < K → A (Int.toNat (3 * i)) ≤ L) (h9 : S 0 + L ≤ 999) : ∀ (k : Nat) (r x : Int) (M : bz_M), cR V S 131 148 v M → M 279 1 = K → (∀ j : Nat, (j : Int) < 3 * K → M 280 j = A j) → 0 ≤ r → r + k = vR V → w_T (eFc_rowsBySeen_56 Lg d c L x r M) (fun p => p.1 = qRanL (fb V S K A c) k r x ∧ fA M p.2)
  | 0, r, x, M, hM, e1, e2, g0, g1 => by
    refine T_le (eFc_rowsBySeen_56_E (by omega) hv) ?_
    rw [if_pos hM.1, hM.2.1.1.2.1, if_neg (by omega)]
    exact T_some ⟨rfl, fA_refl _⟩
  | k + 1, r, x, M, hM, e1, e2, g0, g1 => by
    have hR := hV.2.2.1
    refine T_le (eFc_rowsBySeen_56_E (by omega) hv) ?_
    rw [if_pos hM.1, hM.2.1.1.2.1, if_pos (by omega), w32_id (by omega) (by omega)]
    refine T_seq (fc_fits (by omega) hv hV hS hK hM e1 e2 h0 h1 (by omega) hL0 hL hlast h9) ?_
    rintro ⟨p1, p2⟩ ⟨a1, a2⟩
    dsimp only at a1 a2 ⊢
    rw [a1]
    unfold qRanL
    have go := fun y => fc_56 hd hv hV hS hK h0 h1 hL0 hL hlast h9 k (r + 1) y p2 (cR_qC hv hM (qC_fA a2)) (by rw [a2 279 (by decide)]; exact e1) (fun j hj => by rw [a2 280 (by decide)]; exact e2 j hj) (by omega) (by omega)
    split
    · exact T_mono (go x) (fun p hp => ⟨hp.1, fA_trans a2 hp.2⟩)
    · exact T_mono (go _) (fun p hp => ⟨hp.1, fA_trans a2 hp.2⟩)
theorem qRanL_0 {f : Int → Int} : ∀ (k : Nat) (r x : Int), (∀ y, r ≤ y → y < r + k → f y = 0) → qRanL f k r x = x
  | 0, _, _, _ => rfl
  | k + 1, r, x, h => by
    unfold qRanL
    rw [if_pos (h r (by omega) (by omega))]
    exact qRanL_0 k (r + 1) x (fun y a b => h y (by omega) (by push_cast; omega))
theorem fc_4 (hd : 6 < d) (hv : bz_oV v) (hV : vOK V) (hS : sOK V S) (h9 : S 0 ≤ 999) (hK : snOK V K A) (hM : cR V S 131 148 v M) (e1 : M 279 1 = K) (e2 : ∀ j : Nat, (j : Int) < 3 * K → M 280 j = A j) {c : Int} (h0 : 0 ≤ c) (h1 : c < vC V) : ∀ (k : Nat) (i L : Int), 0 ≤ i → i + k = K → 0 ≤ L → L ≤ 30 → (∀ j, 0 ≤ j → j < i → A (Int.toNat (3 * j)) ≤ L) → (L = 0 ∨ ∃ j, 0 ≤ j ∧ j < K ∧ A (Int.toNat (3 * j)) = L) → w_T (eFc_rowsBySeen_4 Lg d c L i M) (fun p => p.1 = qRanL (fb V S K A c) (vR V).toNat 0 0 ∧ fA M p.2)
  | 0, i, L, g0, g1, hL0, hL, hl, hex => by
    have s0 := hS.1
    have hR := hV.2.2.1
    have e0 : M 148 0 = S 0 := by rw [hM.2.2.1.1]; omega
    refine T_le (eFc_rowsBySeen_4_E (by omega)) ?_
    rw [e1, if_neg (by omega), e0, w32_id (z := 999 - S 0) (by omega) (by omega)]
    by_cases hb : 999 - S 0 < L
    · rw [if_pos hb]
      refine T_some ⟨?_, fA_refl _⟩
      dsimp only
      rw [qRanL_0]
      intro y _ _
      rcases hex with e | ⟨j, a, b, e⟩
      · omega
      · exact fb_0 (fun h => by have := (h j a b).1; omega)
    · rw [if_neg hb]
      exact fc_56 hd hv hV hS hK h0 h1 hL0 hL (fun j a b => hl j a (by omega)) (by omega) (vR V).toNat 0 0 M hM e1 e2 (by omega) (by omega)
  | k + 1, i, L, g0, g1, hL0, hL, hl, hex => by
    have hb := hK.2 i g0 (by omega)
    have hK1 := hK.1
    refine T_le (eFc_rowsBySeen_4_E (by omega)) ?_
    rw [e1, if_pos (by omega), w32_id (z := 3 * i) (by omega) (by omega), if_pos (by omega), e2 _ (by omega), w32_id (z := i + 1) (by omega) (by omega)]
    refine fc_4 hd hv hV hS h9 hK hM e1 e2 h0 h1 k (i + 1) _ (by omega) (by omega) (by omega) (by omega) (fun j a b => ?_) ?_
    · by_cases e : j = i
      · rw [e]; omega
      · have := hl j a (by omega); omega
    · by_cases hm : L ≤ A (3 * i).toNat
      · exact Or.inr ⟨i, g0, by omega, by omega⟩
      · rcases hex with e | ⟨j, a, b, e⟩
        · exfalso; omega
        · exact Or.inr ⟨j, a, b, by omega⟩
theorem fc_rbs (hd : 6 < d) (hv : bz_oV v) (hV : vOK V) (hS : sOK V S) (h9 : S 0 ≤ 999) (hK : snOK V K A) (hM : cR V S 131 148 v M) (e1 : M 279 1 = K) (e2 : ∀ j : Nat, (j : Int) < 3 * K → M 280 j = A j) {c : Int} (h0 : 0 ≤ c) (h1 : c < vC V) : w_T (eFc_rowsBySeen Lg d c M) (fun p => p.1 = qRanL (fb V S K A c) (vR V).toNat 0 0 ∧ fA M p.2) :=
  T_le eFc_rowsBySeen_E (fc_4 hd hv hV hS h9 hK hM e1 e2 h0 h1 K.toNat 0 0 (by omega) (by have := hK.1; omega) (by omega) (by omega) (fun j a b => by omega) (Or.inl rfl))
theorem c_ran (hd : 7 < d) (hv : bz_oV v) (hV : vOK V) (hS : sOK V S) (h9 : S 0 ≤ 999) (hK : snOK V K A) (hM : cR V S 131 148 v M) (e1 : M 279 1 = K) (e2 : ∀ j : Nat, (j : Int) < 3 * K → M 280 j = A j) {c : Int} : w_T (eBr_ran Lg d c M) (fun p => p.1 = qRan V S K A c ∧ qC M p.2) := by
  refine T_le (eBr_ran_E (by omega) hv) ?_
  simp only [bz_b0]
  rw [if_pos hM.1, hM.2.1.1.1]
  unfold qRan
  by_cases h1 : 0 ≤ c ∧ c < vC V
  · rw [if_neg (fun h => h h1), if_pos h1]
    refine T_seq (fc_rbs (by omega) hv hV hS h9 hK hM e1 e2 h1.1 h1.2) ?_
    rintro ⟨p1, p2⟩ ⟨a1, a2⟩
    exact T_some ⟨a1, qC_fA a2⟩
  · rw [if_pos h1, if_neg h1]; exact T_some ⟨rfl, qC_refl _⟩
end FT

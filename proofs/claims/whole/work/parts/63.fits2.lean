/-! QUERIES: ran, the reference -/
def sn2 (K : Int) (A : Nat → Int) (S' : Nat → Int) (n : Int) : Prop := ∀ i, 0 ≤ i → i < K → A (Int.toNat (3 * i)) = n → S' 0 ≤ 999 ∧ sRow S' (A (Int.toNat (3 * i + 1))) = A (Int.toNat (3 * i + 2))
def way (V : bz_M) (S : Nat → Int) (c x : Int) (n : Nat) : Int := sRow (sRun V n (sAt S c x)) c
def fC (f : Int → Int) : Nat → Int → Int → Int
  | 0, _, n => n
  | k + 1, r, n => fC f k (r + 1) (if f r = 0 then n else n + 1)
section FM
variable {Lg d : Nat} {V M M0 M' : bz_M} {S : Nat → Int} {K : Int} {A : Nat → Int}
theorem mo_asL (hd : 0 < d) (hV : vOK V) (hK : snOK V K A) (hM : mR V S M) (e1 : M 319 79 = K) (e2 : ∀ j : Nat, (j : Int) < 3 * K → M 372 j = A j) {n : Int} : ∀ (k : Nat) (i : Int), 0 ≤ i → i + k = K → (∀ j, 0 ≤ j → j < i → A (Int.toNat (3 * j)) = n → S 0 ≤ 999 ∧ sRow S (A (Int.toNat (3 * j + 1))) = A (Int.toNat (3 * j + 2))) → ∃ b, eMo_isAsSeen_2 Lg d n i M = some (b, M) ∧ ((b = 1 ∧ sn2 K A S n) ∨ (b = 0 ∧ ¬ sn2 K A S n))
  | 0, i, h0, h1, hdn => by
    refine ⟨1, eMo_isAsSeen_2_E hd _ ?_, Or.inl ⟨rfl, fun j a b c => hdn j a (by omega) c⟩⟩
    rw [e1, if_neg (by omega)]
  | k + 1, i, h0, h1, hdn => by
    have hC := hV.2.1
    have hR := hV.2.2.1
    have hb := hK.2 i h0 (by omega)
    have hK1 := hK.1
    have w3 : bz_w32 (3 * i) = 3 * i := w32_id (by omega) (by omega)
    have w4 : bz_w32 (3 * i + 1) = 3 * i + 1 := w32_id (by omega) (by omega)
    have w5 : bz_w32 (3 * i + 2) = 3 * i + 2 := w32_id (by omega) (by omega)
    have hE := fun b => eMo_isAsSeen_2_E (Lg := Lg) (x1 := n) (x2 := i) (M := M) hd (b, M)
    have e0 : M 364 0 = S 0 := hM.2 0 (by omega)
    have er : M 364 (Int.toNat (2 + A (3 * i + 1).toNat)) = sRow S (A (3 * i + 1).toNat) := mr_row hM hb.2.1.1 (by omega)
    have w6 : bz_w32 (2 + A (3 * i + 1).toNat) = 2 + A (3 * i + 1).toNat := w32_id (by omega) (by omega)
    rw [e1, if_pos (show i < K by omega), w3, w4, w5, w32_id (z := i + 1) (by omega) (by omega), if_pos (show (0 : Int) ≤ 3 * i ∧ 3 * i < 48 by omega), e2 (3 * i).toNat (by omega), e2 (3 * i + 1).toNat (by omega), e2 (3 * i + 2).toNat (by omega), e0, w6, er, if_pos (show (0 : Int) ≤ 3 * i + 1 ∧ 3 * i + 1 < 48 by omega), if_pos (show (0 : Int) ≤ 2 + A (3 * i + 1).toNat ∧ 2 + A (3 * i + 1).toNat < 303 by omega), if_pos (show (0 : Int) ≤ 3 * i + 2 ∧ 3 * i + 2 < 48 by omega)] at hE
    by_cases ht : A (Int.toNat (3 * i)) = n
    · rw [if_pos ht] at hE
      by_cases h9 : 999 < S 0
      · refine ⟨0, hE 0 (by rw [if_pos h9]), Or.inr ⟨rfl, fun h => ?_⟩⟩
        have := (h i h0 (by omega) ht).1; omega
      · rw [if_neg h9] at hE
        by_cases hs : sRow S (A (3 * i + 1).toNat) = A (3 * i + 2).toNat
        · rw [if_pos hs] at hE
          obtain ⟨b, g1, g2⟩ := mo_asL hd hV hK hM e1 e2 k (i + 1) (by omega) (by omega) (fun j a b c => by
            by_cases e : j = i
            · rw [e]; exact ⟨by omega, hs⟩
            · exact hdn j a (by omega) c)
          exact ⟨b, hE b g1, g2⟩
        · refine ⟨0, hE 0 (by rw [if_neg hs]), Or.inr ⟨rfl, fun h => hs (h i h0 (by omega) ht).2⟩⟩
    · rw [if_neg ht] at hE
      obtain ⟨b, g1, g2⟩ := mo_asL hd hV hK hM e1 e2 k (i + 1) (by omega) (by omega) (fun j a b c => by
        by_cases e : j = i
        · rw [e] at c; exact absurd c ht
        · exact hdn j a (by omega) c)
      exact ⟨b, hE b g1, g2⟩
theorem mo_as (hd : 0 < d) (hV : vOK V) (hK : snOK V K A) (hM : mR V S M) (e1 : M 319 79 = K) (e2 : ∀ j : Nat, (j : Int) < 3 * K → M 372 j = A j) {n : Int} : ∃ b, eMo_isAsSeen Lg d n M = some (b, M) ∧ ((b = 1 ∧ sn2 K A S n) ∨ (b = 0 ∧ ¬ sn2 K A S n)) := by
  obtain ⟨b, g1, g2⟩ := mo_asL (Lg := Lg) hd hV hK hM e1 e2 (n := n) K.toNat 0 (by omega) (by have := hK.1; omega) (fun j a b => by omega)
  exact ⟨b, eMo_isAsSeen_E _ g1, g2⟩
theorem th_373 (h : th M0 M) {k : Nat} {x : Int} {q : Nat} (hq : q = 373 ∨ q = 374) : th M0 (bz_up M q k x) := by
  refine ⟨by rw [bz_up_nr (by omega)]; exact h.1, fun j hj => by rw [bz_up_nr (by omega)]; exact h.2.1 j hj, fun j hj => by rw [bz_up_nr (by omega)]; exact h.2.2.1 j hj, fun r hr h4 => by rw [bz_up_fn (by omega)]; exact h.2.2.2.1 r hr h4, fun j hj h7 => by rw [bz_up_nr (by omega)]; exact h.2.2.2.2 j hj h7⟩
theorem th_83 (h : th M0 M) {x : Int} : th M0 (bz_up M 319 83 x) := by
  refine ⟨by rw [bz_up_nk (by decide)]; exact h.1, fun j hj => by rw [bz_up_nr (by decide)]; exact h.2.1 j hj, fun j hj => by rw [bz_up_nr (by decide)]; exact h.2.2.1 j hj, fun q hq h4 => by rw [bz_up_fn (by omega)]; exact h.2.2.2.1 q hq h4, fun j hj h7 => by rw [bz_up_nk (by omega)]; exact h.2.2.2.2 j hj h7⟩
/-- of one row: thirty-one seasons -/
theorem mo_33 (hd : 7 < d) (hV : vOK V) (hS : sOK V S) (h9 : S 0 ≤ 999) (hK : snOK V K A) (e1 : M0 319 79 = K) (e2 : ∀ j : Nat, (j : Int) < 3 * K → M0 372 j = A j) (hM0 : mV V M0) {c x : Int} (h0 : 0 ≤ c) (h1 : c < vC V) (hx : 0 ≤ x ∧ x < vR V) {Q : bz_M → Prop} : ∀ (k : Nat) (n : Nat) (is : Int) (M : bz_M), th M0 M → mR V (sRun V n (sAt S c x)) M → n + k = 31 → ((is = 1 ∧ ∀ m, m < n → sn2 K A (sRun V m (sAt S c x)) (m : Int)) ∨ (is = 0 ∧ ¬ ∀ m, m < n → sn2 K A (sRun V m (sAt S c x)) (m : Int))) → (∀ m, m < n → M 373 (Int.toNat (31 * x) + m) = way V S c x m) → (∀ M' is', ((is' = 1 ∧ ∀ m, m < 31 → sn2 K A (sRun V m (sAt S c x)) (m : Int)) ∨ (is' = 0 ∧ ¬ ∀ m, m < 31 → sn2 K A (sRun V m (sAt S c x)) (m : Int))) → th M0 M' → M' 364 = M0 364 → (∀ m, m < 31 → M' 373 (Int.toNat (31 * x) + m) = way V S c x m) → (∀ j, j < Int.toNat (31 * x) → M' 373 j = M 373 j) → M' 374 = M 374 → M' 319 83 = M 319 83 → w_T (if is' = 0 ∨ is' = 1 then (if (0 : Int) ≤ x ∧ x < 8 then (if is' = 0 then (eMo_laysFits_11 Lg d c (bz_w32 (x + 1)) (bz_up M' 374 (Int.toNat x) is')) else (eMo_laysFits_11 Lg d c (bz_w32 (x + 1)) (bz_up (bz_up M' 374 (Int.toNat x) is') 319 83 (bz_w32 ((M' 319 83) + 1))))) else none) else none) Q) → w_T (eMo_laysFits_33 Lg d c x is (n : Int) M) Q
  | 0, n, is, M, ht, hM, hk, his, hw, hQ => by
    have en : n = 31 := by omega
    subst en
    refine T_le (eMo_laysFits_33_E (by omega)) ?_
    rw [if_pos (by decide)]
    refine T_seq (mo_anew ht) ?_
    rintro M1 ⟨a1, a2, a3⟩
    exact hQ M1 is his a1 a2 (fun m hm => by rw [a3 373 (by decide)]; exact hw m hm) (fun j _ => by rw [a3 373 (by decide)]) (a3 374 (by decide)) (by rw [a3 319 (by decide)])
  | k + 1, n, is, M, ht, hM, hk, his, hw, hQ => by
    have hC := hV.2.1
    have hR := hV.2.2.1
    have hs := sAt_ok hV hS h0 h1 hx
    have hr := sRun_ok hV n (sAt S c x) hs.1 (by rw [hs.2]; omega)
    have f1 : M 319 79 = K := by rw [ht.2.2.2.2 79 (by decide) (by decide)]; exact e1
    have f2 : ∀ j : Nat, (j : Int) < 3 * K → M 372 j = A j := fun j hj => by rw [ht.2.2.2.1 372 (by decide) (by decide)]; exact e2 j hj
    have all_succ : (∀ m, m < n + 1 → sn2 K A (sRun V m (sAt S c x)) (m : Int)) ↔ ((∀ m, m < n → sn2 K A (sRun V m (sAt S c x)) (m : Int)) ∧ sn2 K A (sRun V n (sAt S c x)) (n : Int)) := by
      constructor
      · intro h; exact ⟨fun m hm => h m (by omega), h n (by omega)⟩
      · rintro ⟨h, g⟩ m hm
        by_cases e : m = n
        · rw [e]; exact g
        · exact h m (by omega)
    -- the season's rest
    have rest : ∀ is', ((is' = 1 ∧ ∀ m, m < n + 1 → sn2 K A (sRun V m (sAt S c x)) (m : Int)) ∨ (is' = 0 ∧ ¬ ∀ m, m < n + 1 → sn2 K A (sRun V m (sAt S c x)) (m : Int))) → w_T (eMo_laysFits_58 Lg d c x (n : Int) is' M) Q := by
      intro is' hi
      refine T_le (eMo_laysFits_58_E (by omega)) ?_
      have w3 : bz_w32 (bz_w32 (31 * x) + (n : Int)) = 31 * x + (n : Int) := by rw [w32_id (z := 31 * x) (by omega) (by omega), w32_id (by omega) (by omega)]
      rw [w32_id (z := 2 + c) (by omega) (by omega), if_pos (by omega), w3, if_pos (by omega), mr_row hM h0 (by omega)]
      have ht1 := th_373 (k := Int.toNat (31 * x + (n : Int))) (x := sRow (sRun V n (sAt S c x)) c) ht (Or.inl rfl)
      have hM1 : mR V (sRun V n (sAt S c x)) (bz_up M 373 (Int.toNat (31 * x + (n : Int))) (sRow (sRun V n (sAt S c x)) c)) := mR_qM hM ⟨fun q hq => bz_up_fn (by omega), fun j hj => bz_up_nr (by decide) _⟩
      refine T_seq (mo_seasonT (by omega) hV hr.1 (by rw [hr.2, hs.2]; omega) hM1 (by rw [ht1.1]; decide)) ?_
      rintro M1 ⟨b1, _, _, b4, b5⟩
      rw [show bz_w32 ((n : Int) + 1) = ((n + 1 : Nat) : Int) by rw [w32_id (by omega) (by omega)]; omega]
      have ex := sRun_succ (V := V) n (sAt S c x)
      rw [← ex] at b1
      have g3 : M1 373 = bz_up M 373 (Int.toNat (31 * x + (n : Int))) (sRow (sRun V n (sAt S c x)) c) 373 := b4.1 373 (by decide) (by decide) (by decide) (by decide)
      have g4 : M1 374 = M 374 := by rw [b4.1 374 (by decide) (by decide) (by decide) (by decide), bz_up_fn (by decide)]
      have g5 : M1 319 83 = M 319 83 := by rw [b4.2 83 (by decide) (by decide) (by decide) (by decide) (by decide) (by decide) (by decide) (by decide), bz_up_nr (by decide)]
      refine mo_33 hd hV hS h9 hK e1 e2 hM0 h0 h1 hx k (n + 1) is' M1 (th_fh ht1 b4 b5) b1 (by omega) hi (fun m hm => ?_) (fun M' i' q1 q2 q3 q4 q5 q6 q7 => hQ M' i' q1 q2 q3 q4 (fun j hj => ?_) (q6.trans g4) (q7.trans g5))
      · rw [g3, bz_up_rk]
        by_cases e : m = n
        · rw [if_pos ⟨rfl, by omega⟩, e]; rfl
        · rw [if_neg (fun h => e (by omega))]; exact hw m (by omega)
      · rw [q5 j hj, g3, bz_up_nk (by omega)]
    refine T_le (eMo_laysFits_33_E (by omega)) ?_
    rw [if_neg (by omega)]
    rcases his with ⟨i1, i2⟩ | ⟨i1, i2⟩
    · rw [if_neg (by omega)]
      obtain ⟨b, g1, g2⟩ := mo_as (Lg := Lg) (d := d - 1) (by omega) hV hK hM f1 f2 (n := (n : Int))
      refine T_run g1 ?_
      dsimp only
      rcases g2 with ⟨rfl, g2⟩ | ⟨rfl, g2⟩
      · rw [if_neg (by decide)]; exact rest 1 (Or.inl ⟨rfl, all_succ.mpr ⟨i2, g2⟩⟩)
      · rw [if_pos rfl]; exact rest 0 (Or.inr ⟨rfl, fun h => g2 (all_succ.mp h).2⟩)
    · rw [if_pos i1]
      exact rest 0 (Or.inr ⟨rfl, fun h => i2 (all_succ.mp h).1⟩)
theorem fit_iff2 (hV : vOK V) (hS : sOK V S) (h9 : S 0 ≤ 999) (hK : snOK V K A) {c x : Int} (h0 : 0 ≤ c) (h1 : c < vC V) (hx : 0 ≤ x ∧ x < vR V) : (∀ m, m < 31 → sn2 K A (sRun V m (sAt S c x)) (m : Int)) ↔ fit V S K A c x := by
  have hs := sAt_ok hV hS h0 h1 hx
  constructor
  · intro h i a b
    have hb := hK.2 i a b
    have g := h (A (Int.toNat (3 * i))).toNat (by omega) i a b (by omega)
    have hr := sRun_ok hV (A (Int.toNat (3 * i))).toNat (sAt S c x) hs.1 (by rw [hs.2]; omega)
    rw [hr.2, hs.2] at g
    exact ⟨by omega, g.2⟩
  · intro h m hm i a b e
    have g := h i a b
    have hr := sRun_ok hV m (sAt S c x) hs.1 (by rw [hs.2]; omega)
    rw [hr.2, hs.2]
    rw [e, Int.toNat_natCast] at g
    exact g
/-- what is laid -/
def laid (V : bz_M) (S : Nat → Int) (K : Int) (A : Nat → Int) (c : Int) (M : bz_M) (X : Int) : Prop := (∀ x, 0 ≤ x → x < X → M 374 x.toNat = fb V S K A c x) ∧ (∀ x, 0 ≤ x → x < X → ∀ m, m < 31 → M 373 (Int.toNat (31 * x) + m) = way V S c x m) ∧ M 319 83 = fC (fb V S K A c) X.toNat 0 0
theorem fC_snoc {f : Int → Int} : ∀ (k : Nat) (r n : Int), fC f (k + 1) r n = (if f (r + k) = 0 then fC f k r n else fC f k r n + 1)
  | 0, r, n => by simp [fC]
  | k + 1, r, n => by
    show fC f (k + 1) (r + 1) _ = _
    rw [fC_snoc k (r + 1), show r + 1 + (k : Int) = r + ((k + 1 : Nat) : Int) by push_cast; omega]
    rfl
theorem fC_bd {f : Int → Int} : ∀ (k : Nat) (r n : Int), n ≤ fC f k r n ∧ fC f k r n ≤ n + k
  | 0, _, _ => by unfold fC; omega
  | k + 1, r, n => by
    unfold fC
    have := fC_bd (f := f) k (r + 1) (if f r = 0 then n else n + 1)
    split at this <;> rename_i h
    · rw [if_pos h]; push_cast; omega
    · rw [if_neg h]; push_cast; omega
theorem mo_11 (hd : 7 < d) (hV : vOK V) (hS : sOK V S) (h9 : S 0 ≤ 999) (hK : snOK V K A) (e1 : M0 319 79 = K) (e2 : ∀ j : Nat, (j : Int) < 3 * K → M0 372 j = A j) (hM0 : mR V S M0) (h7 : M0 319 70 = 0) {c : Int} (h0 : 0 ≤ c) (h1 : c < vC V) : ∀ (k : Nat) (x : Int) (M : bz_M), th M0 M → M 364 = M0 364 → laid V S K A c M x → 0 ≤ x → x + k = vR V → w_T (eMo_laysFits_11 Lg d c x M) (fun M' => qM M0 M' ∧ laid V S K A c M' (vR V))
  | 0, x, M, ht, h4, hl, g0, g1 => by
    have hM := mR_th ht hM0 h4
    refine T_le (eMo_laysFits_11_E (by omega)) ?_
    rw [hM.1.1.2.1, if_neg (by omega)]
    have ex : x = vR V := by omega
    rw [ex] at hl
    have hb := mo_back (Lg := Lg) (d := d - 1) (by omega) ht h7
    have hb3 : w_T (eMo_takesBack Lg (d - 1) M) (fun M2 => M2 373 = M 373 ∧ M2 374 = M 374 ∧ M2 319 83 = M 319 83) := by
      refine T_le (eMo_takesBack_E (by omega)) ?_
      refine T_seq (mo_anew ht) ?_
      rintro M2 ⟨_, _, c3⟩
      exact T_some ⟨by rw [bz_up_fn (by decide), c3 373 (by decide)], by rw [bz_up_fn (by decide), c3 374 (by decide)], by rw [bz_up_nk (by decide), c3 319 (by decide)]⟩
    obtain ⟨M2, em, q1⟩ := hb
    obtain ⟨M2', em', q2⟩ := hb3
    rw [em] at em'
    cases em'
    refine T_run em (T_some ⟨q1, ?_⟩)
    unfold laid at hl ⊢
    rw [q2.1, q2.2.1, q2.2.2]
    exact hl
  | k + 1, x, M, ht, h4, hl, g0, g1 => by
    have hC := hV.2.1
    have hR := hV.2.2.1
    have hM := mR_th ht hM0 h4
    have hx : 0 ≤ x ∧ x < vR V := by omega
    refine T_le (eMo_laysFits_11_E (by omega)) ?_
    rw [hM.1.1.2.1, if_pos (by omega), w32_id (z := 2 + c) (by omega) (by omega), if_pos (by omega)]
    have hM1 : mR V (sAt S c x) (bz_up M 364 (Int.toNat (2 + c)) x) := mR_up hM (by omega)
    refine mo_33 hd hV hS h9 hK e1 e2 hM0.1 h0 h1 hx 31 0 1 _ (th_up ht (by omega)) hM1 (by omega) (Or.inl ⟨rfl, fun m hm => by omega⟩) (fun m hm => by omega) (fun M' i' q1 q2 q3 q4 q5 q6 q7 => ?_)
    have eb : i' = fb V S K A c x := by
      rcases q1 with ⟨r1, r2⟩ | ⟨r1, r2⟩
      · exact r1.trans (fb_1 ((fit_iff2 hV hS h9 hK h0 h1 hx).mp r2)).symm
      · exact r1.trans (fb_0 (fun h => r2 ((fit_iff2 hV hS h9 hK h0 h1 hx).mpr h))).symm
    have hc := fC_bd (f := fb V S K A c) x.toNat 0 0
    have e83 : M' 319 83 = fC (fb V S K A c) x.toNat 0 0 := by rw [q7, bz_up_nr (by decide)]; exact hl.2.2
    have esn : fC (fb V S K A c) (x + 1).toNat 0 0 = if fb V S K A c x = 0 then fC (fb V S K A c) x.toNat 0 0 else fC (fb V S K A c) x.toNat 0 0 + 1 := by
      rw [show (x + 1).toNat = x.toNat + 1 by omega, fC_snoc, show (0 : Int) + (x.toNat : Int) = x by omega]
    -- what stands
    have old : ∀ M2 : bz_M, M2 374 = bz_up M' 374 x.toNat i' 374 → M2 373 = M' 373 → M2 319 83 = fC (fb V S K A c) (x + 1).toNat 0 0 → laid V S K A c M2 (x + 1) := by
      intro M2 z1 z2 z3
      refine ⟨fun y a b => ?_, fun y a b m hm => ?_, z3⟩
      · rw [z1, bz_up_rk]
        by_cases e : y = x
        · rw [if_pos ⟨rfl, by rw [e]⟩, e]; exact eb
        · rw [if_neg (fun h => e (by omega)), q6, bz_up_fn (by decide)]; exact hl.1 y a (by omega)
      · rw [z2]
        by_cases e : y = x
        · rw [e]; exact q4 m hm
        · rw [q5 _ (by omega), bz_up_fn (by decide)]; exact hl.2.1 y a (by omega) m hm
    rw [if_pos (by rcases q1 with q | q; exact Or.inr q.1; exact Or.inl q.1), if_pos (by omega), w32_id (z := x + 1) (by omega) (by omega)]
    by_cases hi : i' = 0
    · rw [if_pos hi]
      refine mo_11 hd hV hS h9 hK e1 e2 hM0 h7 h0 h1 k (x + 1) _ (th_373 q2 (Or.inr rfl)) (by rw [bz_up_fn (by decide)]; exact q3) (old _ rfl (bz_up_fn (by decide)) ?_) (by omega) (by omega)
      rw [bz_up_nr (by decide), e83, esn, if_pos (by rw [← eb]; exact hi)]
    · rw [if_neg hi, e83, w32_id (by omega) (by omega)]
      refine mo_11 hd hV hS h9 hK e1 e2 hM0 h7 h0 h1 k (x + 1) _ (th_83 (th_373 q2 (Or.inr rfl))) (by rw [bz_up_fn (by decide), bz_up_fn (by decide)]; exact q3) (old _ (bz_up_fn (by decide)) (by rw [bz_up_fn (by decide), bz_up_fn (by decide)]) ?_) (by omega) (by omega)
      rw [bz_up_eq, esn, if_neg (by rw [← eb]; exact hi)]
theorem mo_fits (hd : 8 < d) (hV : vOK V) (hS : sOK V S) (h9 : S 0 ≤ 999) (hK : snOK V K A) (hM : mR V S M) (h7 : M 319 70 = 0) (e1 : M 319 79 = K) (e2 : ∀ j : Nat, (j : Int) < 3 * K → M 372 j = A j) {c : Int} (h0 : 0 ≤ c) (h1 : c < vC V) : w_T (eMo_laysFits Lg d c M) (fun M' => qM M M' ∧ laid V S K A c M' (vR V)) := by
  have hR := hV.2.2.1
  refine T_le (eMo_laysFits_E (by omega)) ?_
  have q0 : qM M (bz_up M 319 83 0) := ⟨fun q hq => bz_up_fn (by omega), fun k hk => bz_up_nk (by omega) _⟩
  have h83 : w_T (eMo_putsAside Lg (d - 1) (bz_up M 319 83 0)) (fun M' => (th (bz_up M 319 83 0) M' ∧ M' 364 = bz_up M 319 83 0 364) ∧ M' 319 83 = 0) := by
    refine T_le eMo_putsAside_E ?_
    refine mo_asideL 182 0 _ (by omega) (by omega) (fun i hi => by omega) (fun M' a b => ⟨⟨⟨?_, fun k hk => ?_, fun k hk => ?_, fun q hq h4 => ?_, fun k hk h7 => ?_⟩, ?_⟩, ?_⟩)
    · rw [b 319 (by decide), bz_up_eq]
    · rw [a k hk, bz_up_nr (by decide)]
    · rw [b 364 (by decide), bz_up_nr (by decide)]
    · rw [b q (by omega), bz_up_fn (by omega)]
    · rw [b 319 (by decide), bz_up_nk h7]
    · rw [b 364 (by decide), bz_up_fn (by decide)]
    · rw [b 319 (by decide), bz_up_nk (by decide), bz_up_eq]
  refine T_seq h83 ?_
  rintro M1 ⟨⟨a1, a2⟩, a3⟩
  refine T_mono (mo_11 (by omega) hV hS h9 hK (by rw [bz_up_nk (by decide)]; exact e1) (fun j hj => by rw [bz_up_nr (by decide)]; exact e2 j hj) (mR_qM hM q0) (by rw [bz_up_nk (by decide)]; exact h7) h0 h1 (vR V).toNat 0 M1 a1 a2 ⟨fun x a b => by omega, fun x a b => by omega, a3⟩ (by omega) (by omega)) (fun M' hp => ⟨qM_trans q0 hp.1, hp.2⟩)
theorem mo_20 (hd : 0 < d) (hV : vOK V) (hM : mR V S M) {f : Int → Int} (hf : ∀ x, 0 ≤ x → x < vR V → M 374 x.toNat = f x) : ∀ (k : Nat) (r x : Int), 0 ≤ r → r + k = vR V → eMo_ran_20 Lg d x r M = some (qRanL f k r x, M)
  | 0, r, x, h0, h1 => by
    refine eMo_ran_20_E hd _ ?_
    rw [hM.1.1.2.1, if_neg (by omega)]; rfl
  | k + 1, r, x, h0, h1 => by
    have hR := hV.2.2.1
    refine eMo_ran_20_E hd _ ?_
    rw [hM.1.1.2.1, if_pos (by omega), if_pos (by omega), hf r h0 (by omega), w32_id (by omega) (by omega)]
    unfold qRanL
    split
    · exact mo_20 hd hV hM hf k (r + 1) x (by omega) (by omega)
    · exact mo_20 hd hV hM hf k (r + 1) _ (by omega) (by omega)
theorem m_ran (hd : 9 < d) (hV : vOK V) (hS : sOK V S) (h9 : S 0 ≤ 999) (hK : snOK V K A) (hM : mR V S M) (h7 : M 319 70 = 0) (e1 : M 319 79 = K) (e2 : ∀ j : Nat, (j : Int) < 3 * K → M 372 j = A j) {c : Int} : w_T (eMo_ran Lg d c M) (fun p => p.1 = qRan V S K A c ∧ qM M p.2) := by
  have hC := hV.2.1
  have hR := hV.2.2.1
  have e6 : M 319 60 = 1 := hM.1.1.2.2.2.2.trans hV.1
  refine T_le (eMo_ran_E (by omega)) ?_
  simp only [bz_b0]
  rw [hM.1.1.1, e6, w32_id (z := vC V - 1) (by omega) (by omega)]
  unfold qRan
  by_cases h1 : 0 ≤ c ∧ c < vC V
  · rw [if_neg (fun h => h (by omega)), if_pos h1]
    refine T_seq (mo_fits (by omega) hV hS h9 hK hM h7 e1 e2 h1.1 h1.2) ?_
    rintro M1 ⟨a1, a2⟩
    exact T_eq (mo_20 (by omega) hV (mR_qM hM a1) a2.1 (vR V).toNat 0 0 (by omega) (by omega)) ⟨rfl, a1⟩
  · rw [if_pos (by omega), if_neg h1]; exact T_some ⟨rfl, qM_refl _⟩
end FM

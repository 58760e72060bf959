/-! THE REFERENCE'S RIVER: a season, whole -/
def mFh (M M' : bz_M) : Prop := (∀ q, q ≠ 410 → q ≠ 319 → q ≠ 364 → q ≠ 367 → M' q = M q) ∧ (∀ k, k ≠ 61 → k ≠ 64 → k ≠ 65 → k ≠ 66 → k ≠ 67 → k ≠ 68 → k ≠ 127 → k ≠ 71 → M' 319 k = M 319 k)
theorem mFh_refl (M : bz_M) : mFh M M := ⟨fun _ _ _ _ _ => rfl, fun _ _ _ _ _ _ _ _ _ => rfl⟩
theorem mFh_trans {A B C : bz_M} (h : mFh A B) (g : mFh B C) : mFh A C := ⟨fun q a b c e => (g.1 q a b c e).trans (h.1 q a b c e), fun k a b c d e f i j => (g.2 k a b c d e f i j).trans (h.2 k a b c d e f i j)⟩
theorem mFh_fg {M M' : bz_M} (h : mFg M M') : mFh M M' := ⟨h.1, fun k a b c d e f i _ => h.2.1 k a b c d e f i⟩
theorem mFh_a {M : bz_M} {k : Nat} {x : Int} : mFh M (bz_up M 364 k x) := ⟨fun q _ _ h _ => bz_up_fn h, fun j _ _ _ _ _ _ _ _ => bz_up_nr (by decide) _⟩
theorem mFh_b {M : bz_M} {x : Int} : mFh M (bz_up M 319 71 x) := ⟨fun q _ h _ _ => bz_up_fn h, fun j _ _ _ _ _ _ _ h => bz_up_nk h _⟩
def gPass (V : bz_M) (S G : Nat → Int) : Nat → Int := gPaidL V (vC V).toNat 0 (sBefore V S) G
section MPA
variable {Lg d : Nat} {V M M' : bz_M} {S : Nat → Int}
theorem mV_fh (h : mV V M) (f : mFh M M') : mV V M' := mV_co h (f.1 _ (by decide) (by decide) (by decide) (by decide)) (f.2 _ (by decide) (by decide) (by decide) (by decide) (by decide) (by decide) (by decide) (by decide)) (f.2 _ (by decide) (by decide) (by decide) (by decide) (by decide) (by decide) (by decide) (by decide)) (f.1 _ (by decide) (by decide) (by decide) (by decide)) (f.1 _ (by decide) (by decide) (by decide) (by decide)) (f.1 _ (by decide) (by decide) (by decide) (by decide)) (f.1 _ (by decide) (by decide) (by decide) (by decide)) (f.1 _ (by decide) (by decide) (by decide) (by decide))
theorem mo_paid (hd : 6 < d) (hV : vOK V) {Q : bz_M → Prop} : ∀ (k : Nat) (c b P : Int) (S : Nat → Int) (M : bz_M), sOK V S → mR V S M → 0 ≤ b → b + k ≤ 100 → 0 ≤ P → P + 495 * k ≤ 100000 → 0 ≤ c → c + k = vC V → (∀ M', mR V (upS (sPaidL V k c (S, b, P)).1 1 (min ((sPaidL V k c (S, b, P)).1 1 + (sPaidL V k c (S, b, P)).2.2) 999999)) M' → M' 367 = gPaidL V k c S (M 367) → M' 319 71 = bz_w32 (M 319 71 + (sPaidL V k c (S, b, P)).2.2) → mFh M M' → (∀ j, 182 ≤ j → M' 364 j = M 364 j) → w_T ((eMo_isKept Lg (d - 1) (sPaidL V k c (S, b, P)).2.1 (sPaidL V k c (S, b, P)).2.2 M').bind (fun M2 => some (bz_up M2 364 0 (bz_w32 (M2 364 0 + 1))))) Q) → w_T (eMo_seasonGoes_78 Lg d b P c M) Q
  | 0, c, b, P, S, M, hS, hM, hb0, hb1, hP0, hP1, h0, h1, hQ => by
    have s1 := hS.2.1
    refine T_le (eMo_seasonGoes_78_E (by omega)) ?_
    have e1 : M 364 1 = S 1 := hM.2 1 (by omega)
    rw [hM.1.1.1, if_neg (by omega), e1, w32_id (z := S 1 + P) (by omega) (by omega)]
    have go : ∀ x, x = min (S 1 + P) 999999 → w_T ((eMo_isKept Lg (d - 1) b P (bz_up (bz_up M 364 1 x) 319 71 (bz_w32 (M 319 71 + P)))).bind (fun M2 => some (bz_up M2 364 0 (bz_w32 (M2 364 0 + 1))))) Q := by
      rintro x rfl
      have f := mFh_trans (mFh_a (M := M) (k := 1) (x := min (S 1 + P) 999999)) (mFh_b (x := bz_w32 (M 319 71 + P)))
      refine hQ _ ⟨mV_fh hM.1 f, fun k hk => ?_⟩ ?_ ?_ f (fun j hj => ?_)
      · rw [bz_up_nr (by decide), bz_up_rk]
        show _ = upS S 1 _ k
        unfold upS
        by_cases hk2 : k = 1
        · rw [if_pos ⟨rfl, hk2⟩, if_pos hk2]; rfl
        · rw [if_neg (fun h => hk2 h.2), if_neg hk2]
          exact hM.2 k hk
      · rw [bz_up_fn (by decide), bz_up_fn (by decide)]; rfl
      · rw [bz_up_eq]; rfl
      · rw [bz_up_nr (by decide), bz_up_nk (by omega)]
    by_cases h9 : 999999 < S 1 + P
    · rw [if_pos h9]; exact go _ (by omega)
    · rw [if_neg h9]; exact go _ (by omega)
  | k + 1, c, b, P, S, M, hS, hM, hb0, hb1, hP0, hP1, h0, h1, hQ => by
    have hC := hV.2.1
    have hL := hV.2.2.2.2.1
    refine T_le (eMo_seasonGoes_78_E (by omega)) ?_
    rw [hM.1.1.1, if_pos (by omega), w32_id (z := c + 1) (by omega) (by omega), w32_id (z := b + 1) (by omega) (by omega)]
    refine T_seq (mo_bend (by omega) hV hS hM h0 (by omega)) ?_
    rintro ⟨p1, p2⟩ ⟨e1, e2⟩
    dsimp only at e1 e2 ⊢
    have hM2 := mR_fz hM e2
    have f2 := mFh_fg (mFg_fm (mFm_fz e2))
    have e7 : p2 367 = M 367 := e2.1 _ (by decide) (by decide)
    have e71 : p2 319 71 = M 319 71 := e2.2 _ (by decide) (by decide) (by decide) (by decide) (by decide) (by decide) (by decide)
    have e36 : p2 364 = M 364 := e2.1 _ (by decide) (by decide)
    rw [e1]
    unfold sPaidL gPaidL at hQ
    by_cases hc : sBend V S c = 0
    · rw [if_pos hc]
      simp only [if_pos hc] at hQ
      refine mo_paid hd hV k (c + 1) b P S p2 hS hM2 hb0 (by omega) hP0 (by omega) (by omega) (by omega) ?_
      intro M' a1 a2 a3 a4 a5
      exact hQ M' a1 (by rw [a2, e7]) (by rw [a3, e71]) (mFh_trans f2 a4) (fun j hj => by rw [a5 j hj, e36])
    · rw [if_neg hc]
      simp only [if_neg hc] at hQ
      have gs := sColL_ok hV (c := c) (vL V).toNat 0 (S, 0) hS (by omega) (by omega)
      have gs2 := gs.2.2
      dsimp only at gs2
      refine T_seq (T_le eMo_bendPaid_E (mo_colL (by omega) hV (vL V).toNat 0 0 S p2 hS hM2 (by omega) (by omega) (by omega) (by omega))) ?_
      rintro ⟨a1, a2⟩ ⟨g1, g2, g3, g5⟩
      dsimp only at g1 g2 g3 g5 ⊢
      have g1' : a1 = (sCol V S c).2 := g1
      have g2' : mR V (sCol V S c).1 a2 := g2
      have gp : 0 ≤ (sCol V S c).2 ∧ (sCol V S c).2 ≤ 495 := by unfold sCol; omega
      rw [g1', w32_id (by omega) (by omega)]
      refine mo_paid hd hV k (c + 1) (b + 1) (P + (sCol V S c).2) (sCol V S c).1 a2 gs.1 g2' (by omega) (by omega) (by omega) (by omega) (by omega) (by omega) ?_
      intro M' q1 q2 q3 q4 q5
      refine hQ M' q1 ?_ ?_ (mFh_trans f2 (mFh_trans (mFh_fg g5) q4)) (fun j hj => by rw [q5 j hj, g5.2.2 j hj, e36])
      · rw [q2, g3, e7]; rfl
      · rw [q3, g5.2.1 71 (by decide) (by decide) (by decide) (by decide) (by decide) (by decide) (by decide), e71]
theorem mo_keptT (h : M 319 70 ≠ 0) {a b : Int} : eMo_isKept Lg d a b M = some M := by
  refine eMo_isKept_E _ ?_
  rw [if_neg h]
/-- a season of the reference, up to what is kept -/
theorem mo_seasonG (hd : 6 < d) (hV : vOK V) (hS : sOK V S) (hM : mR V S M) {Q : bz_M → Prop} (hQ : ∀ M', mR V (upS (sPaid V (sBefore V S)).1 1 (min ((sPaid V (sBefore V S)).1 1 + (sPaid V (sBefore V S)).2.2) 999999)) M' → M' 367 = gPass V S (M 367) → M' 319 71 = bz_w32 (M 319 71 + (sPaid V (sBefore V S)).2.2) → mFh M M' → (∀ j, 182 ≤ j → M' 364 j = M 364 j) → w_T ((eMo_isKept Lg (d - 1) (sPaid V (sBefore V S)).2.1 (sPaid V (sBefore V S)).2.2 M').bind (fun M2 => some (bz_up M2 364 0 (bz_w32 (M2 364 0 + 1))))) Q) : w_T (eMo_seasonGoes Lg d M) Q := by
  have hC := hV.2.1
  refine T_le eMo_seasonGoes_E ?_
  refine mo_moves hd hV (vC V).toNat 0 S M hS hM (by omega) (by omega) ?_
  intro M1 a1 a2
  have k1 := sMoves_ok hV (vC V).toNat 0 S hS (by omega) (by omega)
  refine mo_evers hd hV (vC V).toNat 0 _ M1 k1.1 a1 (by omega) (by omega) ?_
  intro M2 b1 b2
  have h := sBefore_ok hV hS
  have f := mFm_trans a2 b2
  refine mo_paid hd hV (vC V).toNat 0 0 0 (sBefore V S) M2 h.1 b1 (by omega) (by omega) (by omega) (by omega) (by omega) (by omega) ?_
  intro M' q1 q2 q3 q4 q5
  exact hQ M' q1 (by rw [q2, f.1 367 (by decide) (by decide) (by decide)]; rfl) (by rw [q3, f.2.1 71 (by decide) (by decide) (by decide) (by decide) (by decide) (by decide) (by decide)]; rfl) (mFh_trans (mFh_fg (mFg_fm f)) q4) (fun j hj => by rw [q5 j hj, f.2.2 j hj])
/-- in thought -/
theorem mo_seasonT (hd : 6 < d) (hV : vOK V) (hS : sOK V S) (h9 : S 0 ≤ 1029) (hM : mR V S M) (ht : M 319 70 ≠ 0) : w_T (eMo_seasonGoes Lg d M) (fun M' => mR V (sPass V S) M' ∧ M' 367 = gPass V S (M 367) ∧ M' 319 71 = bz_w32 (M 319 71 + (sPaid V (sBefore V S)).2.2) ∧ mFh M M' ∧ ∀ j, 182 ≤ j → M' 364 j = M 364 j) := by
  refine mo_seasonG hd hV hS hM ?_
  intro M1 q1 q2 q3 q4 q5
  have e70 : M1 319 70 = M 319 70 := q4.2 70 (by decide) (by decide) (by decide) (by decide) (by decide) (by decide) (by decide) (by decide)
  refine T_run (mo_keptT (by rw [e70]; exact ht)) ?_
  have h := sBefore_ok hV hS
  have h2 := sPaid_ok hV h.1
  have s0 := hS.1
  have e0 : M1 364 0 = S 0 := by
    rw [q1.2 0 (by omega), upS_ne (by decide), h2.2.1 0 (by omega), h.2.1]
  rw [e0, w32_id (by omega) (by omega)]
  have f := mFh_trans q4 (mFh_a (k := 0) (x := S 0 + 1))
  refine T_some ⟨⟨mV_fh hM.1 f, fun k hk => ?_⟩, ?_, ?_, f, fun j hj => ?_⟩
  · rw [bz_up_rk]
    unfold sPass
    by_cases hk2 : k = 0
    · rw [if_pos ⟨rfl, hk2⟩, hk2, upS_eq]
    · rw [if_neg (fun h => hk2 h.2), upS_ne hk2]
      exact q1.2 k hk
  · rw [bz_up_fn (by decide)]; exact q2
  · rw [bz_up_nr (by decide)]; exact q3
  · rw [bz_up_nk (by omega)]; exact q5 j hj
def gRun (V : bz_M) : Nat → (Nat → Int) → (Nat → Int) → (Nat → Int)
  | 0, _, G => G
  | n + 1, S, G => gRun V n (sPass V S) (gPass V S G)
theorem sRun_ok (hV : vOK V) : ∀ (n : Nat) (S : Nat → Int), sOK V S → S 0 + n ≤ 1030 → sOK V (sRun V n S) ∧ sRun V n S 0 = S 0 + n
  | 0, S, hS, _ => ⟨hS, by simp [sRun]⟩
  | n + 1, S, hS, h => by
    have h1 := sPass_ok hV hS (by omega)
    have h2 := sRun_ok hV n (sPass V S) h1.1 (by rw [h1.2]; omega)
    refine ⟨h2.1, ?_⟩
    show sRun V n (sPass V S) 0 = _
    rw [h2.2, h1.2]; push_cast; omega
theorem mo_goL (hd : 7 < d) (hV : vOK V) {n : Int} (hn : n ≤ 1000) : ∀ (k : Nat) (i : Int) (S : Nat → Int) (M : bz_M), sOK V S → S 0 + k ≤ 1030 → mR V S M → M 319 70 ≠ 0 → 0 ≤ i → i + k = n → w_T (eMo_seasonsGo_2 Lg d n i M) (fun M' => mR V (sRun V k S) M' ∧ M' 367 = gRun V k S (M 367) ∧ mFh M M' ∧ ∀ j, 182 ≤ j → M' 364 j = M 364 j)
  | 0, i, S, M, hS, h9, hM, ht, h0, h1 => by
    refine T_le (eMo_seasonsGo_2_E (by omega)) ?_
    rw [if_neg (by omega)]
    exact T_some ⟨hM, rfl, mFh_refl _, fun _ _ => rfl⟩
  | k + 1, i, S, M, hS, h9, hM, ht, h0, h1 => by
    refine T_le (eMo_seasonsGo_2_E (by omega)) ?_
    rw [if_pos (by omega), w32_id (by omega) (by omega)]
    refine T_seq (mo_seasonT (by omega) hV hS (by omega) hM ht) ?_
    rintro M1 ⟨a1, a2, a3, a4, a5⟩
    have hp := sPass_ok hV hS (by omega)
    refine T_mono (mo_goL hd hV hn k (i + 1) (sPass V S) M1 hp.1 (by rw [hp.2]; omega) a1 (by rw [a4.2 70 (by decide) (by decide) (by decide) (by decide) (by decide) (by decide) (by decide) (by decide)]; exact ht) (by omega) (by omega)) ?_
    rintro M2 ⟨b1, b2, b4, b5⟩
    exact ⟨b1, by rw [b2, a2]; rfl, mFh_trans a4 b4, fun j hj => by rw [b5 j hj, a5 j hj]⟩
/-- n seasons, in thought -/
theorem mo_go (hd : 7 < d) (hV : vOK V) (hS : sOK V S) (hM : mR V S M) (ht : M 319 70 ≠ 0) {n : Int} (h0 : 0 ≤ n) (h9 : S 0 + n ≤ 1030) (hn : n ≤ 1000) : w_T (eMo_seasonsGo Lg d n M) (fun M' => mR V (sRun V n.toNat S) M' ∧ M' 367 = gRun V n.toNat S (M 367) ∧ mFh M M' ∧ ∀ j, 182 ≤ j → M' 364 j = M 364 j) :=
  T_le eMo_seasonsGo_E (mo_goL hd hV hn n.toNat 0 S M hS (by omega) hM ht (by omega) (by omega))
end MPA

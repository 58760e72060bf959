/-! THE CLASS'S RIVER: a season, whole -/
section CPA
variable {Lg d r s v : Nat} {V M M' : bz_M} {S : Nat → Int}
theorem cR_r4 (hr : bz_oR r s) (hv : bz_oV v) (h : cR V S r s v M) (x : Int) : cR V S r s v (bz_up M r 4 x) := by
  have hrs := oR_c hr
  have hvv := oV_c hv
  have kf : ∀ q, q ≠ r → bz_up M r 4 x q = M q := fun q h => bz_up_fn h
  exact ⟨by rw [bz_up_nk (by decide)]; exact h.1, cV_co h.2.1 (kf _ (by omega)) (kf _ (by omega)) (kf _ (by omega)) (kf _ (by omega)) (kf _ (by omega)) (kf _ (by omega)) (kf _ (by omega)) (kf _ (by omega)) (kf _ (by omega)) (kf _ (by omega)), cS_co h.2.2 (kf _ (by omega)) (kf _ (by omega)) (kf _ (by omega)) (kf _ (by omega)) (kf _ (by omega)) (kf _ (by omega))⟩
theorem sPaidL_ok (hV : vOK V) : ∀ (k : Nat) (c : Int) (q : (Nat → Int) × Int × Int), sOK V q.1 → 0 ≤ c → c + k = vC V → sOK V (sPaidL V k c q).1 ∧ (∀ j, j < 172 → (sPaidL V k c q).1 j = q.1 j) ∧ (q.2.1 ≤ (sPaidL V k c q).2.1 ∧ (sPaidL V k c q).2.1 ≤ q.2.1 + k) ∧ (q.2.2 ≤ (sPaidL V k c q).2.2 ∧ (sPaidL V k c q).2.2 ≤ q.2.2 + 495 * k)
  | 0, _, q, hS, _, _ => ⟨hS, fun _ _ => rfl, by unfold sPaidL; omega, by unfold sPaidL; omega⟩
  | k + 1, c, q, hS, h0, h1 => by
    have hL := hV.2.2.2.2.1
    unfold sPaidL
    by_cases hb : sBend V q.1 c = 0
    · simp only [if_pos hb]
      have h := sPaidL_ok hV k (c + 1) q hS (by omega) (by omega)
      exact ⟨h.1, h.2.1, by have := h.2.2.1; push_cast; omega, by have := h.2.2.2; push_cast; omega⟩
    · simp only [if_neg hb]
      have g := sColL_ok hV (c := c) (vL V).toNat 0 (q.1, 0) hS (by omega) (by omega)
      have g2 := g.2.2
      dsimp only at g2
      have h := sPaidL_ok hV k (c + 1) ((sCol V q.1 c).1, q.2.1 + 1, q.2.2 + (sCol V q.1 c).2) g.1 (by omega) (by omega)
      have g3 : 0 ≤ (sCol V q.1 c).2 ∧ (sCol V q.1 c).2 ≤ 495 := by
        unfold sCol
        omega
      refine ⟨h.1, fun j hj => (h.2.1 j hj).trans (g.2.1 j hj), ?_, ?_⟩
      · have := h.2.2.1; dsimp only at this; push_cast; omega
      · have := h.2.2.2; dsimp only at this; push_cast; omega
theorem cS_end {P x : Int} (h : cS s S M) (hx : x = min (S 1 + P) 999999) (h9 : S 0 ≤ 999) (h0 : 0 ≤ S 0) : cS s (upS (upS S 1 x) 0 (S 0 + 1)) (bz_up (bz_up M s 1 x) s 0 (min (S 0 + 1) 999)) := by
  have kf : ∀ q, q ≠ s → bz_up (bz_up M s 1 x) s 0 (min (S 0 + 1) 999) q = M q := fun q h => by rw [bz_up_fn h, bz_up_fn h]
  have hn : ∀ k, 2 ≤ k → upS (upS S 1 x) 0 (S 0 + 1) k = S k := fun k hk => by rw [upS_ne (by omega), upS_ne (by omega)]
  refine ⟨⟨?_, ?_⟩, fun c h2 h3 => ?_, fun j h2 h3 => ?_, fun l h2 h3 => ?_⟩
  · rw [bz_up_eq, upS_eq]
  · rw [bz_up_nk (by decide), bz_up_eq, upS_ne (by decide), upS_eq]
  · rw [kf _ (by omega), h.2.1 c h2 h3]; unfold sRow; rw [hn _ (by omega)]
  · rw [kf _ (by omega), kf _ (by omega), (h.2.2.1 j h2 h3).1, (h.2.2.1 j h2 h3).2]; unfold sWi sEv; rw [hn _ (by omega), hn _ (by omega)]; exact ⟨rfl, rfl⟩
  · rw [kf _ (by omega), kf _ (by omega), (h.2.2.2 l h2 h3).1, (h.2.2.2 l h2 h3).2]; unfold sOf sPu; rw [hn _ (by omega), hn _ (by omega)]; exact ⟨rfl, rfl⟩
def sEnd (S : Nat → Int) (P : Int) : Nat → Int := upS (upS S 1 (min (S 1 + P) 999999)) 0 (S 0 + 1)
theorem ri_paid (hd : 3 < d) (hr : bz_oR r s) (hv : bz_oV v) (hV : vOK V) : ∀ (k : Nat) (c b P : Int) (S : Nat → Int) (M : bz_M), sOK V S → S 0 ≤ 999 → cR V S r s v M → M r 4 = b → 0 ≤ b → b + k ≤ 100 → 0 ≤ P → P + 495 * k ≤ 100000 → 0 ≤ c → c + k = vC V → w_T (eRi_pass_92 Lg d r P c M) (fun p => p.1 = (sPaidL V k c (S, b, P)).2.2 ∧ p.2 r 4 = (sPaidL V k c (S, b, P)).2.1 ∧ cR V (sEnd (sPaidL V k c (S, b, P)).1 (sPaidL V k c (S, b, P)).2.2) r s v p.2 ∧ p.2 (s + 7) = bPaidL V k c S (M (s + 7)) ∧ p.2 s 2 = M s 2 ∧ ∀ q, ¬ cScr q → q ≠ r → q ≠ s → q ≠ s + 5 → q ≠ s + 7 → p.2 q = M q)
  | 0, c, b, P, S, M, hS, h9, hM, hb, hb0, hb1, hP0, hP1, h0, h1 => by
    have hrs := oR_c hr
    have hvv := oV_c hv
    refine T_le (eRi_pass_92_E (by omega) hr hv) ?_
    have s0 := hS.1
    have s1 := hS.2.1
    have e0 : M s 0 = S 0 := by rw [hM.2.2.1.1]; omega
    rw [if_pos hM.1, hM.2.1.1.1, if_neg (by omega), bz_up_nk (by decide), e0, hM.2.2.1.2, w32_id (z := S 0 + 1) (by omega) (by omega), w32_id (z := S 1 + P) (by omega) (by omega)]
    have kf : ∀ q, q ≠ s → bz_up (bz_up M s 1 (min (S 1 + P) 999999)) s 0 (min (S 0 + 1) 999) q = M q := fun q h => by rw [bz_up_fn h, bz_up_fn h]
    refine T_some ?_
    dsimp only [sPaidL, bPaidL]
    refine ⟨rfl, ?_, ⟨?_, ?_, ?_⟩, ?_, ?_, fun q _ _ h _ _ => kf q h⟩
    · rw [kf r (by omega)]; exact hb
    · rw [kf r (by omega)]; exact hM.1
    · exact cV_co hM.2.1 (kf _ (by omega)) (kf _ (by omega)) (kf _ (by omega)) (kf _ (by omega)) (kf _ (by omega)) (kf _ (by omega)) (kf _ (by omega)) (kf _ (by omega)) (kf _ (by omega)) (kf _ (by omega))
    · exact cS_end hM.2.2 rfl h9 (by omega)
    · rw [kf _ (by omega)]
    · rw [bz_up_nk (by decide), bz_up_nk (by decide)]
  | k + 1, c, b, P, S, M, hS, h9, hM, hb, hb0, hb1, hP0, hP1, h0, h1 => by
    have hC := hV.2.1
    have hL := hV.2.2.2.2.1
    have hrs := oR_c hr
    have hvv := oV_c hv
    refine T_le (eRi_pass_92_E (by omega) hr hv) ?_
    rw [if_pos hM.1, hM.2.1.1.1, if_pos (by omega), w32_id (z := c + 1) (by omega) (by omega)]
    refine T_seq (ri_bend (by omega) hr hv hV hS h9 hM h0 (by omega)) ?_
    rintro ⟨p1, p2⟩ ⟨e1, e2⟩
    dsimp only at e1 e2 ⊢
    have hM2 := cR_cF hr hv hM e2
    have f7 : p2 (s + 7) = M (s + 7) := e2 _ (by omega)
    have fr : p2 r = M r := e2 _ (by omega)
    have fs : p2 s = M s := e2 _ (by omega)
    rw [e1]
    by_cases hc : sBend V S c = 0
    · rw [if_pos hc]
      unfold sPaidL bPaidL
      simp only [if_pos hc]
      refine T_mono (ri_paid hd hr hv hV k (c + 1) b P S p2 hS h9 hM2 (by rw [fr]; exact hb) hb0 (by omega) hP0 (by omega) (by omega) (by omega)) ?_
      rintro ⟨a1, a2⟩ ⟨g1, g2, g3, g4, g6, g7⟩
      exact ⟨g1, g2, g3, by rw [g4, f7], by rw [g6, fs], fun q h1 h2 h3 h4 h5 => by rw [g7 q h1 h2 h3 h4 h5, e2 q h1]⟩
    · rw [if_neg hc, fr, hb, w32_id (z := b + 1) (by omega) (by omega)]
      unfold sPaidL bPaidL
      simp only [if_neg hc]
      have gs := sColL_ok hV (c := c) (vL V).toNat 0 (S, 0) hS (by omega) (by omega)
      have gs2 := gs.2.2
      dsimp only at gs2
      refine T_seq (T_le eRi_collect_E (ri_colL (by omega) hr hv hV (vL V).toNat 0 0 S (bz_up p2 r 4 (b + 1)) hS (cR_r4 hr hv hM2 _) (by omega) (by omega) (by omega) (by omega))) ?_
      rintro ⟨a1, a2⟩ ⟨g1, g2, g3, g5⟩
      dsimp only at g1 g2 g3 g5 ⊢
      have g1' : a1 = (sCol V S c).2 := g1
      have g2' : cR V (sCol V S c).1 r s v a2 := g2
      have gp : 0 ≤ (sCol V S c).2 ∧ (sCol V S c).2 ≤ 495 := by unfold sCol; omega
      rw [g1', w32_id (by omega) (by omega)]
      have e7 : a2 (s + 7) = bCol V c (M (s + 7)) := by rw [g3, bz_up_fn (by omega), f7]; rfl
      refine T_mono (ri_paid hd hr hv hV k (c + 1) (b + 1) (P + (sCol V S c).2) (sCol V S c).1 a2 gs.1 (by rw [show (sCol V S c).1 0 = S 0 from gs.2.1 0 (by omega)]; exact h9) g2' (by rw [g5 r (by omega) (by omega), bz_up_eq]) (by omega) (by omega) (by omega) (by omega) (by omega) (by omega)) ?_
      rintro ⟨a3, a4⟩ ⟨k1, k2, k3, k4, k6, k7⟩
      refine ⟨k1, k2, k3, by rw [k4, e7], ?_, fun q h1 h2 h3 h4 h5 => ?_⟩
      · rw [k6, g5 s (by omega) (by omega), bz_up_fn (by omega), fs]
      · rw [k7 q h1 h2 h3 h4 h5, g5 q h4 h5, bz_up_fn h2, e2 q h1]
def aPass (V : bz_M) (S A : Nat → Int) : Nat → Int := aMoves V (vC V).toNat 0 S A
def bPass (V : bz_M) (S B : Nat → Int) : Nat → Int := bPaidL V (vC V).toNat 0 (sBefore V S) B
theorem sBefore_ok (hV : vOK V) (hS : sOK V S) : sOK V (sBefore V S) ∧ sBefore V S 0 = S 0 ∧ sBefore V S 1 = S 1 := by
  have hC := hV.2.1
  have h1 := sMoves_ok hV (vC V).toNat 0 S hS (by omega) (by omega)
  have h2 := sEvers_ok hV (vC V).toNat 0 _ h1.1 (by omega) (by omega)
  exact ⟨h2.1, (h2.2 0 (by omega)).trans (h1.2 0 (by omega)), (h2.2 1 (by omega)).trans (h1.2 1 (by omega))⟩
theorem sPaid_ok (hV : vOK V) (hS : sOK V S) : sOK V (sPaid V S).1 ∧ (∀ j, j < 172 → (sPaid V S).1 j = S j) ∧ (0 ≤ (sPaid V S).2.1 ∧ (sPaid V S).2.1 ≤ 10) ∧ (0 ≤ (sPaid V S).2.2 ∧ (sPaid V S).2.2 ≤ 4950) := by
  have hC := hV.2.1
  have h := sPaidL_ok hV (vC V).toNat 0 (S, 0, 0) hS (by omega) (by omega)
  have h3 := h.2.2
  dsimp only at h3
  unfold sPaid
  refine ⟨h.1, h.2.1, by omega, by omega⟩
theorem sPass_end (hV : vOK V) (hS : sOK V S) : sPass V S = sEnd (sPaid V (sBefore V S)).1 (sPaid V (sBefore V S)).2.2 := by
  have h := sBefore_ok hV hS
  have h2 := sPaid_ok hV h.1
  unfold sPass sEnd
  rw [h2.2.1 0 (by omega), h.2.1]
theorem sPass_ok (hV : vOK V) (hS : sOK V S) (h9 : S 0 ≤ 1029) : sOK V (sPass V S) ∧ sPass V S 0 = S 0 + 1 := by
  have h := sBefore_ok hV hS
  have h2 := sPaid_ok hV h.1
  have hC := hV.2.1
  have hL := hV.2.2.2.2.1
  have e0 : sPass V S 0 = S 0 + 1 := upS_eq _ _ _
  have e1 : sPass V S 1 = min ((sPaid V (sBefore V S)).1 1 + (sPaid V (sBefore V S)).2.2) 999999 := by unfold sPass; rw [upS_ne (by decide), upS_eq]
  have hn : ∀ k, 2 ≤ k → sPass V S k = (sPaid V (sBefore V S)).1 k := fun k hk => by unfold sPass; rw [upS_ne (by omega), upS_ne (by omega)]
  refine ⟨⟨by rw [e0]; have := hS.1; omega, by rw [e1]; have := h2.1.2.1; omega, fun c a b => ?_, fun k a b => ?_, fun l a b => ?_⟩, e0⟩
  · have := h2.1.2.2.1 c a b
    unfold sRow at this ⊢
    rw [hn _ (by omega)]; exact this
  · have := h2.1.2.2.2.1 k a b
    unfold sWi sEv at this ⊢
    rw [hn _ (by omega), hn _ (by omega)]; exact this
  · have := h2.1.2.2.2.2 l a b
    unfold sOf sPu at this ⊢
    rw [hn _ (by omega), hn _ (by omega)]; exact this
/-- a season of the class -/
theorem ri_pass (hd : 3 < d) (hr : bz_oR r s) (hv : bz_oV v) (hV : vOK V) (hS : sOK V S) (h9 : S 0 ≤ 999) (hM : cR V S r s v M) : w_T (eRi_pass Lg d r M) (fun p => p.1 = (sPaid V (sBefore V S)).2.2 ∧ p.2 r 4 = (sPaid V (sBefore V S)).2.1 ∧ cR V (sPass V S) r s v p.2 ∧ p.2 (s + 6) = aPass V S (M (s + 6)) ∧ p.2 (s + 7) = bPass V S (M (s + 7)) ∧ p.2 s 2 = M s 2 ∧ ∀ q, ¬ cScr q → q ≠ r → q ≠ s → q ≠ s + 1 → q ≠ s + 3 → q ≠ s + 5 → q ≠ s + 6 → q ≠ s + 7 → p.2 q = M q) := by
  have hC := hV.2.1
  have hrs := oR_c hr
  have hvv := oV_c hv
  refine T_le eRi_pass_E ?_
  refine ri_moves hd hr hv hV (vC V).toNat 0 S M hS h9 hM (by omega) (by omega) ?_
  intro M1 a1 a2 a3
  have k1 := sMoves_ok hV (vC V).toNat 0 S hS (by omega) (by omega)
  refine ri_evers hd hr hv hV (vC V).toNat 0 _ M1 k1.1 a1 (by omega) (by omega) ?_
  intro M2 b1 b2
  have h := sBefore_ok hV hS
  have e7 : bz_up M2 r 4 0 (s + 7) = M (s + 7) := by rw [bz_up_fn (by omega), b2 _ (by omega), a3 _ (by omega) (by omega) (by omega)]
  refine T_mono (ri_paid hd hr hv hV (vC V).toNat 0 0 0 (sBefore V S) (bz_up M2 r 4 0) h.1 (by rw [h.2.1]; exact h9) (cR_r4 hr hv b1 0) (bz_up_eq _ _ _ _) (by omega) (by omega) (by omega) (by omega) (by omega) (by omega)) ?_
  rintro ⟨p1, p2⟩ ⟨g1, g2, g3, g4, g6, g7⟩
  dsimp only at g1 g2 g3 g4 g6 g7 ⊢
  refine ⟨g1, g2, ?_, ?_, ?_, ?_, fun q n1 n2 n3 n4 n5 n6 n7 n8 => ?_⟩
  · rw [sPass_end hV hS]; exact g3
  · rw [g7 _ (by omega) (by omega) (by omega) (by omega) (by omega), bz_up_fn (by omega), b2 _ (by omega), a2]; rfl
  · rw [g4, e7]; rfl
  · rw [g6, bz_up_fn (by omega), b2 _ (by omega), a3 _ (by omega) (by omega) (by omega)]
  · rw [g7 q n1 n2 n3 n6 n8, bz_up_fn n2, b2 q n5, a3 q n1 n4 n7]
end CPA

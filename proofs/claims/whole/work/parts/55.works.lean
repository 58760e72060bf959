/-! QUERIES: works -/
def sPl (S : Nat → Int) (k : Int) : Nat → Int := upS S (Int.toNat (12 + k)) (sWi S k + 1)
abbrev isC (V : bz_M) (k : Int) : Prop := k / 8 < vC V ∧ k % 8 < vR V
abbrev canP (V : bz_M) (S : Nat → Int) (k m : Int) : Prop := isC V k ∧ sWi S k + m ≤ 9
abbrev lnd (V : bz_M) (S : Nat → Int) (c r : Int) (n : Nat) : Prop := sRow (sRun V n S) c = r
abbrev prP (V : bz_M) (S : Nat → Int) (k i : Int) : Prop := canP V S k (if k = i then 2 else 1) ∧ canP V S i 1
def w2R (V : bz_M) (S : Nat → Int) (c r : Int) (n : Nat) (k : Int) : Nat → Int → Int
  | 0, _ => -1
  | f + 1, i => if prP V S k i ∧ lnd V (sPl (sPl S k) i) c r n then i else w2R V S c r n k f (i + 1)
def qP2 (V : bz_M) (S : Nat → Int) (c r : Int) (n : Nat) : Nat → Int → Int × Int × Int
  | 0, _ => (-1, -1, -1)
  | f + 1, k => if w2R V S c r n k (80 - k).toNat k = -1 then qP2 V S c r n f (k + 1) else (2, k, w2R V S c r n k (80 - k).toNat k)
def qP1 (V : bz_M) (S : Nat → Int) (c r : Int) (n : Nat) : Nat → Int → Int × Int × Int
  | 0, _ => qP2 V S c r n 80 0
  | f + 1, k => if canP V S k 1 ∧ lnd V (sPl S k) c r n then (1, k, -1) else qP1 V S c r n f (k + 1)
def qFew (V : bz_M) (S : Nat → Int) (c r : Int) (n : Nat) : Int × Int × Int := if lnd V S c r n then (0, -1, -1) else qP1 V S c r n 80 0
def qWorks (V : bz_M) (S : Nat → Int) (c r n k : Int) : Int := if ((0 ≤ c ∧ c < vC V) ∧ 0 ≤ r ∧ r < vR V) ∧ (1 ≤ n ∧ n ≤ 20 ∧ S 0 + n ≤ 999) ∧ (-1 ≤ k ∧ k ≤ 1) then (if k = -1 then (qFew V S c r n.toNat).1 else if k < (qFew V S c r n.toNat).1 then (if k = 0 then (qFew V S c r n.toNat).2.1 else (qFew V S c r n.toNat).2.2) else -1) else -1
/-- a full willow stands nowhere above nine -/
def sW (S : Nat → Int) : Prop := ∀ k, 0 ≤ k → k < 80 → sWi S k ≤ 9
section WK
variable {Lg d v : Nat} {V M M0 M' : bz_M} {S : Nat → Int}
theorem sWi_up {k k' x : Int} (h0 : 0 ≤ k) (h0' : 0 ≤ k') : sWi (upS S (Int.toNat (12 + k)) x) k' = if k' = k then x else sWi S k' := by
  unfold sWi upS
  by_cases e : k' = k
  · rw [if_pos e, if_pos (by rw [e])]
  · rw [if_neg e, if_neg (by omega)]
theorem sWiUp_ok (hV : vOK V) (hS : sOK V S) {k x : Int} (h0 : 0 ≤ k) (h1 : k < 80) (hx : 0 ≤ x ∧ x ≤ 11) : sOK V (upS S (Int.toNat (12 + k)) x) := by
  have hC := hV.2.1
  refine ⟨by rw [upS_ne (by omega)]; exact hS.1, by rw [upS_ne (by omega)]; exact hS.2.1, fun c h2 h3 => ?_, fun k' h2 h3 => ?_, fun l h2 h3 => ?_⟩
  · have := hS.2.2.1 c h2 h3
    unfold sRow at this ⊢
    rw [upS_ne (by omega)]; exact this
  · have := hS.2.2.2.1 k' h2 h3
    refine ⟨?_, ?_⟩
    · rw [sWi_up h0 h2]; split <;> omega
    · have := this.2; unfold sEv at this ⊢; rw [upS_ne (by omega)]; exact this
  · have := hS.2.2.2.2 l h2 h3
    unfold sOf sPu at this ⊢
    rw [upS_ne (by omega), upS_ne (by omega)]; exact this
theorem cR_wi (hv : bz_oV v) (hM : cR V S 285 286 v M) {k x : Int} (h0 : 0 ≤ k) (h1 : k < 80) : cR V (upS S (Int.toNat (12 + k)) x) 285 286 v (bz_up M 288 k.toNat x) := by
  have hvv := oV_c hv
  have kf : ∀ q, q ≠ 288 → bz_up M 288 k.toNat x q = M q := fun q h => bz_up_fn h
  refine ⟨(congrFun (kf 285 (by decide)) 0).trans hM.1, cV_co hM.2.1 (kf _ (by omega)) (kf _ (by omega)) (kf _ (by omega)) (kf _ (by omega)) (kf _ (by omega)) (kf _ (by omega)) (kf _ (by omega)) (kf _ (by omega)) (kf _ (by omega)) (kf _ (by omega)), ?_⟩
  have h := hM.2.2
  refine ⟨?_, fun c a b => ?_, fun j a b => ⟨?_, ?_⟩, fun l a b => ?_⟩
  · rw [kf 286 (by decide), upS_ne (by omega), upS_ne (by omega)]; exact h.1
  · rw [kf (286 + 1) (by decide), h.2.1 c a b]; unfold sRow; rw [upS_ne (by omega)]
  · rw [sWi_up h0 a, bz_up_rk]
    by_cases e : j = k
    · rw [if_pos e, if_pos ⟨rfl, by rw [e]⟩]
    · rw [if_neg e, if_neg (fun h => e (by omega)), (h.2.2.1 j a b).1]
  · rw [kf (286 + 3) (by decide), (h.2.2.1 j a b).2]; unfold sEv; rw [upS_ne (by omega)]
  · rw [kf (286 + 4) (by decide), kf (286 + 5) (by decide), (h.2.2.2 l a b).1, (h.2.2.2 l a b).2]; unfold sOf sPu; rw [upS_ne (by omega), upS_ne (by omega)]; exact ⟨rfl, rfl⟩
theorem aTry_01 {c r : Int} {A : Nat → Int} (h : ∀ i, i < 80 → A i = 0 ∨ A i = 1) : ∀ i, i < 80 → aTry V S c r A i = 0 ∨ aTry V S c r A i = 1 := by
  intro i hi
  unfold aTry
  split
  · unfold upS
    split
    · exact Or.inr rfl
    · exact h i hi
  · exact h i hi
theorem aMoves_01 : ∀ (k : Nat) (c : Int) (S A : Nat → Int), (∀ i, i < 80 → A i = 0 ∨ A i = 1) → ∀ i, i < 80 → aMoves V k c S A i = 0 ∨ aMoves V k c S A i = 1
  | 0, _, _, _, h => h
  | k + 1, c, S, A, h => aMoves_01 k (c + 1) _ _ (aTry_01 (aTry_01 h))
theorem aRun_01 : ∀ (n : Nat) (S A : Nat → Int), (∀ i, i < 80 → A i = 0 ∨ A i = 1) → ∀ i, i < 80 → aRun V n S A i = 0 ∨ aRun V n S A i = 1
  | 0, _, _, h => h
  | n + 1, S, A, h => aRun_01 n _ _ (aMoves_01 _ _ _ _ h)
theorem dm8 {c r : Int} (h0 : 0 ≤ c) (h2 : 0 ≤ r) (h3 : r < 8) : Int.tdiv (8 * c + r) 8 = c ∧ Int.tmod (8 * c + r) 8 = r := by
  rw [Int.tdiv_eq_ediv_of_nonneg (by omega), Int.tmod_eq_emod_of_nonneg (by omega)]
  omega
theorem fc_landL (hd : 4 < d) (hv : bz_oV v) (hV : vOK V) {c r n : Int} (h0 : 0 ≤ c) (h1 : c < vC V) (h2 : 0 ≤ r) (h3 : r < vR V) (hn : n ≤ 1000) : ∀ (k : Nat) (i : Int) (S : Nat → Int) (M : bz_M), sOK V S → S 0 + k ≤ 999 → cR V S 285 286 v M → 0 ≤ i → i + k = n → w_T (eFc_lands_58 Lg d (8 * c + r) n i M) (fun p => p.1 = bz_b (lnd V S c r k) ∧ p.2 292 = aRun V k S (M 292) ∧ fA M p.2)
  | 0, i, S, M, hS, h9, hM, g0, g1 => by
    have hC := hV.2.1
    have hR := hV.2.2.1
    have e := dm8 h0 h2 (show r < 8 by omega)
    refine T_le (eFc_lands_58_E (by omega)) ?_
    rw [if_neg (by omega), e.1, e.2, w32_id (by omega) (by omega), if_pos (by omega), show (287 : Nat) = 286 + 1 from rfl, hM.2.2.2.1 c h0 (by omega)]
    unfold bz_b
    by_cases hh : sRow S c = r
    · rw [if_pos hh, if_pos (show lnd V S c r 0 from hh)]; exact T_some ⟨rfl, rfl, fA_refl _⟩
    · rw [if_neg hh, if_neg (show ¬ lnd V S c r 0 from hh)]; exact T_some ⟨rfl, rfl, fA_refl _⟩
  | k + 1, i, S, M, hS, h9, hM, g0, g1 => by
    have s0 := hS.1
    refine T_le (eFc_lands_58_E (by omega)) ?_
    rw [if_pos (by omega), w32_id (by omega) (by omega)]
    refine T_seq (ri_passA (by omega) hv hV hS (by omega) hM) ?_
    rintro ⟨p1, p2⟩ ⟨a1, a2, _, a4, _⟩
    have hp := sPass_ok hV hS (by omega)
    refine T_mono (fc_landL hd hv hV h0 h1 h2 h3 hn k (i + 1) (sPass V S) p2 hp.1 (by rw [hp.2]; omega) a1 (by omega) (by omega)) ?_
    rintro ⟨b1, b2⟩ ⟨c1, c2, c3⟩
    exact ⟨c1, by dsimp only at a2; rw [c2, a2]; rfl, fA_trans a4 c3⟩
/-- what comes of the state, perhaps with willows more -/
theorem fc_land (hd : 4 < d) (hv : bz_oV v) (hV : vOK V) (hS : sOK V S) (h9 : S 0 ≤ 999) (hW : sW S) (hM : cR V S 131 148 v M) {c r n : Int} (h0 : 0 ≤ c) (h1 : c < vC V) (h2 : 0 ≤ r) (h3 : r < vR V) (hn0 : 0 ≤ n) (hn : S 0 + n ≤ 999) {g h : Int} {S' : Nat → Int} (hgh : (g = -1 ∧ h = -1 ∧ S' = S) ∨ ((0 ≤ g ∧ g < 80) ∧ h = -1 ∧ S' = sPl S g) ∨ ((0 ≤ g ∧ g < 80) ∧ (0 ≤ h ∧ h < 80) ∧ S' = sPl (sPl S g) h)) : w_T (eFc_lands Lg d (8 * c + r) n g h M) (fun p => p.1 = bz_b (lnd V S' c r n.toNat) ∧ (∃ A : Nat → Int, (∀ i, i < 80 → A i = 0) ∧ p.2 292 = aRun V n.toNat S' A) ∧ fA M p.2) := by
  have s0 := hS.1
  refine T_le (eFc_lands_E (by omega)) ?_
  refine T_seq (ri_follow (by omega) hv hM) ?_
  rintro M1 ⟨a1, a2, _, a4⟩
  have f1 : fA M M1 := fun q hq => a4 q (by omega)
  have go : ∀ (S' : Nat → Int) (M2 : bz_M), sOK V S' → S' 0 = S 0 → cR V S' 285 286 v M2 → M2 292 = M1 292 → fA M M2 → w_T (eFc_lands_58 Lg d (8 * c + r) n 0 M2) (fun p => p.1 = bz_b (lnd V S' c r n.toNat) ∧ (∃ A : Nat → Int, (∀ i, i < 80 → A i = 0) ∧ p.2 292 = aRun V n.toNat S' A) ∧ fA M p.2) := by
    intro S' M2 k1 k2 k3 k4 k5
    refine T_mono (fc_landL hd hv hV h0 h1 h2 h3 (by omega) n.toNat 0 S' M2 k1 (by rw [k2]; omega) k3 (by omega) (by omega)) ?_
    rintro ⟨b1, b2⟩ ⟨c1, c2, c3⟩
    exact ⟨c1, ⟨M1 292, a2, by rw [c2, k4]⟩, fA_trans k5 c3⟩
  rcases hgh with ⟨rfl, rfl, rfl⟩ | ⟨hg, rfl, rfl⟩ | ⟨hg, hh, rfl⟩
  · rw [if_pos rfl, if_pos rfl]
    exact go S' M1 hS rfl a1 rfl f1
  · have b := hS.2.2.2.1 g hg.1 hg.2
    have b2 := hW g hg.1 hg.2
    have e1 : M1 288 g.toNat = sWi S g := (a1.2.2.2.2.1 g hg.1 hg.2).1
    rw [if_neg (by omega), if_pos hg, if_pos rfl, e1, w32_id (by omega) (by omega)]
    exact go (sPl S g) _ (sWiUp_ok hV hS hg.1 hg.2 (by omega)) (upS_ne (by omega)) (cR_wi hv a1 hg.1 hg.2) (bz_up_fn (by decide)) (fA_trans f1 (fun q hq => bz_up_fn (by omega)))
  · have b := hS.2.2.2.1 g hg.1 hg.2
    have b2 := hW g hg.1 hg.2
    have e1 : M1 288 g.toNat = sWi S g := (a1.2.2.2.2.1 g hg.1 hg.2).1
    have k1 : sOK V (sPl S g) := sWiUp_ok hV hS hg.1 hg.2 (by omega)
    have hc : cR V (sPl S g) 285 286 v (bz_up M1 288 g.toNat (sWi S g + 1)) := cR_wi hv a1 hg.1 hg.2
    have e2 : bz_up M1 288 g.toNat (sWi S g + 1) 288 h.toNat = sWi (sPl S g) h := (hc.2.2.2.2.1 h hh.1 hh.2).1
    have b3 : 0 ≤ sWi (sPl S g) h ∧ sWi (sPl S g) h ≤ 10 := by
      unfold sPl
      rw [sWi_up hg.1 hh.1]
      have := hS.2.2.2.1 h hh.1 hh.2
      have := hW h hh.1 hh.2
      split <;> omega
    rw [if_neg (by omega), if_pos hg, if_neg (by omega), if_pos hh, e1, w32_id (z := sWi S g + 1) (by omega) (by omega), e2, w32_id (by omega) (by omega)]
    refine go (sPl (sPl S g) h) _ (sWiUp_ok hV k1 hh.1 hh.2 (by omega)) ?_ (cR_wi hv hc hh.1 hh.2) ?_ (fA_trans f1 (fA_trans (fun q hq => bz_up_fn (by omega)) (fun q hq => bz_up_fn (by omega))))
    · unfold sPl; rw [upS_ne (by omega), upS_ne (by omega)]
    · rw [bz_up_fn (by decide), bz_up_fn (by decide)]
theorem fc_takes (hv : bz_oV v) (hV : vOK V) (hS : sOK V S) (hM : cR V S 131 148 v M) {k m : Int} (h0 : 0 ≤ k) (h1 : k < 80) (hm : 0 ≤ m ∧ m ≤ 2) : eFc_takesWillows Lg d k m M = some (bz_b (canP V S k m), M) := by
  have b := hS.2.2.2.1 k h0 h1
  have e1 : M 150 k.toNat = sWi S k := (hM.2.2.2.2.1 k h0 h1).1
  refine eFc_takesWillows_E hv _ ?_
  rw [if_pos hM.1, hM.2.1.1.1, hM.2.1.1.2.1, Int.tdiv_eq_ediv_of_nonneg h0, Int.tmod_eq_emod_of_nonneg h0, w32_id (z := k / 8) (by omega) (by omega), if_pos (show (0 : Int) ≤ k ∧ k < 80 by omega), e1, w32_id (z := sWi S k + m) (by omega) (by omega)]
  unfold bz_b canP isC
  repeat' split
  all_goals first | rfl | (exfalso; omega)
/-- a pair that lands has both asked for, if none alone lands -/
theorem pair_asked (hV : vOK V) (hS : sOK V S) (hW : sW S) {c r : Int} {n : Nat} (h0 : 0 ≤ c) (h1 : c < vC V) (hn : S 0 + n ≤ 999) {k i : Int} (hk : 0 ≤ k ∧ k < 80) (hi : 0 ≤ i ∧ i < 80) (hl : lnd V (sPl (sPl S k) i) c r n) (h1k : ¬ lnd V (sPl S k) c r n) : ¬ ∃ A, aRun V n (sPl S k) A i.toNat = 0 := by
  rintro ⟨A, hA⟩
  have hC := hV.2.1
  have b := hS.2.2.2.1 k hk.1 hk.2
  have b2 := hW k hk.1 hk.2
  have k1 : sOK V (sPl S k) := sWiUp_ok hV hS hk.1 hk.2 (by omega)
  have e := U_run (x := sWi (sPl S k) i + 1) (j := Int.toNat (12 + i)) (by omega) hV n (sPl S k) A k1 (by rw [show sPl S k 0 = S 0 from upS_ne (by omega)]; omega) (by rw [show Int.toNat (12 + i) - 12 = i.toNat by omega]; exact hA)
  apply h1k
  unfold lnd at hl ⊢
  have e' : sRun V n (sPl (sPl S k) i) = upS (sRun V n (sPl S k)) (Int.toNat (12 + i)) (sWi (sPl S k) i + 1) := e
  rw [e', U_row (by omega) (by omega)] at hl
  exact hl
theorem sPl_comm {k i : Int} (h0 : 0 ≤ k) (h1 : 0 ≤ i) : sPl (sPl S k) i = sPl (sPl S i) k := by
  by_cases e : k = i
  · rw [e]
  · unfold sPl
    rw [sWi_up h0 h1, if_neg (fun h => e h.symm), sWi_up h1 h0, if_neg e, upS_comm (by omega)]
/-- what phase one leaves: no one lands, and who was asked for -/
def AW (V : bz_M) (S : Nat → Int) (c r : Int) (n : Nat) (M : bz_M) (k : Int) : Prop := canP V S k 1 → ¬ lnd V (sPl S k) c r n ∧ ∀ i, i < 80 → (M 282 (Int.toNat (80 * k) + i) = 0 ∨ M 282 (Int.toNat (80 * k) + i) = 1) ∧ (M 282 (Int.toNat (80 * k) + i) = 0 → ∃ A, aRun V n (sPl S k) A i = 0)
theorem fc_rem {Q : bz_M → Prop} {k : Int} (h0 : 0 ≤ k) (h1 : k < 80) : ∀ (f : Nat) (i : Int) (M : bz_M), 0 ≤ i → i + f = 80 → (∀ j, j < 80 → M 292 j = 0 ∨ M 292 j = 1) → (∀ j : Nat, (j : Int) < i → M 282 (Int.toNat (80 * k) + j) = M 292 j) → (∀ M', (∀ j, j < 80 → M' 282 (Int.toNat (80 * k) + j) = M 292 j) → (∀ j, j < Int.toNat (80 * k) → M' 282 j = M 282 j) → (∀ q, q ≠ 282 → M' q = M q) → Q M') → w_T (eFc_rememberAsked_2 Lg d k i M) Q
  | 0, i, M, g0, g1, hz, hd, hQ => by
    refine T_le eFc_rememberAsked_2_E ?_
    rw [if_neg (by omega)]
    exact T_some (hQ M (fun j hj => hd j (by omega)) (fun _ _ => rfl) (fun _ _ => rfl))
  | f + 1, i, M, g0, g1, hz, hd, hQ => by
    have wc : bz_w32 (bz_w32 (k * 80) + i) = 80 * k + i := by rw [w32_id (z := k * 80) (by omega) (by omega), w32_id (by omega) (by omega)]; omega
    refine T_le eFc_rememberAsked_2_E ?_
    rw [if_pos (by omega), if_pos (by omega), if_pos (hz i.toNat (by omega)), wc, if_pos (by omega), w32_id (by omega) (by omega)]
    have e2 : bz_up M 282 (80 * k + i).toNat (M 292 i.toNat) 292 = M 292 := bz_up_fn (by decide)
    refine fc_rem h0 h1 f (i + 1) _ (by omega) (by omega) (by rw [e2]; exact hz) (fun j hj => ?_) (fun M' a b c => hQ M' (fun j hj => by rw [a j hj, e2]) (fun j hj => by rw [b j hj, bz_up_nk (by omega)]) (fun q hq => by rw [c q hq, bz_up_fn hq]))
    rw [e2, bz_up_rk]
    by_cases e : (j : Int) = i
    · rw [if_pos ⟨rfl, by omega⟩]; congr 1; omega
    · rw [if_neg (fun h => e (by omega))]; exact hd j (by omega)
theorem qC_282 {M : bz_M} {k : Nat} {x : Int} (h : k ≠ 1) : qC M (bz_up M 279 k x) := ⟨fun q hq => bz_up_fn (by omega), bz_up_nk (fun e => h e.symm) _⟩
/-- the second phase: from a pair on -/
theorem fc_two (hd : 6 < d) (hv : bz_oV v) (hV : vOK V) (hS : sOK V S) (h9 : S 0 ≤ 999) (hW : sW S) {c r n : Int} (h0 : 0 ≤ c) (h1 : c < vC V) (h2 : 0 ≤ r) (h3 : r < vR V) (hn0 : 0 ≤ n) (hn : S 0 + n ≤ 999) {k : Int} (hk : 0 ≤ k ∧ k < 80) {Q : Int × bz_M → Prop} : ∀ (f : Nat) (i : Int) (M : bz_M), cR V S 131 148 v M → (∀ j, 0 ≤ j → j < 80 → AW V S c r n.toNat M j) → 0 ≤ i → i + f = 80 → (∀ M', qC M M' → M' 282 = M 282 → (if w2R V S c r n.toNat k f i = -1 then w_T (eFc_fewestWillows_78 Lg d n (8 * c + r) (k + 1) M') Q else Q (2, bz_up (bz_up M' 279 2 k) 279 3 (w2R V S c r n.toNat k f i)))) → w_T (eFc_fewestWillows_89 Lg d n (8 * c + r) k i M) Q
  | 0, i, M, hM, hA, g0, g1, hQ => by
    refine T_le (eFc_fewestWillows_89_E (by omega)) ?_
    rw [if_neg (by omega), w32_id (by omega) (by omega)]
    have := hQ M (qC_refl _) rfl
    rw [show w2R V S c r n.toNat k 0 i = -1 from rfl, if_pos rfl] at this
    exact this
  | f + 1, i, M, hM, hA, g0, g1, hQ => by
    have hi : 0 ≤ i ∧ i < 80 := by omega
    refine T_le (eFc_fewestWillows_89_E (by omega)) ?_
    rw [if_pos (by omega), w32_id (z := i + 1) (by omega) (by omega)]
    have e1 : Int.toNat (80 * k) + i.toNat = Int.toNat (80 * k + i) := by omega
    have e2 : Int.toNat (80 * i) + k.toNat = Int.toNat (80 * i + k) := by omega
    -- whether the pair is taken
    have tp : ∃ b : Int, eFc_takesPair Lg (d - 1) k i M = some (b, M) ∧ (b = 0 ∨ b = 1) ∧ (b = 1 → prP V S k i) ∧ (prP V S k i → b = 0 → M 282 (Int.toNat (80 * k) + i.toNat) = 0 ∨ M 282 (Int.toNat (80 * i) + k.toNat) = 0) := by
      have key : ∀ m, m = (if k = i then 2 else 1) → ∃ b : Int, eFc_takesPair_12 Lg (d - 1) k i k m M = some (b, M) ∧ (b = 0 ∨ b = 1) ∧ (b = 1 → prP V S k i) ∧ (prP V S k i → b = 0 → M 282 (Int.toNat (80 * k) + i.toNat) = 0 ∨ M 282 (Int.toNat (80 * i) + k.toNat) = 0) := by
        rintro m rfl
        have wc : bz_w32 (bz_w32 (k * 80) + i) = 80 * k + i := by rw [w32_id (z := k * 80) (by omega) (by omega), w32_id (by omega) (by omega)]; omega
        have wc2 : bz_w32 (bz_w32 (i * 80) + k) = 80 * i + k := by rw [w32_id (z := i * 80) (by omega) (by omega), w32_id (by omega) (by omega)]; omega
        have hE := fun b => eFc_takesPair_12_E (Lg := Lg) (d := d - 1) (x1 := k) (x2 := i) (y1 := k) (y2 := if k = i then 2 else 1) (M := M) (by omega) (b, M)
        simp only [fc_takes hv hV hS hM hk.1 hk.2 (show 0 ≤ (if k = i then (2 : Int) else 1) ∧ (if k = i then (2 : Int) else 1) ≤ 2 by split <;> omega), fc_takes hv hV hS hM hi.1 hi.2 (show (0 : Int) ≤ 1 ∧ (1 : Int) ≤ 2 by omega), Option.bind_some, bz_b0, wc, wc2] at hE
        rw [e1, e2]
        by_cases p1 : canP V S k (if k = i then 2 else 1)
        · by_cases p2 : canP V S i 1
          · by_cases p3 : M 282 (Int.toNat (80 * k + i)) = 0
            · exact ⟨0, hE 0 (by rw [if_neg (fun h => h p1), if_neg (fun h => h p2), if_pos (by omega), if_pos p3]), Or.inl rfl, fun h => by omega, fun _ _ => Or.inl p3⟩
            · by_cases p4 : M 282 (Int.toNat (80 * i + k)) = 0
              · exact ⟨0, hE 0 (by rw [if_neg (fun h => h p1), if_neg (fun h => h p2), if_pos (by omega), if_neg p3, if_pos (by omega), if_pos p4]), Or.inl rfl, fun h => by omega, fun _ _ => Or.inr p4⟩
              · exact ⟨1, hE 1 (by rw [if_neg (fun h => h p1), if_neg (fun h => h p2), if_pos (by omega), if_neg p3, if_pos (by omega), if_neg p4]), Or.inr rfl, fun _ => ⟨p1, p2⟩, fun _ h => by omega⟩
          · exact ⟨0, hE 0 (by rw [if_neg (fun h => h p1), if_pos p2]), Or.inl rfl, fun h => by omega, fun h => absurd h.2 p2⟩
        · exact ⟨0, hE 0 (by rw [if_pos p1]), Or.inl rfl, fun h => by omega, fun h => absurd h.1 p1⟩
      by_cases hki : k = i
      · obtain ⟨b, hb, hb2⟩ := key 2 (by rw [if_pos hki])
        exact ⟨b, eFc_takesPair_E _ (by rw [if_pos hki]; exact hb), hb2⟩
      · obtain ⟨b, hb, hb2⟩ := key 1 (by rw [if_neg hki])
        exact ⟨b, eFc_takesPair_E _ (by rw [if_neg hki]; exact hb), hb2⟩
    obtain ⟨b, hb, hb01, hbp, hb0⟩ := tp
    refine T_run hb ?_
    dsimp only
    have canK : prP V S k i → canP V S k 1 := fun h => ⟨h.1.1, by have := h.1.2; split at this <;> omega⟩
    rcases hb01 with rfl | rfl
    · -- not taken: it doesn't land
      rw [if_pos rfl]
      have hno : ¬ (prP V S k i ∧ lnd V (sPl (sPl S k) i) c r n.toNat) := by
        rintro ⟨hp, hl⟩
        rcases hb0 hp rfl with hz | hz
        · have a := hA k hk.1 hk.2 (canK hp)
          exact pair_asked hV hS hW h0 h1 (by omega) hk hi hl a.1 ((a.2 i.toNat (by omega)).2 hz)
        · have a := hA i hi.1 hi.2 hp.2
          rw [sPl_comm hk.1 hi.1] at hl
          exact pair_asked hV hS hW h0 h1 (by omega) hi hk hl a.1 ((a.2 k.toNat (by omega)).2 hz)
      refine fc_two hd hv hV hS h9 hW h0 h1 h2 h3 hn0 hn hk f (i + 1) M hM hA (by omega) (by omega) (fun M' q1 q2 => ?_)
      have := hQ M' q1 q2
      rw [show w2R V S c r n.toNat k (f + 1) i = w2R V S c r n.toNat k f (i + 1) from if_neg hno] at this
      exact this
    · rw [if_neg (by decide)]
      have hp := hbp rfl
      refine T_seq (fc_land (by omega) hv hV hS h9 hW hM h0 h1 h2 h3 hn0 hn (Or.inr (Or.inr ⟨hk, hi, rfl⟩))) ?_
      rintro ⟨p1, p2⟩ ⟨c1, _, c3⟩
      dsimp only at c1 c3 ⊢
      have q1 := qC_fA c3
      have e82 : p2 282 = M 282 := c3 282 (by decide)
      rw [c1]
      by_cases hl : lnd V (sPl (sPl S k) i) c r n.toNat
      · rw [if_neg (by rw [bz_b0]; exact fun h => h hl)]
        have := hQ p2 q1 e82
        rw [show w2R V S c r n.toNat k (f + 1) i = i from if_pos ⟨hp, hl⟩, if_neg (by omega)] at this
        exact T_some this
      · rw [if_pos (by rw [bz_b0]; exact hl)]
        refine fc_two hd hv hV hS h9 hW h0 h1 h2 h3 hn0 hn hk f (i + 1) p2 (cR_qC hv hM q1) (fun j a b => ?_) (by omega) (by omega) (fun M' r1 r2 => ?_)
        · have := hA j a b
          unfold AW at this ⊢
          rw [e82]; exact this
        · have := hQ M' (qC_trans q1 r1) (r2.trans e82)
          rw [show w2R V S c r n.toNat k (f + 1) i = w2R V S c r n.toNat k f (i + 1) from if_neg (fun h => hl h.2)] at this
          exact this
end WK

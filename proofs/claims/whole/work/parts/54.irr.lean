/-! PURE: a willow that isn't asked for doesn't matter -/
section IRR
variable {V : bz_M} {S : Nat → Int} {j : Nat} {x : Int}
theorem upS_comm {k : Nat} {y : Int} (h : k ≠ j) : upS (upS S j x) k y = upS (upS S k y) j x := by
  funext i
  unfold upS
  by_cases h1 : i = k
  · rw [if_pos h1, if_neg (by omega), if_pos h1]
  · rw [if_neg h1]
    by_cases h2 : i = j
    · rw [if_pos h2, if_pos h2]
    · rw [if_neg h2, if_neg h2, if_neg h1]
theorem U_row (hj : 12 ≤ j ∧ j < 92) {c : Int} (h : c < 10) : sRow (upS S j x) c = sRow S c := upS_ne (by omega)
theorem U_be (hj : 12 ≤ j ∧ j < 92) {c : Int} (h : c < 10) : sBe (upS S j x) c = sBe S c := by
  unfold sBe
  rw [U_row hj h, U_row hj (by omega)]
theorem U_bh (hj : 12 ≤ j ∧ j < 92) (hV : vOK V) {c : Int} (h : c < vC V) : sBh V (upS S j x) c = sBh V S c := by
  have hC := hV.2.1
  unfold sBh
  split
  · exact U_row hj (by omega)
  · exact U_row hj (by omega)
theorem U_turn (hj : 12 ≤ j ∧ j < 92) (hV : vOK V) {c : Int} (h : c < vC V) : sTurn V (upS S j x) c = sTurn V S c := by
  have hC := hV.2.1
  unfold sTurn
  rw [U_be hj (by omega), U_bh hj hV h, U_row hj (by omega)]
theorem U_offer (hj : 12 ≤ j ∧ j < 92) {l : Int} (h : 0 ≤ l) : sOffer V (upS S j x) l = sOffer V S l := by
  unfold sOffer sOf sPu
  rw [upS_ne (by omega), upS_ne (by omega)]
theorem U_payL (hj : 12 ≤ j ∧ j < 92) {c : Int} : ∀ (k : Nat) (l n : Int), 0 ≤ l → sPayL V (upS S j x) c k l n = sPayL V S c k l n
  | 0, _, _, _ => rfl
  | k + 1, l, n, h => by
    unfold sPayL
    rw [U_offer hj h]
    exact U_payL hj k (l + 1) _ (by omega)
theorem U_eats (hj : 12 ≤ j ∧ j < 92) (hV : vOK V) {c r : Int} (h0 : 0 ≤ c) (h : c < vC V) (h2 : 0 ≤ r) (h3 : r < vR V) (hn : Int.toNat (12 + (8 * c + r)) ≠ j) : sEats V (upS S j x) c r = sEats V S c r := by
  have hC := hV.2.1
  have hR := hV.2.2.1
  have e : fE V (upS S j x) c r = fE V S c r := by
    funext p
    unfold fE
    have e1 : sWi (upS S j x) (8 * c + r) = sWi S (8 * c + r) := upS_ne hn
    have e2 : sEv (upS S j x) (8 * c + r) = sEv S (8 * c + r) := upS_ne (by omega)
    have e3 : sPay V (upS S j x) c = sPay V S c := U_payL hj _ _ _ (by omega)
    rw [U_turn hj hV h, e1, e2, e3, upS_ne (by omega)]
  unfold sEats
  rw [e]
theorem U_may (hj : 12 ≤ j ∧ j < 92) (hV : vOK V) {c r : Int} (h : c < vC V) : sMay V (upS S j x) c r ↔ sMay V S c r := by
  have hC := hV.2.1
  unfold sMay
  rw [U_be hj (by omega), U_bh hj hV h]
theorem U_try (hj : 12 ≤ j ∧ j < 92) (hV : vOK V) {c r : Int} {q : Int × Int} (h0 : 0 ≤ c) (h : c < vC V) (hn : sMay V S c r → Int.toNat (12 + (8 * c + r)) ≠ j) : sTry V (upS S j x) c r q = sTry V S c r q := by
  unfold sTry
  by_cases hm : sMay V S c r
  · rw [if_pos ((U_may hj hV h).mpr hm), if_pos hm, U_eats hj hV h0 h hm.1.1 (by have := hm.1.2; omega) (hn hm)]
  · rw [if_neg (fun h' => hm ((U_may hj hV h).mp h')), if_neg hm]
theorem aTry_0 {c r : Int} {A : Nat → Int} {i : Nat} (h : aTry V S c r A i = 0) : A i = 0 ∧ (sMay V S c r → Int.toNat (8 * c + r) ≠ i) := by
  unfold aTry at h
  by_cases hm : sMay V S c r
  · rw [if_pos hm] at h
    unfold upS at h
    split at h
    · cases h
    · rename_i e; exact ⟨h, fun _ e' => e e'.symm⟩
  · rw [if_neg hm] at h; exact ⟨h, fun h' => absurd h' hm⟩
theorem U_move (hj : 12 ≤ j ∧ j < 92) (hV : vOK V) (hS : sOK V S) {c : Int} {A : Nat → Int} (h0 : 0 ≤ c) (h : c < vC V) (ha : aMove V S c A (j - 12) = 0) : sMove V (upS S j x) c = upS (sMove V S c) j x ∧ A (j - 12) = 0 := by
  have hC := hV.2.1
  have hR := hV.2.2.1
  have b1 := hS.2.2.1 c h0 h
  unfold aMove at ha
  have a1 := aTry_0 ha
  have a2 := aTry_0 a1.1
  refine ⟨?_, a2.1⟩
  have e : sBest V (upS S j x) c = sBest V S c := by
    unfold sBest
    rw [U_row hj (by omega), U_try hj hV h0 h (fun hm => by have := a1.2 hm; have := hm.1; omega), U_try hj hV h0 h (fun hm => by have := a2.2 hm; have := hm.1; omega)]
  unfold sMove
  rw [e]
  split
  · rfl
  · exact upS_comm (by omega)
theorem U_aMove (hj : 12 ≤ j ∧ j < 92) (hV : vOK V) {c : Int} {A : Nat → Int} (h0 : 0 ≤ c) (h : c < vC V) : aMove V (upS S j x) c A = aMove V S c A := by
  have hC := hV.2.1
  unfold aMove
  rw [U_row hj (by omega)]
  have e : ∀ r A, aTry V (upS S j x) c r A = aTry V S c r A := by
    intro r A
    unfold aTry
    by_cases hm : sMay V S c r
    · rw [if_pos ((U_may hj hV h).mpr hm), if_pos hm]
    · rw [if_neg (fun h' => hm ((U_may hj hV h).mp h')), if_neg hm]
  rw [e, e]
theorem aMoves_0 {i : Nat} : ∀ (k : Nat) (c : Int) (S A : Nat → Int), aMoves V k c S A i = 0 → A i = 0
  | 0, _, _, _, h => h
  | k + 1, c, S, A, h => by
    have h1 := aMoves_0 k (c + 1) _ _ h
    unfold aMove at h1
    exact (aTry_0 (aTry_0 h1).1).1
theorem U_moves (hj : 12 ≤ j ∧ j < 92) (hV : vOK V) : ∀ (k : Nat) (c : Int) (S A : Nat → Int), sOK V S → 0 ≤ c → c + k = vC V → aMoves V k c S A (j - 12) = 0 → sMoves V k c (upS S j x) = upS (sMoves V k c S) j x ∧ aMoves V k c (upS S j x) A = aMoves V k c S A
  | 0, _, _, _, _, _, _, _ => ⟨rfl, rfl⟩
  | k + 1, c, S, A, hS, h0, h1, ha => by
    have h := U_move (x := x) hj hV hS (A := A) h0 (by omega) (aMoves_0 k (c + 1) _ _ ha)
    have ih := U_moves hj hV k (c + 1) (sMove V S c) (aMove V S c A) (sMove_ok hV hS h0 (by omega)) (by omega) (by omega) ha
    unfold sMoves aMoves
    rw [h.1, U_aMove hj hV h0 (by omega)]
    exact ih
theorem U_ever (hj : 12 ≤ j ∧ j < 92) {c : Int} (h0 : 0 ≤ c) (h : c < 10) (hr : 0 ≤ sRow S c) : sEver (upS S j x) c = upS (sEver S c) j x := by
  unfold sEver
  rw [U_row hj h, upS_ne (show Int.toNat (92 + 8 * c + sRow S c) ≠ j by omega)]
  split
  · exact upS_comm (by omega)
  · rfl
theorem U_evers (hj : 12 ≤ j ∧ j < 92) (hV : vOK V) : ∀ (k : Nat) (c : Int) (S : Nat → Int), sOK V S → 0 ≤ c → c + k = vC V → sEvers k c (upS S j x) = upS (sEvers k c S) j x
  | 0, _, _, _, _, _ => rfl
  | k + 1, c, S, hS, h0, h1 => by
    have hC := hV.2.1
    have b1 := hS.2.2.1 c h0 (by omega)
    unfold sEvers
    rw [U_ever hj h0 (by omega) b1.1]
    exact U_evers hj hV k (c + 1) (sEver S c) (sEver_ok hV hS h0 (by omega)) (by omega) (by omega)
theorem U_bend (hj : 12 ≤ j ∧ j < 92) (hV : vOK V) {c : Int} (h : c < vC V) : sBend V (upS S j x) c = sBend V S c := by
  have hC := hV.2.1
  unfold sBend sBendBy
  rw [U_be hj (by omega), U_bh hj hV h, U_row hj (by omega)]
  have e : fB V (upS S j x) c (sBe S c) (sRow S c) (sBh V S c) = fB V S c (sBe S c) (sRow S c) (sBh V S c) := by
    funext p
    unfold fB
    rw [upS_ne (show 0 ≠ j by omega)]
  rw [e]
theorem U_colL (hj : 12 ≤ j ∧ j < 92) {c : Int} : ∀ (k : Nat) (l : Int) (S : Nat → Int) (n : Int), 0 ≤ l → sColL V c k l (upS S j x, n) = (upS (sColL V c k l (S, n)).1 j x, (sColL V c k l (S, n)).2)
  | 0, _, _, _, _ => rfl
  | k + 1, l, S, n, h => by
    unfold sColL
    split
    · dsimp only
      have e : sPu (upS S j x) l = sPu S l := upS_ne (by omega)
      rw [U_offer hj h, e, upS_comm (by omega)]
      exact U_colL hj k (l + 1) _ _ (by omega)
    · exact U_colL hj k (l + 1) _ _ (by omega)
theorem U_paidL (hj : 12 ≤ j ∧ j < 92) (hV : vOK V) : ∀ (k : Nat) (c : Int) (S : Nat → Int) (b P : Int), 0 ≤ c → c + k = vC V → sPaidL V k c (upS S j x, b, P) = (upS (sPaidL V k c (S, b, P)).1 j x, (sPaidL V k c (S, b, P)).2)
  | 0, _, _, _, _, _, _ => rfl
  | k + 1, c, S, b, P, h0, h1 => by
    unfold sPaidL
    dsimp only
    rw [U_bend hj hV (by omega)]
    split
    · exact U_paidL hj hV k (c + 1) S b P (by omega) (by omega)
    · have e : sCol V (upS S j x) c = (upS (sCol V S c).1 j x, (sCol V S c).2) := U_colL hj _ _ _ _ (by omega)
      rw [e]
      exact U_paidL hj hV k (c + 1) _ _ _ (by omega) (by omega)
theorem U_pass (hj : 12 ≤ j ∧ j < 92) (hV : vOK V) (hS : sOK V S) {A : Nat → Int} (ha : aPass V S A (j - 12) = 0) : sPass V (upS S j x) = upS (sPass V S) j x ∧ aPass V (upS S j x) A = aPass V S A := by
  have hC := hV.2.1
  have h1 := U_moves (x := x) hj hV (vC V).toNat 0 S A hS (by omega) (by omega) ha
  have k1 := sMoves_ok hV (vC V).toNat 0 S hS (by omega) (by omega)
  have e : sBefore V (upS S j x) = upS (sBefore V S) j x := by
    unfold sBefore
    rw [h1.1, U_evers hj hV (vC V).toNat 0 _ k1.1 (by omega) (by omega)]
  have e2 : sPaid V (upS (sBefore V S) j x) = (upS (sPaid V (sBefore V S)).1 j x, (sPaid V (sBefore V S)).2) := U_paidL hj hV _ _ _ _ _ (by omega) (by omega)
  refine ⟨?_, h1.2⟩
  unfold sPass
  rw [e, e2]
  dsimp only
  rw [upS_ne (show 1 ≠ j by omega), upS_ne (show 0 ≠ j by omega), upS_comm (j := j) (x := x) (k := 1) (by omega), upS_comm (j := j) (x := x) (k := 0) (by omega)]
theorem aRun_0 {i : Nat} : ∀ (n : Nat) (S A : Nat → Int), aRun V n S A i = 0 → A i = 0
  | 0, _, _, h => h
  | n + 1, S, A, h => aMoves_0 _ _ _ _ (aRun_0 n (sPass V S) (aPass V S A) h)
/-- n seasons: a willow in a cell that wasn't asked for -/
theorem U_run (hj : 12 ≤ j ∧ j < 92) (hV : vOK V) : ∀ (n : Nat) (S A : Nat → Int), sOK V S → S 0 + n ≤ 1030 → aRun V n S A (j - 12) = 0 → sRun V n (upS S j x) = upS (sRun V n S) j x
  | 0, _, _, _, _, _ => rfl
  | n + 1, S, A, hS, h9, ha => by
    have h := U_pass (x := x) hj hV hS (A := A) (aRun_0 n _ _ ha)
    have hp := sPass_ok hV hS (by omega)
    unfold sRun
    rw [h.1]
    exact U_run hj hV n (sPass V S) (aPass V S A) hp.1 (by rw [hp.2]; omega) ha
end IRR

/-! PURE: a valley (in the reference's rows), a state (as the reference's now), a season -/
def vC (V : bz_M) : Int := V 355 3
def vR (V : bz_M) : Int := V 355 4
def vH (V : bz_M) : Int := V 355 5
def vL (V : bz_M) : Int := V 319 47
def vSo (V : bz_M) (k : Int) : Int := V 358 (Int.toNat (80 + k))
def vFr (V : bz_M) (l : Int) : Int := V 357 (Int.toNat (25 + 5 * l))
def vTo (V : bz_M) (l : Int) : Int := V 357 (Int.toNat (26 + 5 * l))
def vPa (V : bz_M) (l : Int) : Int := V 357 (Int.toNat (27 + 5 * l))
def vJo (V : bz_M) (l : Int) : Int := V 357 (Int.toNat (28 + 5 * l))
def vOps (V : bz_M) (w : Nat) : List Int := (List.range ((V 362 (2 + w) - V 361 (2 + w)).toNat)).map (fun i => V 363 (1600 + (V 361 (2 + w)).toNat + i))
def oE (V : bz_M) : List Int := if V 361 2 = -1 then [46, 42, 1, 44, 2, 45, 2] else vOps V 0
def oB (V : bz_M) : List Int := if V 361 3 = -1 then [42, 1000, 8] else vOps V 1
def aE (op : Int) : Prop := ¬ (48 ≤ op ∧ op < 1000)
def aB (op : Int) : Prop := ¬ (44 ≤ op ∧ op < 48) ∧ ¬ (50 ≤ op ∧ op < 1000)
/-- a valley stands -/
def vOK (V : bz_M) : Prop := V 319 60 = 1 ∧ (3 ≤ vC V ∧ vC V ≤ 10) ∧ (2 ≤ vR V ∧ vR V ≤ 8) ∧ (1 ≤ vH V ∧ vH V ≤ 7) ∧ (0 ≤ vL V ∧ vL V ≤ 5) ∧ (∀ k, 0 ≤ k → k < 80 → 0 ≤ vSo V k ∧ vSo V k ≤ 9) ∧ (∀ l, 0 ≤ l → l < vL V → (0 ≤ vFr V l ∧ vFr V l ≤ vTo V l ∧ vTo V l < vC V) ∧ (0 ≤ vPa V l ∧ vPa V l ≤ 99) ∧ (0 ≤ vJo V l ∧ vJo V l ≤ 99)) ∧ (pOK (oE V) [] [false] ∧ (∀ op ∈ oE V, aE op)) ∧ (pOK (oB V) [] [true] ∧ (∀ op ∈ oB V, aB op)) ∧ (∀ w, w < 2 → V 361 (2 + w) ≠ -1 → 0 ≤ V 361 (2 + w) ∧ V 361 (2 + w) ≤ V 362 (2 + w) ∧ V 362 (2 + w) ≤ 1600)
def sRow (S : Nat → Int) (c : Int) : Int := S (Int.toNat (2 + c))
def sWi (S : Nat → Int) (k : Int) : Int := S (Int.toNat (12 + k))
def sEv (S : Nat → Int) (k : Int) : Int := S (Int.toNat (92 + k))
def sOf (S : Nat → Int) (l : Int) : Int := S (Int.toNat (172 + 2 * l))
def sPu (S : Nat → Int) (l : Int) : Int := S (Int.toNat (173 + 2 * l))
def upS (S : Nat → Int) (k : Nat) (v : Int) : Nat → Int := fun i => if i = k then v else S i
def sOK (V : bz_M) (S : Nat → Int) : Prop := (0 ≤ S 0 ∧ S 0 ≤ 1030) ∧ (0 ≤ S 1 ∧ S 1 ≤ 999999) ∧ (∀ c, 0 ≤ c → c < vC V → 0 ≤ sRow S c ∧ sRow S c < vR V) ∧ (∀ k, 0 ≤ k → k < 80 → (0 ≤ sWi S k ∧ sWi S k ≤ 11) ∧ (0 ≤ sEv S k ∧ sEv S k ≤ 99)) ∧ (∀ l, 0 ≤ l → l < vL V → (sOf S l = 0 ∨ sOf S l = 1) ∧ (0 ≤ sPu S l ∧ sPu S l ≤ 999))
def pAbs (z : Int) : Int := if z < 0 then -z else z
def pTurn (V : bz_M) (c b r h : Int) : Int := if 0 < c ∧ c < vC V - 1 then pAbs (b + h - 2 * r) else 0
def sBe (S : Nat → Int) (c : Int) : Int := if c = 0 then sRow S c else sRow S (c - 1)
def sBh (V : bz_M) (S : Nat → Int) (c : Int) : Int := if c = vC V - 1 then sRow S c else sRow S (c + 1)
def sTurn (V : bz_M) (S : Nat → Int) (c : Int) : Int := pTurn V c (sBe S c) (sRow S c) (sBh V S c)
def sOffer (V : bz_M) (S : Nat → Int) (l : Int) : Int := bz_of (sOf S l) (sPu S l) (vPa V l)
def sPayL (V : bz_M) (S : Nat → Int) (c : Int) : Nat → Int → Int → Int
  | 0, _, n => n
  | k + 1, l, n => sPayL V S c k (l + 1) (if vFr V l ≤ c ∧ c ≤ vTo V l then n + sOffer V S l else n)
def sPay (V : bz_M) (S : Nat → Int) (c : Int) : Int := sPayL V S c (vL V).toNat 0 0
def fE (V : bz_M) (S : Nat → Int) (c r p : Int) : Int := if p = 0 then c else if p = 1 then r else if p = 2 then sTurn V S c else if p = 3 then S 0 else if p = 4 then vSo V (8 * c + r) else if p = 5 then sWi S (8 * c + r) else if p = 6 then sPay V S c else if p = 7 then sEv S (8 * c + r) else 0
def fB (V : bz_M) (S : Nat → Int) (c b r h p : Int) : Int := if p = 0 then c else if p = 1 then r else if p = 2 then pTurn V c b r h else if p = 3 then S 0 else if p = 8 then b else if p = 9 then h else 0
def g0 (_ _ : Int) : Int := 0
def sEats (V : bz_M) (S : Nat → Int) (c r : Int) : Int := (pEv (fE V S c r) g0 (oE V) []).headD 0
def sBendBy (V : bz_M) (S : Nat → Int) (c b r h : Int) : Int := (pEv (fB V S c b r h) g0 (oB V) []).headD 0
def sBend (V : bz_M) (S : Nat → Int) (c : Int) : Int := sBendBy V S c (sBe S c) (sRow S c) (sBh V S c)
def sBendsL (V : bz_M) (S : Nat → Int) : Nat → Int → Int → Int
  | 0, _, n => n
  | k + 1, c, n => sBendsL V S k (c + 1) (if sBend V S c = 0 then n else n + 1)
/-- bends in the columns from a to b -/
def sBends (V : bz_M) (S : Nat → Int) (a b : Int) : Int := sBendsL V S (b + 1 - a).toNat a 0
abbrev sMay (V : bz_M) (S : Nat → Int) (c r : Int) : Prop := (0 ≤ r ∧ r ≤ vR V - 1) ∧ (c = 0 ∨ (-vH V ≤ sBe S c - r ∧ sBe S c - r ≤ vH V)) ∧ (c = vC V - 1 ∨ (-vH V ≤ sBh V S c - r ∧ sBh V S c - r ≤ vH V))
def sTry (V : bz_M) (S : Nat → Int) (c r : Int) (q : Int × Int) : Int × Int := if sMay V S c r then (if q.2 < sEats V S c r then (r, sEats V S c r) else q) else q
def sBest (V : bz_M) (S : Nat → Int) (c : Int) : Int × Int := sTry V S c (sRow S c + 1) (sTry V S c (sRow S c - 1) (-1, 0))
def sMove (V : bz_M) (S : Nat → Int) (c : Int) : Nat → Int := if (sBest V S c).1 = -1 then S else upS S (Int.toNat (2 + c)) (sBest V S c).1
def sMoves (V : bz_M) : Nat → Int → (Nat → Int) → (Nat → Int)
  | 0, _, S => S
  | k + 1, c, S => sMoves V k (c + 1) (sMove V S c)
def sEver (S : Nat → Int) (c : Int) : Nat → Int := if S (Int.toNat (92 + 8 * c + sRow S c)) < 99 then upS S (Int.toNat (92 + 8 * c + sRow S c)) (S (Int.toNat (92 + 8 * c + sRow S c)) + 1) else S
def sEvers : Nat → Int → (Nat → Int) → (Nat → Int)
  | 0, _, S => S
  | k + 1, c, S => sEvers k (c + 1) (sEver S c)
def sColL (V : bz_M) (c : Int) : Nat → Int → (Nat → Int) × Int → (Nat → Int) × Int
  | 0, _, q => q
  | k + 1, l, q => sColL V c k (l + 1) (if vFr V l ≤ c ∧ c ≤ vTo V l then (upS q.1 (Int.toNat (173 + 2 * l)) (sPu q.1 l - sOffer V q.1 l), q.2 + sOffer V q.1 l) else q)
def sCol (V : bz_M) (S : Nat → Int) (c : Int) : (Nat → Int) × Int := sColL V c (vL V).toNat 0 (S, 0)
def sPaidL (V : bz_M) : Nat → Int → (Nat → Int) × Int × Int → (Nat → Int) × Int × Int
  | 0, _, q => q
  | k + 1, c, q => sPaidL V k (c + 1) (if sBend V q.1 c = 0 then q else ((sCol V q.1 c).1, q.2.1 + 1, q.2.2 + (sCol V q.1 c).2))
def sPaid (V : bz_M) (S : Nat → Int) : (Nat → Int) × Int × Int := sPaidL V (vC V).toNat 0 (S, 0, 0)
def sBefore (V : bz_M) (S : Nat → Int) : Nat → Int := sEvers (vC V).toNat 0 (sMoves V (vC V).toNat 0 S)
/-- a season: the state, how many bends, what was paid -/
def sPass (V : bz_M) (S : Nat → Int) : Nat → Int := upS (upS (sPaid V (sBefore V S)).1 1 (min ((sPaid V (sBefore V S)).1 1 + (sPaid V (sBefore V S)).2.2) 999999)) 0 (S 0 + 1)
def sRun (V : bz_M) : Nat → (Nat → Int) → (Nat → Int)
  | 0, S => S
  | n + 1, S => sRun V n (sPass V S)
/-- cells asked for, bends of the lords -/
def aTry (V : bz_M) (S : Nat → Int) (c r : Int) (A : Nat → Int) : Nat → Int := if sMay V S c r then upS A (Int.toNat (8 * c + r)) 1 else A
def aMove (V : bz_M) (S : Nat → Int) (c : Int) (A : Nat → Int) : Nat → Int := aTry V S c (sRow S c + 1) (aTry V S c (sRow S c - 1) A)
def aMoves (V : bz_M) : Nat → Int → (Nat → Int) → (Nat → Int) → (Nat → Int)
  | 0, _, _, A => A
  | k + 1, c, S, A => aMoves V k (c + 1) (sMove V S c) (aMove V S c A)
def bColL (V : bz_M) (c : Int) : Nat → Int → (Nat → Int) → (Nat → Int)
  | 0, _, B => B
  | k + 1, l, B => bColL V c k (l + 1) (if vFr V l ≤ c ∧ c ≤ vTo V l then upS B (Int.toNat l) (bz_w32 (B (Int.toNat l) + 1)) else B)
def bCol (V : bz_M) (c : Int) (B : Nat → Int) : Nat → Int := bColL V c (vL V).toNat 0 B
def bPaidL (V : bz_M) : Nat → Int → (Nat → Int) → (Nat → Int) → (Nat → Int)
  | 0, _, _, B => B
  | k + 1, c, S, B => bPaidL V k (c + 1) (if sBend V S c = 0 then S else (sCol V S c).1) (if sBend V S c = 0 then B else bCol V c B)
/-! what is so of it -/
theorem upS_eq (S : Nat → Int) (k : Nat) (v : Int) : upS S k v k = v := if_pos rfl
theorem upS_ne {S : Nat → Int} {k i : Nat} {v : Int} (h : i ≠ k) : upS S k v i = S i := if_neg h
theorem sRow_m1 (S : Nat → Int) (c : Int) : S (Int.toNat (1 + c)) = sRow S (c - 1) := by unfold sRow; congr 2; omega
theorem sRow_p1 (S : Nat → Int) (c : Int) : S (Int.toNat (3 + c)) = sRow S (c + 1) := by unfold sRow; congr 2; omega
theorem pTurn_bd {V : bz_M} {c b r h : Int} (hb : 0 ≤ b ∧ b < 8) (hr : 0 ≤ r ∧ r < 8) (hh : 0 ≤ h ∧ h < 8) : 0 ≤ pTurn V c b r h ∧ pTurn V c b r h ≤ 28 := by
  unfold pTurn pAbs
  split
  · split <;> omega
  · omega
section MD
variable {V : bz_M} {S : Nat → Int}
theorem sBe_bd (hS : sOK V S) {c : Int} (h0 : 0 ≤ c) (h1 : c < vC V) : 0 ≤ sBe S c ∧ sBe S c < vR V := by
  unfold sBe
  split
  · exact hS.2.2.1 c h0 h1
  · exact hS.2.2.1 _ (by omega) (by omega)
theorem sBh_bd (hS : sOK V S) {c : Int} (h0 : 0 ≤ c) (h1 : c < vC V) : 0 ≤ sBh V S c ∧ sBh V S c < vR V := by
  unfold sBh
  split
  · exact hS.2.2.1 c h0 h1
  · exact hS.2.2.1 _ (by omega) (by omega)
theorem sTurn_bd (hV : vOK V) (hS : sOK V S) {c : Int} (h0 : 0 ≤ c) (h1 : c < vC V) : 0 ≤ sTurn V S c ∧ sTurn V S c ≤ 28 := by
  have a := sBe_bd hS h0 h1
  have b := sBh_bd hS h0 h1
  have e := hS.2.2.1 c h0 h1
  have hR := hV.2.2.1
  exact pTurn_bd (by omega) (by omega) (by omega)
theorem sOffer_bd (hV : vOK V) {l : Int} (h0 : 0 ≤ l) (h1 : l < vL V) : 0 ≤ sOffer V S l ∧ sOffer V S l ≤ 99 := by
  have := (hV.2.2.2.2.2.2.1 l h0 h1).2.1
  unfold sOffer bz_of
  split <;> omega
theorem sPayL_bd (hV : vOK V) {c : Int} : ∀ (k : Nat) (l n : Int), 0 ≤ l → l + k ≤ vL V → n ≤ sPayL V S c k l n ∧ sPayL V S c k l n ≤ n + 99 * k
  | 0, _, _, _, _ => by unfold sPayL; omega
  | k + 1, l, n, h0, h1 => by
    unfold sPayL
    have ho := sOffer_bd (S := S) hV h0 (by omega)
    have h := sPayL_bd hV (c := c) k (l + 1) (if vFr V l ≤ c ∧ c ≤ vTo V l then n + sOffer V S l else n) (by omega) (by omega)
    split at h <;> rename_i hc
    · rw [if_pos hc]; push_cast; omega
    · rw [if_neg hc]; push_cast; omega
theorem sPay_bd (hV : vOK V) {c : Int} : 0 ≤ sPay V S c ∧ sPay V S c ≤ 495 := by
  have hl := hV.2.2.2.2.1
  have := sPayL_bd (S := S) hV (c := c) (vL V).toNat 0 0 (by omega) (by omega)
  unfold sPay
  omega
theorem fE_bd (hV : vOK V) (hS : sOK V S) {c r : Int} (h0 : 0 ≤ c) (h1 : c < vC V) (h2 : 0 ≤ r) (h3 : r < vR V) (p : Int) : -1000000 ≤ fE V S c r p ∧ fE V S c r p ≤ 1000000 := by
  have hC := hV.2.1
  have hR := hV.2.2.1
  have a1 := sTurn_bd hV hS h0 h1
  have a2 := hS.1
  have a3 := hV.2.2.2.2.2.1 (8 * c + r) (by omega) (by omega)
  have a4 := hS.2.2.2.1 (8 * c + r) (by omega) (by omega)
  have a5 := sPay_bd (S := S) hV (c := c)
  unfold fE
  repeat' split
  all_goals omega
theorem fB_bd (hV : vOK V) (hS : sOK V S) {c b r h : Int} (h0 : 0 ≤ c) (h1 : c < vC V) (hb : 0 ≤ b ∧ b < vR V) (hr : 0 ≤ r ∧ r < vR V) (hh : 0 ≤ h ∧ h < vR V) (p : Int) : -1000000 ≤ fB V S c b r h p ∧ fB V S c b r h p ≤ 1000000 := by
  have hC := hV.2.1
  have hR := hV.2.2.1
  have a1 := pTurn_bd (V := V) (c := c) (b := b) (r := r) (h := h) (by omega) (by omega) (by omega)
  have a2 := hS.1
  unfold fB
  repeat' split
  all_goals omega
theorem g0_bd (p x : Int) : -1000000 ≤ g0 p x ∧ g0 p x ≤ 1000000 := by unfold g0; omega
theorem sEats_is (hV : vOK V) (hS : sOK V S) {c r : Int} (h0 : 0 ≤ c) (h1 : c < vC V) (h2 : 0 ≤ r) (h3 : r < vR V) : pEv (fE V S c r) g0 (oE V) [] = [sEats V S c r] ∧ -1000000 ≤ sEats V S c r ∧ sEats V S c r ≤ 1000000 := by
  obtain ⟨x, hx, hb⟩ := pEv_one (fE_bd hV hS h0 h1 h2 h3) g0_bd hV.2.2.2.2.2.2.2.1.1
  unfold sEats
  rw [hx]
  simpa using hb
theorem sBendBy_is (hV : vOK V) (hS : sOK V S) {c b r h : Int} (h0 : 0 ≤ c) (h1 : c < vC V) (hb : 0 ≤ b ∧ b < vR V) (hr : 0 ≤ r ∧ r < vR V) (hh : 0 ≤ h ∧ h < vR V) : pEv (fB V S c b r h) g0 (oB V) [] = [sBendBy V S c b r h] ∧ (sBendBy V S c b r h = 0 ∨ sBendBy V S c b r h = 1) := by
  obtain ⟨x, hx, hb⟩ := pEv_one (fB_bd hV hS h0 h1 hb hr hh) g0_bd hV.2.2.2.2.2.2.2.2.1.1
  unfold sBendBy
  rw [hx]
  simpa using hb
end MD

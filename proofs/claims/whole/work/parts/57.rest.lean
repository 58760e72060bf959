/-! QUERIES: rest -/
def pBit (x l : Int) : Int := bz_and (bz_shr x l) 1
def pXor (x l : Int) : Int := bz_xor x (bz_shl 1 l)
def pBc (a : Int) : Int := (bz_and (bz_w32 ((bz_w32 ((bz_and (bz_w32 ((bz_w32 ((bz_and (bz_w32 (a - (bz_and (bz_ushr a 1) 1431655765))) 858993459) + (bz_and (bz_ushr (bz_w32 (a - (bz_and (bz_ushr a 1) 1431655765))) 2) 858993459))) + (bz_ushr (bz_w32 ((bz_and (bz_w32 (a - (bz_and (bz_ushr a 1) 1431655765))) 858993459) + (bz_and (bz_ushr (bz_w32 (a - (bz_and (bz_ushr a 1) 1431655765))) 2) 858993459))) 4))) 252645135) + (bz_ushr (bz_and (bz_w32 ((bz_w32 ((bz_and (bz_w32 (a - (bz_and (bz_ushr a 1) 1431655765))) 858993459) + (bz_and (bz_ushr (bz_w32 (a - (bz_and (bz_ushr a 1) 1431655765))) 2) 858993459))) + (bz_ushr (bz_w32 ((bz_and (bz_w32 (a - (bz_and (bz_ushr a 1) 1431655765))) 858993459) + (bz_and (bz_ushr (bz_w32 (a - (bz_and (bz_ushr a 1) 1431655765))) 2) 858993459))) 4))) 252645135) 8))) + (bz_ushr (bz_w32 ((bz_and (bz_w32 ((bz_w32 ((bz_and (bz_w32 (a - (bz_and (bz_ushr a 1) 1431655765))) 858993459) + (bz_and (bz_ushr (bz_w32 (a - (bz_and (bz_ushr a 1) 1431655765))) 2) 858993459))) + (bz_ushr (bz_w32 ((bz_and (bz_w32 (a - (bz_and (bz_ushr a 1) 1431655765))) 858993459) + (bz_and (bz_ushr (bz_w32 (a - (bz_and (bz_ushr a 1) 1431655765))) 2) 858993459))) 4))) 252645135) + (bz_ushr (bz_and (bz_w32 ((bz_w32 ((bz_and (bz_w32 (a - (bz_and (bz_ushr a 1) 1431655765))) 858993459) + (bz_and (bz_ushr (bz_w32 (a - (bz_and (bz_ushr a 1) 1431655765))) 2) 858993459))) + (bz_ushr (bz_w32 ((bz_and (bz_w32 (a - (bz_and (bz_ushr a 1) 1431655765))) 858993459) + (bz_and (bz_ushr (bz_w32 (a - (bz_and (bz_ushr a 1) 1431655765))) 2) 858993459))) 4))) 252645135) 8))) 16))) 63)
def pBs : Nat → Int → Int → Int
  | 0, n, _ => n
  | f + 1, n, x => if x = 0 then n else pBs f (bz_w32 (n + 1)) (bz_and x (bz_w32 (x - 1)))
def pBe : Nat → Int → Bool
  | 0, x => decide (x = 0)
  | f + 1, x => if x = 0 then true else pBe f (bz_and x (bz_w32 (x - 1)))
theorem bits_all : ∀ x ∈ List.range 32, pBe 6 (x : Int) = true ∧ pBs 6 0 (x : Int) = pBc (x : Int) ∧ ∀ l ∈ List.range 5, (pBit (x : Int) (l : Int) = 0 ∨ pBit (x : Int) (l : Int) = 1) ∧ (∀ L ∈ List.range 6, l < L → x < 2 ^ L → 0 ≤ pXor (x : Int) (l : Int) ∧ pXor (x : Int) (l : Int) < (2 ^ L : Nat)) := by decide +kernel
theorem shl_all : ∀ L ∈ List.range 6, bz_shl 1 (L : Int) = ((2 ^ L : Nat) : Int) := by decide +kernel
theorem pBit_01 {x l : Int} (h0 : 0 ≤ x) (h1 : x < 32) (h2 : 0 ≤ l) (h3 : l < 5) : pBit x l = 0 ∨ pBit x l = 1 := by
  obtain ⟨n, rfl⟩ := Int.eq_ofNat_of_zero_le h0
  obtain ⟨k, rfl⟩ := Int.eq_ofNat_of_zero_le h2
  exact ((bits_all n (List.mem_range.mpr (by omega))).2.2 k (List.mem_range.mpr (by omega))).1
theorem pXor_bd {x l L : Int} (h0 : 0 ≤ x) (h2 : 0 ≤ l) (hL : 0 ≤ L) (hL5 : L ≤ 5) (h3 : l < L) (h1 : x < bz_shl 1 L) : 0 ≤ pXor x l ∧ pXor x l < bz_shl 1 L ∧ bz_shl 1 L ≤ 32 := by
  obtain ⟨n, rfl⟩ := Int.eq_ofNat_of_zero_le h0
  obtain ⟨k, rfl⟩ := Int.eq_ofNat_of_zero_le h2
  obtain ⟨m, rfl⟩ := Int.eq_ofNat_of_zero_le hL
  have e := shl_all m (List.mem_range.mpr (by omega))
  have e' : bz_shl 1 (Int.ofNat m) = ((2 ^ m : Nat) : Int) := e
  have hp : 2 ^ m ≤ 2 ^ 5 := Nat.pow_le_pow_right (by omega) (by omega)
  have h1' : n < 2 ^ m := by rw [show bz_shl 1 ((m : Nat) : Int) = ((2 ^ m : Nat) : Int) from e] at h1; omega
  have h := ((bits_all n (List.mem_range.mpr (by omega))).2.2 k (List.mem_range.mpr (by omega))).2 m (List.mem_range.mpr (by omega)) (by omega) h1'
  rw [show bz_shl 1 ((m : Nat) : Int) = ((2 ^ m : Nat) : Int) from e]
  exact ⟨h.1, h.2, by omega⟩
theorem shl_bd {L : Int} (hL : 0 ≤ L) (hL5 : L ≤ 5) : 1 ≤ bz_shl 1 L ∧ bz_shl 1 L ≤ 32 := by
  obtain ⟨m, rfl⟩ := Int.eq_ofNat_of_zero_le hL
  have e := shl_all m (List.mem_range.mpr (by omega))
  have hp : 2 ^ m ≤ 2 ^ 5 := Nat.pow_le_pow_right (by omega) (by omega)
  have hq : 1 ≤ 2 ^ m := Nat.one_le_two_pow
  rw [show bz_shl 1 ((m : Nat) : Int) = ((2 ^ m : Nat) : Int) from e]
  omega
section RS
variable {Lg d v : Nat} {V M M0 M' : bz_M} {S : Nat → Int}
theorem mo_bitsL : ∀ (f : Nat) (n x : Int), pBe f x = true → eMo_bits_4 Lg d n x M = some (pBs f n x, M)
  | 0, n, x, h => by
    refine eMo_bits_4_E _ ?_
    rw [if_pos (by unfold pBe at h; exact of_decide_eq_true h)]; rfl
  | f + 1, n, x, h => by
    refine eMo_bits_4_E _ ?_
    unfold pBs
    unfold pBe at h
    by_cases hx : x = 0
    · rw [if_pos hx, if_pos hx]
    · rw [if_neg hx, if_neg hx]
      rw [if_neg hx] at h
      exact mo_bitsL f _ _ h
theorem mo_bits {x : Int} (h0 : 0 ≤ x) (h1 : x < 32) : eMo_bits Lg d x M = some (pBc x, M) := by
  obtain ⟨n, rfl⟩ := Int.eq_ofNat_of_zero_le h0
  have h := bits_all n (List.mem_range.mpr (by omega))
  refine eMo_bits_E _ ?_
  rw [mo_bitsL 6 0 n h.1, h.2.1]
theorem jd_bits {x : Int} : eJd_bitCount Lg d x M = some (pBc x, M) := eJd_bitCount_E _ rfl
/-- lords offer by the bits of x -/
def sSetL (x : Int) : Nat → Int → (Nat → Int) → (Nat → Int)
  | 0, _, S => S
  | k + 1, l, S => sSetL x k (l + 1) (upS S (Int.toNat (172 + 2 * l)) (pBit x l))
def sSet (V : bz_M) (S : Nat → Int) (x : Int) : Nat → Int := sSetL x (vL V).toNat 0 S
def z0 (_ : Nat) : Int := 0
def hav (V : bz_M) (S : Nat → Int) (n : Nat) (x l : Int) : Int := vJo V l * bRun V n (sSet V S x) z0 l.toNat - (sPu S l - sPu (sRun V n (sSet V S x)) l)
theorem sSetUp_ok (hV : vOK V) (hS : sOK V S) {l y : Int} (h0 : 0 ≤ l) (h1 : l < vL V) (hy : y = 0 ∨ y = 1) : sOK V (upS S (Int.toNat (172 + 2 * l)) y) := by
  have hC := hV.2.1
  refine ⟨by rw [upS_ne (by omega)]; exact hS.1, by rw [upS_ne (by omega)]; exact hS.2.1, fun c h2 h3 => ?_, fun k h2 h3 => ?_, fun l' h2 h3 => ?_⟩
  · have := hS.2.2.1 c h2 h3
    unfold sRow at this ⊢
    rw [upS_ne (by omega)]; exact this
  · have := hS.2.2.2.1 k h2 h3
    unfold sWi sEv at this ⊢
    rw [upS_ne (by omega), upS_ne (by omega)]; exact this
  · have := hS.2.2.2.2 l' h2 h3
    unfold sOf sPu at this ⊢
    rw [upS_ne (show Int.toNat (173 + 2 * l') ≠ Int.toNat (172 + 2 * l) by omega)]
    refine ⟨?_, this.2⟩
    unfold upS
    split
    · exact hy
    · exact this.1
theorem sSetL_ok (hV : vOK V) {x : Int} (hx : 0 ≤ x ∧ x < 32) : ∀ (k : Nat) (l : Int) (S : Nat → Int), sOK V S → 0 ≤ l → l + k = vL V → sOK V (sSetL x k l S) ∧ (∀ j, j < 172 → sSetL x k l S j = S j) ∧ ∀ l', 0 ≤ l' → sPu (sSetL x k l S) l' = sPu S l'
  | 0, _, S, hS, _, _ => ⟨hS, fun _ _ => rfl, fun _ _ => rfl⟩
  | k + 1, l, S, hS, h0, h1 => by
    have hL := hV.2.2.2.2.1
    have h := sSetL_ok hV hx k (l + 1) _ (sSetUp_ok hV hS h0 (by omega) (pBit_01 hx.1 hx.2 h0 (by omega))) (by omega) (by omega)
    exact ⟨h.1, fun j hj => (h.2.1 j hj).trans (upS_ne (by omega)), fun l' g => (h.2.2 l' g).trans (upS_ne (by omega))⟩
theorem sSet_ok (hV : vOK V) (hS : sOK V S) {x : Int} (hx : 0 ≤ x ∧ x < 32) : sOK V (sSet V S x) ∧ (∀ j, j < 172 → sSet V S x j = S j) ∧ ∀ l', 0 ≤ l' → sPu (sSet V S x) l' = sPu S l' := by
  have hL := hV.2.2.2.2.1
  exact sSetL_ok hV hx (vL V).toNat 0 S hS (by omega) (by omega)
/-- gains by bends and purses -/
def rG (V : bz_M) (S0 S G B : Nat → Int) (N : Int) : Prop := ∀ l, 0 ≤ l → l < vL V → G l.toNat = vJo V l * B l.toNat - (sPu S0 l - sPu S l) ∧ 0 ≤ B l.toNat ∧ B l.toNat ≤ N
theorem mulbd {a b N : Int} (h1 : 0 ≤ a) (h2 : a ≤ 99) (h3 : 0 ≤ b) (h4 : b ≤ N) : 0 ≤ a * b ∧ a * b ≤ 99 * N := by
  refine ⟨Int.mul_nonneg h1 h3, ?_⟩
  have h5 : a * b ≤ 99 * b := Int.mul_le_mul_of_nonneg_right h2 h3
  omega
theorem rG_colL (hV : vOK V) {c : Int} {S0 : Nat → Int} (hS0 : ∀ l, 0 ≤ l → l < vL V → 0 ≤ sPu S0 l ∧ sPu S0 l ≤ 999) : ∀ (k : Nat) (l N n : Int) (S G B : Nat → Int), sOK V S → 0 ≤ l → l + k = vL V → 0 ≤ N → N + k ≤ 10000 → rG V S0 S G B N → rG V S0 (sColL V c k l (S, n)).1 (gColL V c k l S G) (bColL V c k l B) (N + k)
  | 0, _, N, _, S, G, B, _, _, _, _, _, h => by simpa [sColL, gColL, bColL] using h
  | k + 1, l, N, n, S, G, B, hS, h0, h1, hN0, hN, h => by
    have ho := sOffer_bd (S := S) hV h0 (by omega)
    have hp := hS.2.2.2.2 l h0 (by omega)
    have hle := sOffer_le (V := V) (S := S) (l := l) (by omega)
    have hj := (hV.2.2.2.2.2.2.1 l h0 (by omega)).2.2
    have e := h l h0 (by omega)
    have e0 := hS0 l h0 (by omega)
    have hm := mulbd hj.1 hj.2 e.2.1 e.2.2
    unfold sColL gColL bColL
    by_cases hc : vFr V l ≤ c ∧ c ≤ vTo V l
    · rw [if_pos hc, if_pos hc, if_pos hc]
      have ih := rG_colL hV (c := c) hS0 k (l + 1) (N + 1) (n + sOffer V S l) (upS S (Int.toNat (173 + 2 * l)) (sPu S l - sOffer V S l)) (upS G l.toNat (bz_w32 (G l.toNat + (vJo V l - sOffer V S l)))) (upS B l.toNat (bz_w32 (B l.toNat + 1))) (sPur_ok hV hS h0 (by omega) (by omega)) (by omega) (by omega) (by omega) (by omega) ?_
      · rw [show N + ((k + 1 : Nat) : Int) = N + 1 + (k : Int) by push_cast; omega]; exact ih
      · intro l' a b
        have e' := h l' a b
        have ep := sPur_at (S := S) (x := sPu S l - sOffer V S l) h0 a
        rw [ep.1]
        by_cases hl : l' = l
        · rw [hl, if_pos rfl, upS_eq, upS_eq, w32_id (z := B l.toNat + 1) (by omega) (by omega), w32_id (by omega) (by omega), e.1, Int.mul_add]
          omega
        · rw [if_neg hl, upS_ne (by omega), upS_ne (by omega)]
          exact ⟨e'.1, e'.2.1, by omega⟩
    · rw [if_neg hc, if_neg hc, if_neg hc]
      have ih := rG_colL hV (c := c) hS0 k (l + 1) (N + 1) n S G B hS (by omega) (by omega) (by omega) (by omega) (fun l' a b => ⟨(h l' a b).1, (h l' a b).2.1, by have := (h l' a b).2.2; omega⟩)
      rw [show N + ((k + 1 : Nat) : Int) = N + 1 + (k : Int) by push_cast; omega]; exact ih
theorem rG_paidL (hV : vOK V) {S0 : Nat → Int} (hS0 : ∀ l, 0 ≤ l → l < vL V → 0 ≤ sPu S0 l ∧ sPu S0 l ≤ 999) : ∀ (k : Nat) (c N b P : Int) (S G B : Nat → Int), sOK V S → 0 ≤ N → N + 5 * k ≤ 9000 → rG V S0 S G B N → rG V S0 (sPaidL V k c (S, b, P)).1 (gPaidL V k c S G) (bPaidL V k c S B) (N + 5 * k)
  | 0, _, N, _, _, S, G, B, _, _, _, h => by simpa [sPaidL, gPaidL, bPaidL] using h
  | k + 1, c, N, b, P, S, G, B, hS, hN0, hN, h => by
    have hL := hV.2.2.2.2.1
    unfold sPaidL gPaidL bPaidL
    by_cases hb : sBend V S c = 0
    · simp only [if_pos hb]
      have ih := rG_paidL hV hS0 k (c + 1) (N + 5) b P S G B hS (by omega) (by omega) (fun l' a b => ⟨(h l' a b).1, (h l' a b).2.1, by have := (h l' a b).2.2; omega⟩)
      rw [show N + 5 * ((k + 1 : Nat) : Int) = N + 5 + 5 * (k : Int) by push_cast; omega]; exact ih
    · simp only [if_neg hb]
      have g := rG_colL hV (c := c) hS0 (vL V).toNat 0 N 0 S G B hS (by omega) (by omega) hN0 (by omega) h
      have gs := sColL_ok hV (c := c) (vL V).toNat 0 (S, 0) hS (by omega) (by omega)
      have ih := rG_paidL hV hS0 k (c + 1) (N + 5) (b + 1) (P + (sCol V S c).2) (sCol V S c).1 (gCol V S c G) (bCol V c B) gs.1 (by omega) (by omega) (fun l' a b => ⟨(g l' a b).1, (g l' a b).2.1, Int.le_trans (g l' a b).2.2 (by omega)⟩)
      rw [show N + 5 * ((k + 1 : Nat) : Int) = N + 5 + 5 * (k : Int) by push_cast; omega]; exact ih
theorem rG_run (hV : vOK V) {S0 : Nat → Int} (hS0 : ∀ l, 0 ≤ l → l < vL V → 0 ≤ sPu S0 l ∧ sPu S0 l ≤ 999) : ∀ (n : Nat) (N : Int) (S G B : Nat → Int), sOK V S → S 0 + n ≤ 1030 → 0 ≤ N → N + 50 * n ≤ 8000 → rG V S0 S G B N → rG V S0 (sRun V n S) (gRun V n S G) (bRun V n S B) (N + 50 * n)
  | 0, N, S, G, B, _, _, _, _, h => by simpa [sRun, gRun, bRun] using h
  | n + 1, N, S, G, B, hS, h9, hN0, hN, h => by
    have hC := hV.2.1
    have hL := hV.2.2.2.2.1
    have hb := sBefore_ok hV hS
    have hp := sPass_ok hV hS (by omega)
    have k1 := sMoves_ok hV (vC V).toNat 0 S hS (by omega) (by omega)
    have k2 := sEvers_ok hV (vC V).toNat 0 _ k1.1 (by omega) (by omega)
    have hq : ∀ l, 0 ≤ l → sPu (sBefore V S) l = sPu S l := fun l a => by
      unfold sPu sBefore
      rw [k2.2 _ (by omega), k1.2 _ (by omega)]
    have g := rG_paidL hV hS0 (vC V).toNat 0 N 0 0 (sBefore V S) G B hb.1 hN0 (by omega) (fun l a b => by rw [hq l a]; exact h l a b)
    have ih := rG_run hV hS0 n (N + 50) (sPass V S) (gPass V S G) (bPass V S B) hp.1 (by rw [hp.2]; omega) (by omega) (by omega) (fun l a b => by
      have e : sPu (sPass V S) l = sPu (sPaid V (sBefore V S)).1 l := by
        unfold sPu sPass
        rw [upS_ne (by omega), upS_ne (by omega)]
      have := g l a b
      rw [e]
      exact ⟨this.1, this.2.1, Int.le_trans this.2.2 (by omega)⟩)
    rw [show N + 50 * ((n + 1 : Nat) : Int) = N + 50 + 50 * (n : Int) by push_cast; omega]; exact ih
/-- what the bits of x bring lord l, both ways -/
theorem hav_g (hV : vOK V) (hS : sOK V S) {n : Nat} (hn : S 0 + n ≤ 999) (hn3 : n ≤ 30) {x l : Int} (hx : 0 ≤ x ∧ x < 32) (h0 : 0 ≤ l) (h1 : l < vL V) {G : Nat → Int} (hG : ∀ l, 0 ≤ l → l < vL V → G l.toNat = 0) : gRun V n (sSet V S x) G l.toNat = hav V S n x l := by
  have hs := sSet_ok hV hS hx
  have h := rG_run hV (S0 := S) (fun l a b => (hS.2.2.2.2 l a b).2) n 0 (sSet V S x) G z0 hs.1 (by rw [hs.2.1 0 (by omega)]; omega) (by omega) (by omega) (fun l a b => ⟨by rw [hG l a b, hs.2.2 l a]; unfold z0; omega, by unfold z0; omega, by unfold z0; omega⟩)
  exact (h l h0 h1).1
/-- the same from other bends at the start -/
theorem bColL_co {c : Int} {B B' : Nat → Int} : ∀ (k : Nat) (l : Int) (B B' : Nat → Int), 0 ≤ l → l + k ≤ 5 → (∀ j, j < 5 → B j = B' j) → ∀ j, j < 5 → bColL V c k l B j = bColL V c k l B' j
  | 0, _, _, _, _, _, h => h
  | k + 1, l, B, B', h0, h1, h => by
    unfold bColL
    refine bColL_co (B := B) (B' := B') k (l + 1) _ _ (by omega) (by omega) (fun j hj => ?_)
    split
    · unfold upS
      split
      · rw [h l.toNat (by omega)]
      · exact h j hj
    · exact h j hj
theorem bPaidL_co (hV : vOK V) : ∀ (k : Nat) (c : Int) (S B B' : Nat → Int), (∀ j, j < 5 → B j = B' j) → ∀ j, j < 5 → bPaidL V k c S B j = bPaidL V k c S B' j
  | 0, _, _, _, _, h => h
  | k + 1, c, S, B, B', h => by
    have hL := hV.2.2.2.2.1
    unfold bPaidL
    refine bPaidL_co hV k (c + 1) _ _ _ (fun j hj => ?_)
    split
    · exact h j hj
    · exact bColL_co (B := B) (B' := B') _ _ _ _ (by omega) (by omega) h j hj
theorem bRun_co (hV : vOK V) : ∀ (n : Nat) (S B B' : Nat → Int), (∀ j, j < 5 → B j = B' j) → ∀ j, j < 5 → bRun V n S B j = bRun V n S B' j
  | 0, _, _, _, h => h
  | n + 1, S, B, B', h => bRun_co hV n (sPass V S) _ _ (bPaidL_co hV _ _ _ _ _ h)
theorem hav_bd (hV : vOK V) (hS : sOK V S) {n : Nat} (hn : S 0 + n ≤ 999) (hn3 : n ≤ 30) {x l : Int} (hx : 0 ≤ x ∧ x < 32) (h0 : 0 ≤ l) (h1 : l < vL V) : (0 ≤ bRun V n (sSet V S x) z0 l.toNat ∧ bRun V n (sSet V S x) z0 l.toNat ≤ 1500) ∧ (0 ≤ vJo V l * bRun V n (sSet V S x) z0 l.toNat ∧ vJo V l * bRun V n (sSet V S x) z0 l.toNat ≤ 148500) := by
  have hs := sSet_ok hV hS hx
  have h := rG_run hV (S0 := S) (fun l a b => (hS.2.2.2.2 l a b).2) n 0 (sSet V S x) z0 z0 hs.1 (by rw [hs.2.1 0 (by omega)]; omega) (by omega) (by omega) (fun l a b => ⟨by rw [hs.2.2 l a]; unfold z0; omega, by unfold z0; omega, by unfold z0; omega⟩)
  have g := (h l h0 h1).2
  have hj := (hV.2.2.2.2.2.2.1 l h0 h1).2.2
  have hm := mulbd hj.1 hj.2 g.1 (show bRun V n (sSet V S x) z0 l.toNat ≤ 1500 by omega)
  exact ⟨⟨g.1, by omega⟩, hm.1, by omega⟩
def qIsR (V : bz_M) (S : Nat → Int) (n : Nat) (x : Int) : Nat → Int → Int
  | 0, _ => 1
  | k + 1, l => if hav V S n x l < hav V S n (pXor x l) l then 0 else qIsR V S n x k (l + 1)
def qRestL (V : bz_M) (S : Nat → Int) (n : Nat) : Nat → Int → Int → Int
  | 0, _, best => best
  | k + 1, x, best => qRestL V S n k (x + 1) (if qIsR V S n x (vL V).toNat 0 = 1 ∧ (best = -1 ∨ pBc x < pBc best) then x else best)
def qRest (V : bz_M) (S : Nat → Int) (n : Int) : Int := if 1 ≤ n ∧ n ≤ 30 ∧ S 0 + n ≤ 999 then qRestL V S n.toNat (bz_shl 1 (vL V)).toNat 0 (-1) else -1
theorem qIsR_01 {n : Nat} {x : Int} : ∀ (k : Nat) (l : Int), qIsR V S n x k l = 0 ∨ qIsR V S n x k l = 1
  | 0, _ => Or.inr rfl
  | k + 1, l => by
    unfold qIsR
    split
    · exact Or.inl rfl
    · exact qIsR_01 k (l + 1)
/-- gains lie in a row -/
def hRow (V : bz_M) (S : Nat → Int) (n : Nat) (A : Nat → Int) (X : Int) : Prop := ∀ x l, 0 ≤ x → x < X → 0 ≤ l → l < vL V → A (Int.toNat (5 * x + l)) = hav V S n x l
theorem cR_set (hv : bz_oV v) (hM : cR V S 285 286 v M) {l y : Int} (h0 : 0 ≤ l) (h1 : l < 5) : cR V (upS S (Int.toNat (172 + 2 * l)) y) 285 286 v (bz_up M 290 l.toNat y) := by
  have hvv := oV_c hv
  have kf : ∀ q, q ≠ 290 → bz_up M 290 l.toNat y q = M q := fun q h => bz_up_fn h
  refine ⟨(congrFun (kf 285 (by decide)) 0).trans hM.1, cV_co hM.2.1 (kf _ (by omega)) (kf _ (by omega)) (kf _ (by omega)) (kf _ (by omega)) (kf _ (by omega)) (kf _ (by omega)) (kf _ (by omega)) (kf _ (by omega)) (kf _ (by omega)) (kf _ (by omega)), ?_⟩
  have h := hM.2.2
  refine ⟨?_, fun c a b => ?_, fun j a b => ?_, fun l' a b => ⟨?_, ?_⟩⟩
  · rw [kf 286 (by decide), upS_ne (by omega), upS_ne (by omega)]; exact h.1
  · rw [kf (286 + 1) (by decide), h.2.1 c a b]; unfold sRow; rw [upS_ne (by omega)]
  · rw [kf (286 + 2) (by decide), kf (286 + 3) (by decide), (h.2.2.1 j a b).1, (h.2.2.1 j a b).2]; unfold sWi sEv; rw [upS_ne (by omega), upS_ne (by omega)]; exact ⟨rfl, rfl⟩
  · rw [bz_up_rk]
    unfold sOf upS
    by_cases e : l' = l
    · rw [if_pos ⟨rfl, by rw [e]⟩, if_pos (by rw [e])]
    · rw [if_neg (fun h => e (by omega)), if_neg (by omega), (h.2.2.2 l' a b).1]; rfl
  · rw [kf (286 + 5) (by decide), (h.2.2.2 l' a b).2]; unfold sPu; rw [upS_ne (by omega)]
theorem fc_ms1 (hv : bz_oV v) (hV : vOK V) {x n : Int} (hx : 0 ≤ x ∧ x < 32) {Q : bz_M → Prop} : ∀ (k : Nat) (l : Int) (S : Nat → Int) (M : bz_M), M 131 0 = (v : Int) → cR V S 285 286 v M → 0 ≤ l → l + k = vL V → (∀ M', cR V (sSetL x k l S) 285 286 v M' → (∀ q, q ≠ 290 → M' q = M q) → w_T (eFc_measureGains_52 Lg d x n 0 M') Q) → w_T (eFc_measureGains_13 Lg d x n l M) Q
  | 0, l, S, M, h131, hM, h0, h1, hQ => by
    refine T_le (eFc_measureGains_13_E hv) ?_
    rw [if_pos h131, hM.2.1.1.2.2.2.1, if_neg (by omega)]
    exact hQ M hM (fun _ _ => rfl)
  | k + 1, l, S, M, h131, hM, h0, h1, hQ => by
    have hL := hV.2.2.2.2.1
    refine T_le (eFc_measureGains_13_E hv) ?_
    rw [if_pos h131, hM.2.1.1.2.2.2.1, if_pos (by omega), if_pos (by omega), w32_id (by omega) (by omega)]
    refine fc_ms1 hv hV hx k (l + 1) _ _ (by rw [bz_up_fn (by decide)]; exact h131) (cR_set hv hM h0 (by omega)) (by omega) (by omega) (fun M' a b => hQ M' a (fun q hq => by rw [b q hq, bz_up_fn hq]))
theorem fc_ms2 (hd : 4 < d) (hv : bz_oV v) (hV : vOK V) {x n : Int} (hn : n ≤ 1000) {Q : bz_M → Prop} : ∀ (k : Nat) (i : Int) (S : Nat → Int) (M : bz_M), sOK V S → S 0 + k ≤ 999 → cR V S 285 286 v M → 0 ≤ i → i + k = n → (∀ M', cR V (sRun V k S) 285 286 v M' → M' 293 = bRun V k S (M 293) → fA M M' → w_T (eFc_measureGains_73 Lg d x 0 M') Q) → w_T (eFc_measureGains_52 Lg d x n i M) Q
  | 0, i, S, M, hS, h9, hM, h0, h1, hQ => by
    refine T_le (eFc_measureGains_52_E (by omega)) ?_
    rw [if_neg (by omega)]
    exact hQ M hM rfl (fA_refl _)
  | k + 1, i, S, M, hS, h9, hM, h0, h1, hQ => by
    have s0 := hS.1
    refine T_le (eFc_measureGains_52_E (by omega)) ?_
    rw [if_pos (by omega), w32_id (by omega) (by omega)]
    refine T_seq (ri_passA (by omega) hv hV hS (by omega) hM) ?_
    rintro ⟨p1, p2⟩ ⟨a1, _, a3, a4, _⟩
    have hp := sPass_ok hV hS (by omega)
    dsimp only at a1 a3 a4 ⊢
    refine fc_ms2 hd hv hV hn k (i + 1) (sPass V S) p2 hp.1 (by rw [hp.2]; omega) a1 (by omega) (by omega) (fun M' b1 b2 b3 => hQ M' b1 (by rw [b2, a3]; rfl) (fA_trans a4 b3))
theorem fc_ms3 (hv : bz_oV v) (hV : vOK V) (hS : sOK V S) {n : Nat} (hn : S 0 + n ≤ 999) (hn3 : n ≤ 30) {x : Int} (hx : 0 ≤ x ∧ x < 32) {Q : bz_M → Prop} : ∀ (k : Nat) (l : Int) (M : bz_M), cR V S 131 148 v M → cR V (sRun V n (sSet V S x)) 285 286 v M → (∀ j, j < 5 → M 293 j = bRun V n (sSet V S x) z0 j) → 0 ≤ l → l + k = vL V → (∀ l', 0 ≤ l' → l' < l → M 281 (Int.toNat (5 * x + l')) = hav V S n x l') → (∀ M', (∀ l', 0 ≤ l' → l' < vL V → M' 281 (Int.toNat (5 * x + l')) = hav V S n x l') → (∀ j, j < Int.toNat (5 * x) → M' 281 j = M 281 j) → (∀ q, q ≠ 281 → M' q = M q) → Q M') → w_T (eFc_measureGains_73 Lg d x l M) Q
  | 0, l, M, hM, hA, h3, h0, h1, hd, hQ => by
    refine T_le (eFc_measureGains_73_E hv) ?_
    rw [if_pos hM.1, hM.2.1.1.2.2.2.1, if_neg (by omega)]
    exact T_some (hQ M (fun l' a b => hd l' a (by omega)) (fun _ _ => rfl) (fun _ _ => rfl))
  | k + 1, l, M, hM, hA, h3, h0, h1, hd, hQ => by
    have hL := hV.2.2.2.2.1
    have hvv := oV_c hv
    have hs := sSet_ok hV hS hx
    have hr := sRun_ok hV n (sSet V S x) hs.1 (by rw [hs.2.1 0 (by omega)]; omega)
    have e1 := (hM.2.1.2.2.1 l h0 (by omega)).2.2.2
    have e2 := (hM.2.2.2.2.2 l h0 (by omega)).2
    have e3 : M 291 l.toNat = sPu (sRun V n (sSet V S x)) l := (hA.2.2.2.2.2 l h0 (by omega)).2
    have e2' : M 153 l.toNat = sPu S l := e2
    have b1 := (hS.2.2.2.2 l h0 (by omega)).2
    have b2 := (hr.1.2.2.2.2 l h0 (by omega)).2
    have hb := hav_bd hV hS hn hn3 hx h0 (show l < vL V by omega)
    have wc : bz_w32 (bz_w32 (x * 5) + l) = 5 * x + l := by rw [w32_id (z := x * 5) (by omega) (by omega), w32_id (by omega) (by omega)]; omega
    refine T_le (eFc_measureGains_73_E hv) ?_
    rw [if_pos hM.1, hM.2.1.1.2.2.2.1, if_pos (by omega), if_pos (by omega), wc, if_pos (by omega), e1, e2', e3, h3 l.toNat (by omega), w32_id (z := l + 1) (by omega) (by omega), w32_id (z := vJo V l * _) (by omega) (by omega), w32_id (z := sPu S l - _) (by omega) (by omega), w32_id (by omega) (by omega)]
    have kf : ∀ q, q ≠ 281 → bz_up M 281 (5 * x + l).toNat (vJo V l * bRun V n (sSet V S x) z0 l.toNat - (sPu S l - sPu (sRun V n (sSet V S x)) l)) q = M q := fun q h => bz_up_fn h
    refine fc_ms3 hv hV hS hn hn3 hx k (l + 1) _ (cR_qC hv hM (qC_of (fun q hq => kf q (by omega)))) ?_ (by rw [kf 293 (by decide)]; exact h3) (by omega) (by omega) (fun l' a b => ?_) (fun M' a b c => hQ M' a (fun j hj => by rw [b j hj, bz_up_nk (by omega)]) (fun q hq => by rw [c q hq, kf q hq]))
    · exact ⟨(congrFun (kf 285 (by decide)) 0).trans hA.1, cV_co hA.2.1 (kf _ (by omega)) (kf _ (by omega)) (kf _ (by omega)) (kf _ (by omega)) (kf _ (by omega)) (kf _ (by omega)) (kf _ (by omega)) (kf _ (by omega)) (kf _ (by omega)) (kf _ (by omega)), cS_co hA.2.2 (kf _ (by omega)) (kf _ (by omega)) (kf _ (by omega)) (kf _ (by omega)) (kf _ (by omega)) (kf _ (by omega))⟩
    · rw [bz_up_rk]
      by_cases e : l' = l
      · rw [if_pos ⟨rfl, by rw [e]⟩, e]; rfl
      · rw [if_neg (fun h => e (by omega))]; exact hd l' a (by omega)
theorem fc_ms (hd : 4 < d) (hv : bz_oV v) (hV : vOK V) (hS : sOK V S) (hM : cR V S 131 148 v M) {n x X : Int} (hn0 : 0 ≤ n) (hn : S 0 + n ≤ 999) (hn3 : n ≤ 30) (hx : 0 ≤ x ∧ x < 32) (hX : hRow V S n.toNat (M 281) x) : w_T (eFc_measureGains Lg d x n M) (fun M' => hRow V S n.toNat (M' 281) (x + 1) ∧ qC M M') := by
  have hL := hV.2.2.2.2.1
  have hs := sSet_ok hV hS hx
  refine T_le (eFc_measureGains_E (by omega)) ?_
  refine T_seq (ri_follow (by omega) hv hM) ?_
  rintro M1 ⟨a1, _, a3, a4⟩
  have q1 : qC M M1 := qC_of (fun q hq => a4 q (by omega))
  have hM1 := cR_qC hv hM q1
  refine fc_ms1 hv hV hx (vL V).toNat 0 S M1 hM1.1 a1 (by omega) (by omega) (fun M2 b1 b2 => ?_)
  have q2 : qC M M2 := qC_trans q1 (qC_of (fun q hq => b2 q (by omega)))
  refine fc_ms2 hd hv hV (by omega) n.toNat 0 (sSet V S x) M2 hs.1 (by rw [hs.2.1 0 (by omega)]; omega) b1 (by omega) (by omega) (fun M3 c1 c2 c3 => ?_)
  have q3 : qC M M3 := qC_trans q2 (qC_fA c3)
  have e81 : M3 281 = M 281 := by rw [c3 281 (by decide), b2 281 (by decide), a4 281 (by decide)]
  refine fc_ms3 hv hV hS (by omega) (by omega) hx (vL V).toNat 0 M3 (cR_qC hv hM q3) c1 (fun j hj => ?_) (by omega) (by omega) (fun l' a b => by omega) (fun M4 d1 d2 d3 => ⟨?_, qC_trans q3 (qC_of (fun q hq => d3 q (by omega)))⟩)
  · rw [c2]
    exact bRun_co hV _ _ _ _ (fun i hi => by rw [b2 293 (by decide), a3 i hi]; rfl) j hj
  · intro x' l g0 g1 g2 g3
    by_cases e : x' = x
    · rw [e]; exact d1 l g2 g3
    · rw [d2 _ (by omega), e81]; exact hX x' l g0 (by omega) g2 g3
end RS

/-! SIM: image, pure and class -/
def cW (l : List Int) (M : bz_M) : Prop := ∀ i, i < l.length → M 299 i = bz_w8 (l.getD i 0)
def mW (l : List Int) (M : bz_M) : Prop := M 319 131 = (l.length : Int) ∧ ∀ i, i < l.length → M 411 i = l.getD i 0
def oO (l : List Int) : Prop := ∀ x ∈ l, 0 ≤ x ∧ x < 256
def w2 (l : List Int) (x : Int) : List Int := l ++ [x / 256 % 256] ++ [x % 256]
def imRows (S : Nat → Int) : Nat → Nat → List Int → List Int
  | 0, _, l => l
  | k + 1, c, l => imRows S k (c + 1) (l ++ [S (2 + c)])
def imCol (S : Nat → Int) (c : Nat) : Nat → Nat → List Int → List Int
  | 0, _, l => l
  | k + 1, r, l => imCol S c k (r + 1) (l ++ [S (12 + (8 * c + r))] ++ [S (92 + (8 * c + r))])
def imCells (S : Nat → Int) (R : Nat) : Nat → Nat → List Int → List Int
  | 0, _, l => l
  | k + 1, c, l => imCells S R k (c + 1) (imCol S c R 0 l)
def imLords (S : Nat → Int) : Nat → Nat → List Int → List Int
  | 0, _, l => l
  | k + 1, i, l => imLords S k (i + 1) (w2 (l ++ [S (172 + 2 * i)]) (S (173 + 2 * i)))
def ckL (l : List Int) : Int := l.foldl (fun c x => (3 * c + x) % 251) 179
def imB (S : Nat → Int) (C R L : Nat) : List Int := imLords S L 0 (imCells S R C 0 (imRows S C 0 (w2 (w2 [] (S 0) ++ [S 1 / 65536 % 256]) (S 1))))
def imL (S : Nat → Int) (C R L : Nat) : List Int := imB S C R L ++ [ckL (imB S C R L)]
def imO (S : Nat → Int) (C R L : Nat) : Prop := (C ≤ 10 ∧ R ≤ 8 ∧ L ≤ 5) ∧ (0 ≤ S 0 ∧ S 0 < 65536) ∧ (0 ≤ S 1 ∧ S 1 < 16777216) ∧ (∀ c, c < C → 0 ≤ S (2 + c) ∧ S (2 + c) < 256) ∧ (∀ c r, c < C → r < R → (0 ≤ S (12 + (8 * c + r)) ∧ S (12 + (8 * c + r)) < 256) ∧ (0 ≤ S (92 + (8 * c + r)) ∧ S (92 + (8 * c + r)) < 256)) ∧ ∀ i, i < L → (S (172 + 2 * i) = 0 ∨ S (172 + 2 * i) = 1) ∧ (0 ≤ S (173 + 2 * i) ∧ S (173 + 2 * i) < 65536)
section SY
variable {Lg d : Nat} {V M M' M1 M2 N1 N2 : bz_M} {S S' B P T : Nat → Int} {v u s j n C R L : Nat} {l : List Int}
theorem oO_app {x : Int} (h : oO l) (hx : 0 ≤ x ∧ x < 256) : oO (l ++ [x]) := fun y hy => by
  rcases List.mem_append.mp hy with e | e
  · exact h y e
  · rw [List.mem_singleton.mp e]; exact hx
theorem oO_w2 {x : Int} (h : oO l) : oO (w2 l x) := oO_app (oO_app h (by omega)) (by omega)
theorem imRows_l : ∀ (k c : Nat) (l : List Int), (imRows S k c l).length = l.length + k
  | 0, _, _ => rfl
  | k + 1, c, l => by
    show (imRows S k (c + 1) (l ++ [S (2 + c)])).length = _
    rw [imRows_l k, List.length_append, List.length_singleton]; omega
theorem imCol_l {c : Nat} : ∀ (k r : Nat) (l : List Int), (imCol S c k r l).length = l.length + 2 * k
  | 0, _, _ => rfl
  | k + 1, r, l => by
    show (imCol S c k (r + 1) _).length = _
    rw [imCol_l k, List.length_append, List.length_append, List.length_singleton, List.length_singleton]; omega
theorem imCells_l : ∀ (k c : Nat) (l : List Int), (imCells S R k c l).length = l.length + 2 * R * k
  | 0, _, _ => by simp [imCells]
  | k + 1, c, l => by
    show (imCells S R k (c + 1) _).length = _
    rw [imCells_l k, imCol_l, Nat.mul_succ]; omega
theorem w2_l {x : Int} : (w2 l x).length = l.length + 2 := by
  unfold w2
  rw [List.length_append, List.length_append, List.length_singleton, List.length_singleton]
theorem imLords_l : ∀ (k c : Nat) (l : List Int), (imLords S k c l).length = l.length + 3 * k
  | 0, _, _ => rfl
  | k + 1, c, l => by
    show (imLords S k (c + 1) _).length = _
    rw [imLords_l k, w2_l, List.length_append, List.length_singleton]; omega
theorem imH_l : (w2 (w2 [] (S 0) ++ [S 1 / 65536 % 256]) (S 1)).length = 5 := by
  rw [w2_l, List.length_append, w2_l]; rfl
theorem imB_l : (imB S C R L).length = 5 + C + 2 * R * C + 3 * L := by
  unfold imB
  rw [imLords_l, imCells_l, imRows_l, imH_l]
theorem ckL_app {x : Int} : ckL (l ++ [x]) = (3 * ckL l + x) % 251 := by
  unfold ckL
  rw [List.foldl_append]; rfl
theorem ckL_bd : 0 ≤ ckL l ∧ ckL l < 256 := by
  rcases List.eq_nil_or_concat l with rfl | ⟨l', x, rfl⟩
  · unfold ckL; decide
  · rw [List.concat_eq_append, ckL_app]; omega
theorem ush_8 {x : Int} {s : Nat} (h0 : 0 ≤ x) (h1 : x < 2147483648) (hs : s = 16 ∨ s = 8 ∨ s = 0) : bz_w8 (bz_w8 (bz_ushr x (s : Int))) = bz_w8 (x / 2 ^ s % 256) := by
  have e : (Int32.ofInt x).toBitVec.toNat = x.toNat := by
    show (BitVec.ofInt 32 x).toNat = _
    rw [BitVec.toNat_ofInt]; omega
  rw [by_u x s (by omega), bt_w8, BitVec.toNat_ushiftRight, e, Nat.shiftRight_eq_div_pow]
  have e2 : ((x.toNat / 2 ^ s % 256 : Nat) : Int) = x / 2 ^ s % 256 := by
    rcases hs with rfl | rfl | rfl
    · rw [show (2 : Nat) ^ 16 = 65536 from rfl, show (2 : Int) ^ 16 = 65536 from rfl]; omega
    · rw [show (2 : Nat) ^ 8 = 256 from rfl, show (2 : Int) ^ 8 = 256 from rfl]; omega
    · rw [show (2 : Nat) ^ 0 = 1 from rfl, show (2 : Int) ^ 0 = 1 from rfl]; omega
  rw [e2]
  unfold bz_w8
  exact Int.bmod_bmod
theorem gD_app {x : Int} {i : Nat} : (l ++ [x]).getD i 0 = if i < l.length then l.getD i 0 else if i = l.length then x else 0 := by
  simp only [List.getD_eq_getElem?_getD]
  by_cases c : i < l.length
  · rw [if_pos c, List.getElem?_append_left c]
  · rw [if_neg c, List.getElem?_append_right (by omega)]
    by_cases e : i = l.length
    · rw [if_pos e, e, Nat.sub_self]; rfl
    · rw [if_neg e, List.getElem?_eq_none (by rw [List.length_singleton]; omega)]; rfl
theorem cW_app {x y : Int} (h : cW l M) (hx : y = bz_w8 x) : cW (l ++ [x]) (bz_up M 299 l.length y) := fun i hi => by
  rw [List.length_append, List.length_singleton] at hi
  rw [gD_app]
  by_cases c : i < l.length
  · rw [if_pos c, bz_up_nk (by omega)]; exact h i c
  · rw [if_neg c, if_pos (by omega), show i = l.length by omega, bz_up_eq, hx]
/-- one octet of a number is written -/
theorem c_w {x : Int} {k m : Nat} (hl : l.length < 191) (hx : 0 ≤ x ∧ x < 2147483648) (hk : m < k ∧ k ≤ 3) (hm : m ≤ l.length) (h : cW l M) {Q : Int × bz_M → Prop} (hQ : cW (l ++ [x / 2 ^ (8 * (k - 1 - m)) % 256]) (bz_up M 299 l.length (bz_w8 (x / 2 ^ (8 * (k - 1 - m)) % 256))) → w_T (eSt_writeNumber_3 Lg d 299 ((l.length - m : Nat) : Int) (k : Int) x ((m + 1 : Nat) : Int) (bz_up M 299 l.length (bz_w8 (x / 2 ^ (8 * (k - 1 - m)) % 256)))) Q) : w_T (eSt_writeNumber_3 Lg d 299 ((l.length - m : Nat) : Int) (k : Int) x (m : Int) M) Q := by
  refine T_le (eSt_writeNumber_3_E (na := 191) rfl (by decide)) ?_
  have e : bz_w32 (8 * bz_w32 (bz_w32 ((k : Int) - 1) - (m : Int))) = ((8 * (k - 1 - m) : Nat) : Int) := by
    rw [w32_id (z := (k : Int) - 1) (by omega) (by omega), w32_id (z := (k : Int) - 1 - (m : Int)) (by omega) (by omega), w32_id (by omega) (by omega)]; omega
  rw [if_pos (by omega), w32_id (z := ((l.length - m : Nat) : Int) + (m : Int)) (by omega) (by omega), if_pos (by omega), if_pos (by omega), e, ush_8 hx.1 hx.2 (by omega), w32_id (z := (m : Int) + 1) (by omega) (by omega), show (((l.length - m : Nat) : Int) + (m : Int)).toNat = l.length by omega]
  exact hQ (cW_app h rfl)
theorem c_wE {a x : Int} {k : Nat} (ha : 0 ≤ a ∧ a ≤ 1000) (hk : k ≤ 3) : w_T (eSt_writeNumber_3 Lg d 299 a (k : Int) x (k : Int) M) (fun p => p = (a + (k : Int), M)) := by
  refine T_le (eSt_writeNumber_3_E (na := 191) rfl (by decide)) ?_
  rw [if_neg (by omega), w32_id (by omega) (by omega)]
  exact T_some rfl
theorem c_w1 {x : Int} (hl : l.length < 191) (hx : 0 ≤ x ∧ x < 256) (h : cW l M) : w_T (eSt_writeNumber Lg d 299 (l.length : Int) 1 x M) (fun p => p.1 = ((l ++ [x]).length : Int) ∧ cW (l ++ [x]) p.2 ∧ ∀ r, r ≠ 299 → p.2 r = M r) := by
  refine T_le eSt_writeNumber_E ?_
  refine c_w (k := 1) (m := 0) hl (by omega) (by omega) (by omega) h ?_
  intro h1
  have e : x / 2 ^ (8 * (1 - 1 - 0)) % 256 = x := by
    show x / 1 % 256 = x
    omega
  rw [e] at h1 ⊢
  refine T_mono (c_wE (k := 1) (by omega) (by omega)) ?_
  rintro p rfl
  refine ⟨?_, h1, fun r hr => bz_up_fn hr⟩
  rw [List.length_append, List.length_singleton]; rfl
theorem c_w2 {x : Int} (hl : l.length + 2 ≤ 191) (hx : 0 ≤ x ∧ x < 2147483648) (h : cW l M) : w_T (eSt_writeNumber Lg d 299 (l.length : Int) 2 x M) (fun p => p.1 = ((w2 l x).length : Int) ∧ cW (w2 l x) p.2 ∧ ∀ r, r ≠ 299 → p.2 r = M r) := by
  refine T_le eSt_writeNumber_E ?_
  refine c_w (k := 2) (m := 0) (by omega) hx (by omega) (by omega) h ?_
  intro h1
  rw [show x / 2 ^ (8 * (2 - 1 - 0)) % 256 = x / 256 % 256 from rfl] at h1 ⊢
  have el : (l ++ [x / 256 % 256]).length = l.length + 1 := by rw [List.length_append, List.length_singleton]
  have ep : ((l.length - 0 : Nat) : Int) = (((l ++ [x / 256 % 256]).length - 1 : Nat) : Int) := by omega
  rw [ep]
  refine c_w (k := 2) (m := 1) (by omega) hx (by omega) (by omega) h1 ?_
  intro h2
  have e : x / 2 ^ (8 * (2 - 1 - 1)) % 256 = x % 256 := by
    show x / 1 % 256 = _
    omega
  rw [e] at h2 ⊢
  refine T_mono (c_wE (k := 2) (by omega) (by omega)) ?_
  rintro p rfl
  refine ⟨?_, h2, fun r hr => by dsimp only; rw [bz_up_fn hr, bz_up_fn hr]⟩
  rw [w2_l]
  dsimp only
  omega
theorem c_w3 {x : Int} (hl : l.length + 3 ≤ 191) (hx : 0 ≤ x ∧ x < 2147483648) (h : cW l M) : w_T (eSt_writeNumber Lg d 299 (l.length : Int) 3 x M) (fun p => p.1 = ((w2 (l ++ [x / 65536 % 256]) x).length : Int) ∧ cW (w2 (l ++ [x / 65536 % 256]) x) p.2 ∧ ∀ r, r ≠ 299 → p.2 r = M r) := by
  refine T_le eSt_writeNumber_E ?_
  refine c_w (k := 3) (m := 0) (by omega) hx (by omega) (by omega) h ?_
  intro h1
  rw [show x / 2 ^ (8 * (3 - 1 - 0)) % 256 = x / 65536 % 256 from rfl] at h1 ⊢
  have el : (l ++ [x / 65536 % 256]).length = l.length + 1 := by rw [List.length_append, List.length_singleton]
  have ep : ((l.length - 0 : Nat) : Int) = (((l ++ [x / 65536 % 256]).length - 1 : Nat) : Int) := by omega
  rw [ep]
  refine c_w (k := 3) (m := 1) (by omega) hx (by omega) (by omega) h1 ?_
  intro h2
  rw [show x / 2 ^ (8 * (3 - 1 - 1)) % 256 = x / 256 % 256 from rfl] at h2 ⊢
  have el2 : (l ++ [x / 65536 % 256] ++ [x / 256 % 256]).length = l.length + 2 := by rw [List.length_append, el, List.length_singleton]
  have ep2 : (((l ++ [x / 65536 % 256]).length - 1 : Nat) : Int) = (((l ++ [x / 65536 % 256] ++ [x / 256 % 256]).length - 2 : Nat) : Int) := by omega
  rw [ep2]
  refine c_w (k := 3) (m := 2) (by omega) hx (by omega) (by omega) h2 ?_
  intro h3
  have e : x / 2 ^ (8 * (3 - 1 - 2)) % 256 = x % 256 := by
    show x / 1 % 256 = _
    omega
  rw [e] at h3 ⊢
  refine T_mono (c_wE (k := 3) (by omega) (by omega)) ?_
  rintro p rfl
  refine ⟨?_, h3, fun r hr => by dsimp only; rw [bz_up_fn hr, bz_up_fn hr, bz_up_fn hr]⟩
  rw [w2_l, el]
  dsimp only
  omega
end SY

/-! WHOLE NUMBERS AND THE MACHINE'S -/
def bz_in32 (x : Int) : Prop := -2147483648 ≤ x ∧ x < 2147483648
def bz_in64 (x : Int) : Prop := -9223372036854775808 ≤ x ∧ x < 9223372036854775808
theorem bz_w32_in (z : Int) : bz_in32 (bz_w32 z) := by
  unfold bz_in32 bz_w32 Int.bmod
  dsimp only
  split <;> omega
theorem bz_w64_in (z : Int) : bz_in64 (bz_w64 z) := by
  unfold bz_in64 bz_w64 Int.bmod
  dsimp only
  split <;> omega
theorem bz_w8_rg (z : Int) : -128 ≤ bz_w8 z ∧ bz_w8 z < 128 := by
  unfold bz_w8 Int.bmod
  dsimp only
  split <;> omega
theorem bz_w32_id {z : Int} (h1 : -2147483648 ≤ z) (h2 : z < 2147483648) : bz_w32 z = z := by
  unfold bz_w32 Int.bmod
  dsimp only
  split <;> omega
theorem bz_w64_id {z : Int} (h1 : -9223372036854775808 ≤ z) (h2 : z < 9223372036854775808) : bz_w64 z = z := by
  unfold bz_w64 Int.bmod
  dsimp only
  split <;> omega
theorem bz_w8_id {z : Int} (h1 : -128 ≤ z) (h2 : z < 128) : bz_w8 z = z := by
  unfold bz_w8 Int.bmod
  dsimp only
  split <;> omega
theorem bz_oi {x : Int} (h : bz_in32 x) : (Int32.ofInt x).toInt = x := Int32.toInt_ofInt_of_le (by have := h.1; omega) (by have := h.2; omega)
theorem bz_ol {x : Int} (h : bz_in64 x) : (Int64.ofInt x).toInt = x := Int64.toInt_ofInt_of_le (by have := h.1; omega) (by have := h.2; omega)
theorem bz_oinj {x y : Int} (hx : bz_in32 x) (hy : bz_in32 y) : Int32.ofInt x = Int32.ofInt y ↔ x = y := by
  rw [← Int32.toInt_inj, bz_oi hx, bz_oi hy]
theorem bz_olt {x y : Int} (hx : bz_in32 x) (hy : bz_in32 y) : Int32.ofInt x < Int32.ofInt y ↔ x < y := by
  rw [Int32.lt_iff_toInt_lt, bz_oi hx, bz_oi hy]
theorem bz_ole {x y : Int} (hx : bz_in32 x) (hy : bz_in32 y) : Int32.ofInt x ≤ Int32.ofInt y ↔ x ≤ y := by
  rw [Int32.le_iff_toInt_le, bz_oi hx, bz_oi hy]
theorem bz_linj {x y : Int} (hx : bz_in64 x) (hy : bz_in64 y) : Int64.ofInt x = Int64.ofInt y ↔ x = y := by
  rw [← Int64.toInt_inj, bz_ol hx, bz_ol hy]
theorem bz_llt {x y : Int} (hx : bz_in64 x) (hy : bz_in64 y) : Int64.ofInt x < Int64.ofInt y ↔ x < y := by
  rw [Int64.lt_iff_toInt_lt, bz_ol hx, bz_ol hy]
theorem bz_i0 : bz_in32 0 := by unfold bz_in32; omega
theorem bz_ow (z : Int) : Int32.ofInt (bz_w32 z) = Int32.ofInt z := by
  rw [← Int32.toInt_inj, bz_oi (bz_w32_in z), Int32.toInt_ofInt]; rfl
theorem bz_olw (z : Int) : Int64.ofInt (bz_w64 z) = Int64.ofInt z := by
  rw [← Int64.toInt_inj, bz_ol (bz_w64_in z), Int64.toInt_ofInt]; rfl
theorem bz_o_add (a b : Int) : Int32.ofInt (bz_w32 (a + b)) = Int32.ofInt a + Int32.ofInt b := by rw [bz_ow, Int32.ofInt_add]
theorem bz_o_sub (a b : Int) : Int32.ofInt (bz_w32 (a - b)) = Int32.ofInt a - Int32.ofInt b := by rw [bz_ow, Int32.ofInt_sub]
theorem bz_o_mul (a b : Int) : Int32.ofInt (bz_w32 (a * b)) = Int32.ofInt a * Int32.ofInt b := by rw [bz_ow, Int32.ofInt_mul]
theorem bz_o_neg (a : Int) : Int32.ofInt (bz_w32 (-a)) = -Int32.ofInt a := by rw [bz_ow, Int32.ofInt_neg]
theorem bz_l_add (a b : Int) : Int64.ofInt (bz_w64 (a + b)) = Int64.ofInt a + Int64.ofInt b := by rw [bz_olw, Int64.ofInt_add]
theorem bz_l_sub (a b : Int) : Int64.ofInt (bz_w64 (a - b)) = Int64.ofInt a - Int64.ofInt b := by rw [bz_olw, Int64.ofInt_sub]
theorem bz_l_mul (a b : Int) : Int64.ofInt (bz_w64 (a * b)) = Int64.ofInt a * Int64.ofInt b := by rw [bz_olw, Int64.ofInt_mul]
theorem bz_o_div {a b : Int} (ha : bz_in32 a) (hb : bz_in32 b) : Int32.ofInt (bz_w32 (a.tdiv b)) = Int32.ofInt a / Int32.ofInt b := by
  rw [← Int32.toInt_inj, Int32.toInt_div, bz_oi (bz_w32_in _), bz_oi ha, bz_oi hb]; rfl
theorem bz_l_div {a b : Int} (ha : bz_in64 a) (hb : bz_in64 b) : Int64.ofInt (bz_w64 (a.tdiv b)) = Int64.ofInt a / Int64.ofInt b := by
  rw [← Int64.toInt_inj, Int64.toInt_div, bz_ol (bz_w64_in _), bz_ol ha, bz_ol hb]; rfl
theorem bz_tm (a b : Int) : a - a.tdiv b * b = a.tmod b := by have := Int.tmod_def a b; rw [Int.mul_comm] at this; omega
theorem bz_o_rem {a b : Int} (ha : bz_in32 a) (hb : bz_in32 b) : Int32.ofInt (a.tmod b) = Int32.ofInt a - Int32.ofInt a / Int32.ofInt b * Int32.ofInt b := by
  rw [← bz_o_div ha hb, bz_ow, ← Int32.ofInt_mul, ← Int32.ofInt_sub, bz_tm]
theorem bz_l_rem {a b : Int} (ha : bz_in64 a) (hb : bz_in64 b) : Int64.ofInt (a.tmod b) = Int64.ofInt a - Int64.ofInt a / Int64.ofInt b * Int64.ofInt b := by
  rw [← bz_l_div ha hb, bz_olw, ← Int64.ofInt_mul, ← Int64.ofInt_sub, bz_tm]
theorem bz_tm_in {a b l u : Int} (ha : l ≤ a ∧ a < u) (hl : l < 0) (hu : 0 < u) : l ≤ a.tmod b ∧ a.tmod b < u := by
  rcases Int.lt_or_le a 0 with h | h
  · have e : a.tmod b = -((-a).tmod b) := by rw [Int.neg_tmod]; omega
    have h1 := Int.tmod_nonneg b (show 0 ≤ -a by omega)
    have h2 : (-a).tmod b ≤ -a := by
      rw [← bz_tm]
      have h3 : 0 ≤ (-a).tdiv b * b := by
        rcases Int.lt_or_le b 0 with hb | hb
        · have h4 : (-a).tdiv b ≤ 0 := Int.tdiv_nonpos_of_nonneg_of_nonpos (by omega) (by omega)
          exact Int.mul_nonneg_of_nonpos_of_nonpos h4 (by omega)
        · exact Int.mul_nonneg (Int.tdiv_nonneg (by omega) hb) hb
      omega
    omega
  · have h1 := Int.tmod_nonneg b h
    have h2 : a.tmod b ≤ a := by
      rw [← bz_tm]
      have h3 : 0 ≤ a.tdiv b * b := by
        rcases Int.lt_or_le b 0 with hb | hb
        · have h4 : a.tdiv b ≤ 0 := Int.tdiv_nonpos_of_nonneg_of_nonpos (by omega) (by omega)
          exact Int.mul_nonneg_of_nonpos_of_nonpos h4 (by omega)
        · exact Int.mul_nonneg (Int.tdiv_nonneg (by omega) hb) hb
      omega
    omega
theorem bz_I32 (x : Int32) : bz_in32 x.toInt := by
  have h1 := x.le_toInt
  have h2 := x.toInt_lt
  unfold bz_in32
  omega
theorem bz_I64 (x : Int64) : bz_in64 x.toInt := by
  have h1 := x.le_toInt
  have h2 := x.toInt_lt
  unfold bz_in64
  omega
theorem bz_o_i2l {a : Int} (ha : bz_in32 a) : (Int32.ofInt a).toInt64 = Int64.ofInt a := by
  have h64 : bz_in64 a := by have := ha.1; have := ha.2; unfold bz_in64; omega
  rw [← Int64.toInt_inj, Int32.toInt_toInt64, bz_oi ha, bz_ol h64]
theorem bz_o_l2i (a : Int) : (Int64.ofInt a).toInt32 = Int32.ofInt (bz_w32 a) := by rw [Int64.toInt32_ofInt, bz_ow]
theorem bz_o_i2b {a : Int} (ha : bz_in32 a) : (Int32.ofInt a).toInt8.toInt32 = Int32.ofInt (bz_w8 a) := by
  have h := bz_w8_rg a
  have h32 : bz_in32 (bz_w8 a) := by unfold bz_in32; omega
  rw [← Int32.toInt_inj, Int8.toInt_toInt32, Int32.toInt_toInt8, bz_oi ha, bz_oi h32]; rfl
theorem bz_in_arr {j : Int} {n : Nat} (hj : bz_in32 j) (h0 : 0 ≤ j) (h1 : j < (n : Int)) : vp_in (Int32.ofInt j) n ∧ (Int32.ofInt j).toNatClampNeg = j.toNat := by
  refine ⟨vp_in_iff.mpr (by rw [bz_oi hj]; exact ⟨h0, h1⟩), ?_⟩
  exact Int32.toNatClampNeg_ofInt_of_le (by have := hj.1; omega) (by have := hj.2; omega)
theorem bz_o_nat {n : Nat} : Int32.ofInt (n : Int) = Int32.ofNat n := rfl
theorem bz_lg_cmp {a b : Int} (ha : bz_in64 a) (hb : bz_in64 b) : lg_cmp (Int64.ofInt a) (Int64.ofInt b) = Int32.ofInt (bz_lcmp a b) := by
  unfold lg_cmp bz_lcmp
  by_cases h1 : b < a
  · rw [if_pos ((bz_llt hb ha).mpr h1), if_neg (by omega), if_neg (by omega)]; rfl
  · rw [if_neg (fun h => h1 ((bz_llt hb ha).mp h))]
    by_cases h2 : a = b
    · rw [if_pos (by rw [h2]), if_neg (by omega), if_pos h2]; rfl
    · rw [if_neg (fun h => h2 ((bz_linj ha hb).mp h)), if_pos (by omega)]; rfl
theorem bz_i2c {a : Int} (ha : bz_in32 a) : ((Int32.ofInt a).toUInt32 % 65536).toInt32 = Int32.ofInt (a % 65536) := by
  have e := pk_char (Int32.ofInt a)
  rw [e]
  unfold nI
  rw [← bz_o_nat]
  congr 1
  have h1 : ((Int32.ofInt a).toBitVec.toNat : Int) = a % 4294967296 := by
    have h2 : (Int32.ofInt a).toBitVec = BitVec.ofInt 32 a := rfl
    rw [h2, BitVec.toNat_ofInt]
    have := Int.emod_nonneg a (show (4294967296 : Int) ≠ 0 by decide)
    show (((a % ((2 ^ 32 : Nat) : Int)).toNat : Nat) : Int) = _
    rw [Int.toNat_of_nonneg (by show 0 ≤ a % ((4294967296 : Nat) : Int); exact this)]
    rfl
  omega

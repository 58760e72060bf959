/-! BITS: the octets of a word -/
section BT
theorem bt_8 (B : BitVec 32) (s : Nat) (hs : s ≤ 24) : (B >>> s).setWidth 8 = (B.sshiftRight s).setWidth 8 := by
  apply BitVec.eq_of_getLsbD_eq
  intro i hi
  rw [BitVec.getLsbD_setWidth, BitVec.getLsbD_setWidth, BitVec.getLsbD_ushiftRight, BitVec.getLsbD_sshiftRight, if_pos (by omega)]
  rw [decide_eq_false (show ¬ 32 ≤ i by omega)]
  rfl
theorem bt_m8 (B : BitVec 32) (s : Nat) (hs : s ≤ 24) : (B >>> s).toNat % 256 = (B.sshiftRight s).toNat % 256 := by
  have := congrArg BitVec.toNat (bt_8 B s hs)
  rw [BitVec.toNat_setWidth, BitVec.toNat_setWidth] at this
  exact this
theorem bt_and (C : BitVec 32) : (C &&& 255#32).toNat = C.toNat % 256 := by
  rw [BitVec.toNat_and]
  exact Nat.and_two_pow_sub_one_eq_mod C.toNat 8
theorem bt_w8 (C : BitVec 32) : bz_w8 C.toInt = bz_w8 ((C.toNat % 256 : Nat) : Int) := by
  unfold bz_w8
  have h : C.toInt % 256 = ((C.toNat % 256 : Nat) : Int) % 256 := by
    rw [BitVec.toInt_eq_toNat_cond]
    split <;> omega
  rw [← Int.emod_bmod, show ((256 : Nat) : Int) = 256 from rfl, h]
  exact Int.emod_bmod _ _
theorem by_u (x : Int) (s : Nat) (hs : s = 24 ∨ s = 16 ∨ s = 8 ∨ s = 0) : bz_ushr x (s : Int) = ((Int32.ofInt x).toBitVec >>> s).toInt := by
  have h : (((Int32.ofInt (s : Int)).toUInt32 &&& Int32.toUInt32 31).toBitVec % 32).toNat = s := by
    rcases hs with rfl | rfl | rfl | rfl <;> decide
  unfold bz_ushr
  show ((Int32.ofInt x).toUInt32 >>> ((Int32.ofInt (s : Int)).toUInt32 &&& Int32.toUInt32 31)).toBitVec.toInt = _
  rw [UInt32.toBitVec_shiftRight]
  show ((Int32.ofInt x).toBitVec >>> (((Int32.ofInt (s : Int)).toUInt32 &&& Int32.toUInt32 31).toBitVec % 32).toNat).toInt = _
  rw [h]
theorem by_s (x : Int) (s : Nat) (hs : s = 24 ∨ s = 16 ∨ s = 8 ∨ s = 0) : bz_and (bz_shr x (s : Int)) 255 = (((Int32.ofInt x).toBitVec.sshiftRight s).toNat % 256 : Nat) := by
  have h : ((Int32.ofInt (s : Int) &&& 31).toBitVec.smod 32).toNat = s := by
    rcases hs with rfl | rfl | rfl | rfl <;> decide
  have e : (Int32.ofInt x >>> (Int32.ofInt (s : Int) &&& 31)).toBitVec = (Int32.ofInt x).toBitVec.sshiftRight s := by
    rw [Int32.toBitVec_shiftRight]
    show (Int32.ofInt x).toBitVec.sshiftRight ((Int32.ofInt (s : Int) &&& 31).toBitVec.smod 32).toNat = _
    rw [h]
  unfold bz_and bz_shr
  rw [Int32.ofInt_toInt]
  show ((Int32.ofInt x >>> (Int32.ofInt (s : Int) &&& 31)) &&& Int32.ofInt 255).toBitVec.toInt = _
  rw [Int32.toBitVec_and, e]
  show ((Int32.ofInt x).toBitVec.sshiftRight s &&& 255#32).toInt = _
  rw [BitVec.toInt_eq_toNat_cond, bt_and, if_pos (by omega)]
/-- the octet that both take -/
theorem by_8 (x : Int) (s : Nat) (hs : s = 24 ∨ s = 16 ∨ s = 8 ∨ s = 0) : bz_w8 (bz_w8 (bz_ushr x (s : Int))) = bz_w8 (bz_and (bz_shr x (s : Int)) 255) ∧ 0 ≤ bz_and (bz_shr x (s : Int)) 255 ∧ bz_and (bz_shr x (s : Int)) 255 < 256 := by
  rw [by_s x s hs, by_u x s hs, bt_w8, bt_m8 _ _ (by omega)]
  refine ⟨?_, by omega, by omega⟩
  unfold bz_w8
  exact Int.bmod_bmod
end BT

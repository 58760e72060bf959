/-! DECODING: an instruction's bytes say what it is -/
def bz_by (code : ByteArray) (j : Nat) : Option Nat := (code.data.toList[j]?).map (fun b => b.toNat)
theorem bz_by_at {code : ByteArray} {j b : Nat} (h : bz_by code j = some b) : ∃ h : j < code.size, code[j].toNat = b := by
  unfold bz_by at h
  cases hj : code.data.toList[j]? with
  | none => rw [hj] at h; cases h
  | some z =>
    rw [hj] at h
    obtain ⟨h1, h2⟩ := List.getElem?_eq_some_iff.mp hj
    have h3 : j < code.size := by simpa using h1
    refine ⟨h3, ?_⟩
    have h4 : code[j] = z := by
      rw [← h2]
      rfl
    rw [h4]
    exact Option.some.inj h
theorem bz_u1 {code : ByteArray} {pc : Nat} {b : Nat} (hb : bz_by code pc = some b) : (Reader.u1 : Decoder Nat) code pc = .ok (b, pc + 1) := by
  obtain ⟨h, rfl⟩ := bz_by_at hb
  show ((dite (pc < code.size) (fun h => ((Bind.bind (MonadStateOf.set (pc + 1)) (fun _ => Pure.pure code[pc].toNat) : Decoder Nat))) (fun _ => (throw (HasTruncated.truncated pc) : Decoder Nat))) code pc) = _
  rw [dif_pos h]
  rfl
theorem bz_u2 {code : ByteArray} {pc x y : Nat} (h1 : bz_by code pc = some x) (h2 : bz_by code (pc + 1) = some y) : (Reader.u2 : Decoder Nat) code pc = .ok (x * 256 + y, pc + 2) := by
  show Except.bind ((Reader.u1 : Decoder Nat) code pc) (fun r => Except.bind ((Reader.u1 : Decoder Nat) code r.2) (fun r2 => Except.ok (r.1 * 256 + r2.1, r2.2))) = _
  rw [bz_u1 h1]
  dsimp only [Except.bind]
  rw [bz_u1 h2]
theorem bz_s1 {code : ByteArray} {pc x : Nat} (h1 : bz_by code pc = some x) : (Reader.s1 : Decoder Int) code pc = .ok (Reader.signed 8 x, pc + 1) := by
  show Except.bind ((Reader.u1 : Decoder Nat) code pc) (fun r => Except.ok (Reader.signed 8 r.1, r.2)) = _
  rw [bz_u1 h1]
  rfl
theorem bz_s2 {code : ByteArray} {pc x y : Nat} (h1 : bz_by code pc = some x) (h2 : bz_by code (pc + 1) = some y) : (Reader.s2 : Decoder Int) code pc = .ok (Reader.signed 16 (x * 256 + y), pc + 2) := by
  show Except.bind ((Reader.u2 : Decoder Nat) code pc) (fun r => Except.ok (Reader.signed 16 r.1, r.2)) = _
  rw [bz_u2 h1 h2]
  rfl
theorem bz_sg8 {n : Int} (h : -128 ≤ n ∧ n < 128) : Reader.signed 8 (n % 256).toNat = n := by
  unfold Reader.signed
  split <;> rename_i h1 <;> simp at h1 ⊢ <;> omega
theorem bz_sg16 {n : Int} (h : -32768 ≤ n ∧ n < 32768) : Reader.signed 16 ((n % 65536).toNat / 256 * 256 + (n % 65536).toNat % 256) = n := by
  have e : (n % 65536).toNat / 256 * 256 + (n % 65536).toNat % 256 = (n % 65536).toNat := by omega
  rw [e]
  unfold Reader.signed
  split <;> rename_i h1 <;> simp at h1 ⊢ <;> omega
theorem bz_d_aconst_null {code : ByteArray} {pc : Nat} (hb : bz_by code pc = some 1) : decode code pc = .ok (.aconst_null, 1) := by
  show Except.bind (Except.bind ((Reader.u1 : Decoder Nat) code pc) (fun r => _)) (fun r => _) = _
  rw [bz_u1 hb]
  show Except.ok ((.aconst_null : Instr), pc + 1 - pc) = _
  rw [Nat.add_sub_cancel_left]
theorem bz_d_iaload {code : ByteArray} {pc : Nat} (hb : bz_by code pc = some 46) : decode code pc = .ok (.iaload, 1) := by
  show Except.bind (Except.bind ((Reader.u1 : Decoder Nat) code pc) (fun r => _)) (fun r => _) = _
  rw [bz_u1 hb]
  show Except.ok ((.iaload : Instr), pc + 1 - pc) = _
  rw [Nat.add_sub_cancel_left]
theorem bz_d_laload {code : ByteArray} {pc : Nat} (hb : bz_by code pc = some 47) : decode code pc = .ok (.laload, 1) := by
  show Except.bind (Except.bind ((Reader.u1 : Decoder Nat) code pc) (fun r => _)) (fun r => _) = _
  rw [bz_u1 hb]
  show Except.ok ((.laload : Instr), pc + 1 - pc) = _
  rw [Nat.add_sub_cancel_left]
theorem bz_d_aaload {code : ByteArray} {pc : Nat} (hb : bz_by code pc = some 50) : decode code pc = .ok (.aaload, 1) := by
  show Except.bind (Except.bind ((Reader.u1 : Decoder Nat) code pc) (fun r => _)) (fun r => _) = _
  rw [bz_u1 hb]
  show Except.ok ((.aaload : Instr), pc + 1 - pc) = _
  rw [Nat.add_sub_cancel_left]
theorem bz_d_baload {code : ByteArray} {pc : Nat} (hb : bz_by code pc = some 51) : decode code pc = .ok (.baload, 1) := by
  show Except.bind (Except.bind ((Reader.u1 : Decoder Nat) code pc) (fun r => _)) (fun r => _) = _
  rw [bz_u1 hb]
  show Except.ok ((.baload : Instr), pc + 1 - pc) = _
  rw [Nat.add_sub_cancel_left]
theorem bz_d_caload {code : ByteArray} {pc : Nat} (hb : bz_by code pc = some 52) : decode code pc = .ok (.caload, 1) := by
  show Except.bind (Except.bind ((Reader.u1 : Decoder Nat) code pc) (fun r => _)) (fun r => _) = _
  rw [bz_u1 hb]
  show Except.ok ((.caload : Instr), pc + 1 - pc) = _
  rw [Nat.add_sub_cancel_left]
theorem bz_d_iastore {code : ByteArray} {pc : Nat} (hb : bz_by code pc = some 79) : decode code pc = .ok (.iastore, 1) := by
  show Except.bind (Except.bind ((Reader.u1 : Decoder Nat) code pc) (fun r => _)) (fun r => _) = _
  rw [bz_u1 hb]
  show Except.ok ((.iastore : Instr), pc + 1 - pc) = _
  rw [Nat.add_sub_cancel_left]
theorem bz_d_lastore {code : ByteArray} {pc : Nat} (hb : bz_by code pc = some 80) : decode code pc = .ok (.lastore, 1) := by
  show Except.bind (Except.bind ((Reader.u1 : Decoder Nat) code pc) (fun r => _)) (fun r => _) = _
  rw [bz_u1 hb]
  show Except.ok ((.lastore : Instr), pc + 1 - pc) = _
  rw [Nat.add_sub_cancel_left]
theorem bz_d_aastore {code : ByteArray} {pc : Nat} (hb : bz_by code pc = some 83) : decode code pc = .ok (.aastore, 1) := by
  show Except.bind (Except.bind ((Reader.u1 : Decoder Nat) code pc) (fun r => _)) (fun r => _) = _
  rw [bz_u1 hb]
  show Except.ok ((.aastore : Instr), pc + 1 - pc) = _
  rw [Nat.add_sub_cancel_left]
theorem bz_d_bastore {code : ByteArray} {pc : Nat} (hb : bz_by code pc = some 84) : decode code pc = .ok (.bastore, 1) := by
  show Except.bind (Except.bind ((Reader.u1 : Decoder Nat) code pc) (fun r => _)) (fun r => _) = _
  rw [bz_u1 hb]
  show Except.ok ((.bastore : Instr), pc + 1 - pc) = _
  rw [Nat.add_sub_cancel_left]
theorem bz_d_castore {code : ByteArray} {pc : Nat} (hb : bz_by code pc = some 85) : decode code pc = .ok (.castore, 1) := by
  show Except.bind (Except.bind ((Reader.u1 : Decoder Nat) code pc) (fun r => _)) (fun r => _) = _
  rw [bz_u1 hb]
  show Except.ok ((.castore : Instr), pc + 1 - pc) = _
  rw [Nat.add_sub_cancel_left]
theorem bz_d_pop {code : ByteArray} {pc : Nat} (hb : bz_by code pc = some 87) : decode code pc = .ok (.pop, 1) := by
  show Except.bind (Except.bind ((Reader.u1 : Decoder Nat) code pc) (fun r => _)) (fun r => _) = _
  rw [bz_u1 hb]
  show Except.ok ((.pop : Instr), pc + 1 - pc) = _
  rw [Nat.add_sub_cancel_left]
theorem bz_d_dup {code : ByteArray} {pc : Nat} (hb : bz_by code pc = some 89) : decode code pc = .ok (.dup, 1) := by
  show Except.bind (Except.bind ((Reader.u1 : Decoder Nat) code pc) (fun r => _)) (fun r => _) = _
  rw [bz_u1 hb]
  show Except.ok ((.dup : Instr), pc + 1 - pc) = _
  rw [Nat.add_sub_cancel_left]
theorem bz_d_dup2 {code : ByteArray} {pc : Nat} (hb : bz_by code pc = some 92) : decode code pc = .ok (.dup2, 1) := by
  show Except.bind (Except.bind ((Reader.u1 : Decoder Nat) code pc) (fun r => _)) (fun r => _) = _
  rw [bz_u1 hb]
  show Except.ok ((.dup2 : Instr), pc + 1 - pc) = _
  rw [Nat.add_sub_cancel_left]
theorem bz_d_iadd {code : ByteArray} {pc : Nat} (hb : bz_by code pc = some 96) : decode code pc = .ok (.iadd, 1) := by
  show Except.bind (Except.bind ((Reader.u1 : Decoder Nat) code pc) (fun r => _)) (fun r => _) = _
  rw [bz_u1 hb]
  show Except.ok ((.iadd : Instr), pc + 1 - pc) = _
  rw [Nat.add_sub_cancel_left]
theorem bz_d_ladd {code : ByteArray} {pc : Nat} (hb : bz_by code pc = some 97) : decode code pc = .ok (.ladd, 1) := by
  show Except.bind (Except.bind ((Reader.u1 : Decoder Nat) code pc) (fun r => _)) (fun r => _) = _
  rw [bz_u1 hb]
  show Except.ok ((.ladd : Instr), pc + 1 - pc) = _
  rw [Nat.add_sub_cancel_left]
theorem bz_d_isub {code : ByteArray} {pc : Nat} (hb : bz_by code pc = some 100) : decode code pc = .ok (.isub, 1) := by
  show Except.bind (Except.bind ((Reader.u1 : Decoder Nat) code pc) (fun r => _)) (fun r => _) = _
  rw [bz_u1 hb]
  show Except.ok ((.isub : Instr), pc + 1 - pc) = _
  rw [Nat.add_sub_cancel_left]
theorem bz_d_lsub {code : ByteArray} {pc : Nat} (hb : bz_by code pc = some 101) : decode code pc = .ok (.lsub, 1) := by
  show Except.bind (Except.bind ((Reader.u1 : Decoder Nat) code pc) (fun r => _)) (fun r => _) = _
  rw [bz_u1 hb]
  show Except.ok ((.lsub : Instr), pc + 1 - pc) = _
  rw [Nat.add_sub_cancel_left]
theorem bz_d_imul {code : ByteArray} {pc : Nat} (hb : bz_by code pc = some 104) : decode code pc = .ok (.imul, 1) := by
  show Except.bind (Except.bind ((Reader.u1 : Decoder Nat) code pc) (fun r => _)) (fun r => _) = _
  rw [bz_u1 hb]
  show Except.ok ((.imul : Instr), pc + 1 - pc) = _
  rw [Nat.add_sub_cancel_left]
theorem bz_d_lmul {code : ByteArray} {pc : Nat} (hb : bz_by code pc = some 105) : decode code pc = .ok (.lmul, 1) := by
  show Except.bind (Except.bind ((Reader.u1 : Decoder Nat) code pc) (fun r => _)) (fun r => _) = _
  rw [bz_u1 hb]
  show Except.ok ((.lmul : Instr), pc + 1 - pc) = _
  rw [Nat.add_sub_cancel_left]
theorem bz_d_idiv {code : ByteArray} {pc : Nat} (hb : bz_by code pc = some 108) : decode code pc = .ok (.idiv, 1) := by
  show Except.bind (Except.bind ((Reader.u1 : Decoder Nat) code pc) (fun r => _)) (fun r => _) = _
  rw [bz_u1 hb]
  show Except.ok ((.idiv : Instr), pc + 1 - pc) = _
  rw [Nat.add_sub_cancel_left]
theorem bz_d_ldiv {code : ByteArray} {pc : Nat} (hb : bz_by code pc = some 109) : decode code pc = .ok (.ldiv, 1) := by
  show Except.bind (Except.bind ((Reader.u1 : Decoder Nat) code pc) (fun r => _)) (fun r => _) = _
  rw [bz_u1 hb]
  show Except.ok ((.ldiv : Instr), pc + 1 - pc) = _
  rw [Nat.add_sub_cancel_left]
theorem bz_d_irem {code : ByteArray} {pc : Nat} (hb : bz_by code pc = some 112) : decode code pc = .ok (.irem, 1) := by
  show Except.bind (Except.bind ((Reader.u1 : Decoder Nat) code pc) (fun r => _)) (fun r => _) = _
  rw [bz_u1 hb]
  show Except.ok ((.irem : Instr), pc + 1 - pc) = _
  rw [Nat.add_sub_cancel_left]
theorem bz_d_lrem {code : ByteArray} {pc : Nat} (hb : bz_by code pc = some 113) : decode code pc = .ok (.lrem, 1) := by
  show Except.bind (Except.bind ((Reader.u1 : Decoder Nat) code pc) (fun r => _)) (fun r => _) = _
  rw [bz_u1 hb]
  show Except.ok ((.lrem : Instr), pc + 1 - pc) = _
  rw [Nat.add_sub_cancel_left]
theorem bz_d_ineg {code : ByteArray} {pc : Nat} (hb : bz_by code pc = some 116) : decode code pc = .ok (.ineg, 1) := by
  show Except.bind (Except.bind ((Reader.u1 : Decoder Nat) code pc) (fun r => _)) (fun r => _) = _
  rw [bz_u1 hb]
  show Except.ok ((.ineg : Instr), pc + 1 - pc) = _
  rw [Nat.add_sub_cancel_left]
theorem bz_d_ishl {code : ByteArray} {pc : Nat} (hb : bz_by code pc = some 120) : decode code pc = .ok (.ishl, 1) := by
  show Except.bind (Except.bind ((Reader.u1 : Decoder Nat) code pc) (fun r => _)) (fun r => _) = _
  rw [bz_u1 hb]
  show Except.ok ((.ishl : Instr), pc + 1 - pc) = _
  rw [Nat.add_sub_cancel_left]
theorem bz_d_ishr {code : ByteArray} {pc : Nat} (hb : bz_by code pc = some 122) : decode code pc = .ok (.ishr, 1) := by
  show Except.bind (Except.bind ((Reader.u1 : Decoder Nat) code pc) (fun r => _)) (fun r => _) = _
  rw [bz_u1 hb]
  show Except.ok ((.ishr : Instr), pc + 1 - pc) = _
  rw [Nat.add_sub_cancel_left]
theorem bz_d_iushr {code : ByteArray} {pc : Nat} (hb : bz_by code pc = some 124) : decode code pc = .ok (.iushr, 1) := by
  show Except.bind (Except.bind ((Reader.u1 : Decoder Nat) code pc) (fun r => _)) (fun r => _) = _
  rw [bz_u1 hb]
  show Except.ok ((.iushr : Instr), pc + 1 - pc) = _
  rw [Nat.add_sub_cancel_left]
theorem bz_d_iand {code : ByteArray} {pc : Nat} (hb : bz_by code pc = some 126) : decode code pc = .ok (.iand, 1) := by
  show Except.bind (Except.bind ((Reader.u1 : Decoder Nat) code pc) (fun r => _)) (fun r => _) = _
  rw [bz_u1 hb]
  show Except.ok ((.iand : Instr), pc + 1 - pc) = _
  rw [Nat.add_sub_cancel_left]
theorem bz_d_land {code : ByteArray} {pc : Nat} (hb : bz_by code pc = some 127) : decode code pc = .ok (.land, 1) := by
  show Except.bind (Except.bind ((Reader.u1 : Decoder Nat) code pc) (fun r => _)) (fun r => _) = _
  rw [bz_u1 hb]
  show Except.ok ((.land : Instr), pc + 1 - pc) = _
  rw [Nat.add_sub_cancel_left]
theorem bz_d_ior {code : ByteArray} {pc : Nat} (hb : bz_by code pc = some 128) : decode code pc = .ok (.ior, 1) := by
  show Except.bind (Except.bind ((Reader.u1 : Decoder Nat) code pc) (fun r => _)) (fun r => _) = _
  rw [bz_u1 hb]
  show Except.ok ((.ior : Instr), pc + 1 - pc) = _
  rw [Nat.add_sub_cancel_left]
theorem bz_d_lor {code : ByteArray} {pc : Nat} (hb : bz_by code pc = some 129) : decode code pc = .ok (.lor, 1) := by
  show Except.bind (Except.bind ((Reader.u1 : Decoder Nat) code pc) (fun r => _)) (fun r => _) = _
  rw [bz_u1 hb]
  show Except.ok ((.lor : Instr), pc + 1 - pc) = _
  rw [Nat.add_sub_cancel_left]
theorem bz_d_ixor {code : ByteArray} {pc : Nat} (hb : bz_by code pc = some 130) : decode code pc = .ok (.ixor, 1) := by
  show Except.bind (Except.bind ((Reader.u1 : Decoder Nat) code pc) (fun r => _)) (fun r => _) = _
  rw [bz_u1 hb]
  show Except.ok ((.ixor : Instr), pc + 1 - pc) = _
  rw [Nat.add_sub_cancel_left]
theorem bz_d_i2l {code : ByteArray} {pc : Nat} (hb : bz_by code pc = some 133) : decode code pc = .ok (.i2l, 1) := by
  show Except.bind (Except.bind ((Reader.u1 : Decoder Nat) code pc) (fun r => _)) (fun r => _) = _
  rw [bz_u1 hb]
  show Except.ok ((.i2l : Instr), pc + 1 - pc) = _
  rw [Nat.add_sub_cancel_left]
theorem bz_d_l2i {code : ByteArray} {pc : Nat} (hb : bz_by code pc = some 136) : decode code pc = .ok (.l2i, 1) := by
  show Except.bind (Except.bind ((Reader.u1 : Decoder Nat) code pc) (fun r => _)) (fun r => _) = _
  rw [bz_u1 hb]
  show Except.ok ((.l2i : Instr), pc + 1 - pc) = _
  rw [Nat.add_sub_cancel_left]
theorem bz_d_i2b {code : ByteArray} {pc : Nat} (hb : bz_by code pc = some 145) : decode code pc = .ok (.i2b, 1) := by
  show Except.bind (Except.bind ((Reader.u1 : Decoder Nat) code pc) (fun r => _)) (fun r => _) = _
  rw [bz_u1 hb]
  show Except.ok ((.i2b : Instr), pc + 1 - pc) = _
  rw [Nat.add_sub_cancel_left]
theorem bz_d_i2c {code : ByteArray} {pc : Nat} (hb : bz_by code pc = some 146) : decode code pc = .ok (.i2c, 1) := by
  show Except.bind (Except.bind ((Reader.u1 : Decoder Nat) code pc) (fun r => _)) (fun r => _) = _
  rw [bz_u1 hb]
  show Except.ok ((.i2c : Instr), pc + 1 - pc) = _
  rw [Nat.add_sub_cancel_left]
theorem bz_d_lcmp {code : ByteArray} {pc : Nat} (hb : bz_by code pc = some 148) : decode code pc = .ok (.lcmp, 1) := by
  show Except.bind (Except.bind ((Reader.u1 : Decoder Nat) code pc) (fun r => _)) (fun r => _) = _
  rw [bz_u1 hb]
  show Except.ok ((.lcmp : Instr), pc + 1 - pc) = _
  rw [Nat.add_sub_cancel_left]
theorem bz_d_ireturn {code : ByteArray} {pc : Nat} (hb : bz_by code pc = some 172) : decode code pc = .ok (.ireturn, 1) := by
  show Except.bind (Except.bind ((Reader.u1 : Decoder Nat) code pc) (fun r => _)) (fun r => _) = _
  rw [bz_u1 hb]
  show Except.ok ((.ireturn : Instr), pc + 1 - pc) = _
  rw [Nat.add_sub_cancel_left]
theorem bz_d_lreturn {code : ByteArray} {pc : Nat} (hb : bz_by code pc = some 173) : decode code pc = .ok (.lreturn, 1) := by
  show Except.bind (Except.bind ((Reader.u1 : Decoder Nat) code pc) (fun r => _)) (fun r => _) = _
  rw [bz_u1 hb]
  show Except.ok ((.lreturn : Instr), pc + 1 - pc) = _
  rw [Nat.add_sub_cancel_left]
theorem bz_d_areturn {code : ByteArray} {pc : Nat} (hb : bz_by code pc = some 176) : decode code pc = .ok (.areturn, 1) := by
  show Except.bind (Except.bind ((Reader.u1 : Decoder Nat) code pc) (fun r => _)) (fun r => _) = _
  rw [bz_u1 hb]
  show Except.ok ((.areturn : Instr), pc + 1 - pc) = _
  rw [Nat.add_sub_cancel_left]
theorem bz_d_return_ {code : ByteArray} {pc : Nat} (hb : bz_by code pc = some 177) : decode code pc = .ok (.return_, 1) := by
  show Except.bind (Except.bind ((Reader.u1 : Decoder Nat) code pc) (fun r => _)) (fun r => _) = _
  rw [bz_u1 hb]
  show Except.ok ((.return_ : Instr), pc + 1 - pc) = _
  rw [Nat.add_sub_cancel_left]
theorem bz_d_arraylength {code : ByteArray} {pc : Nat} (hb : bz_by code pc = some 190) : decode code pc = .ok (.arraylength, 1) := by
  show Except.bind (Except.bind ((Reader.u1 : Decoder Nat) code pc) (fun r => _)) (fun r => _) = _
  rw [bz_u1 hb]
  show Except.ok ((.arraylength : Instr), pc + 1 - pc) = _
  rw [Nat.add_sub_cancel_left]
theorem bz_d_iconst0 {code : ByteArray} {pc : Nat} (hb : bz_by code pc = some 2) : decode code pc = .ok (.iconst (-1), 1) := by
  show Except.bind (Except.bind ((Reader.u1 : Decoder Nat) code pc) (fun r => _)) (fun r => _) = _
  rw [bz_u1 hb]
  show Except.ok ((.iconst (-1) : Instr), pc + 1 - pc) = _
  rw [Nat.add_sub_cancel_left]
theorem bz_d_iconst1 {code : ByteArray} {pc : Nat} (hb : bz_by code pc = some 3) : decode code pc = .ok (.iconst 0, 1) := by
  show Except.bind (Except.bind ((Reader.u1 : Decoder Nat) code pc) (fun r => _)) (fun r => _) = _
  rw [bz_u1 hb]
  show Except.ok ((.iconst 0 : Instr), pc + 1 - pc) = _
  rw [Nat.add_sub_cancel_left]
theorem bz_d_iconst2 {code : ByteArray} {pc : Nat} (hb : bz_by code pc = some 4) : decode code pc = .ok (.iconst 1, 1) := by
  show Except.bind (Except.bind ((Reader.u1 : Decoder Nat) code pc) (fun r => _)) (fun r => _) = _
  rw [bz_u1 hb]
  show Except.ok ((.iconst 1 : Instr), pc + 1 - pc) = _
  rw [Nat.add_sub_cancel_left]
theorem bz_d_iconst3 {code : ByteArray} {pc : Nat} (hb : bz_by code pc = some 5) : decode code pc = .ok (.iconst 2, 1) := by
  show Except.bind (Except.bind ((Reader.u1 : Decoder Nat) code pc) (fun r => _)) (fun r => _) = _
  rw [bz_u1 hb]
  show Except.ok ((.iconst 2 : Instr), pc + 1 - pc) = _
  rw [Nat.add_sub_cancel_left]
theorem bz_d_iconst4 {code : ByteArray} {pc : Nat} (hb : bz_by code pc = some 6) : decode code pc = .ok (.iconst 3, 1) := by
  show Except.bind (Except.bind ((Reader.u1 : Decoder Nat) code pc) (fun r => _)) (fun r => _) = _
  rw [bz_u1 hb]
  show Except.ok ((.iconst 3 : Instr), pc + 1 - pc) = _
  rw [Nat.add_sub_cancel_left]
theorem bz_d_iconst5 {code : ByteArray} {pc : Nat} (hb : bz_by code pc = some 7) : decode code pc = .ok (.iconst 4, 1) := by
  show Except.bind (Except.bind ((Reader.u1 : Decoder Nat) code pc) (fun r => _)) (fun r => _) = _
  rw [bz_u1 hb]
  show Except.ok ((.iconst 4 : Instr), pc + 1 - pc) = _
  rw [Nat.add_sub_cancel_left]
theorem bz_d_iconst6 {code : ByteArray} {pc : Nat} (hb : bz_by code pc = some 8) : decode code pc = .ok (.iconst 5, 1) := by
  show Except.bind (Except.bind ((Reader.u1 : Decoder Nat) code pc) (fun r => _)) (fun r => _) = _
  rw [bz_u1 hb]
  show Except.ok ((.iconst 5 : Instr), pc + 1 - pc) = _
  rw [Nat.add_sub_cancel_left]
theorem bz_d_lconst0 {code : ByteArray} {pc : Nat} (hb : bz_by code pc = some 9) : decode code pc = .ok (.lconst 0, 1) := by
  show Except.bind (Except.bind ((Reader.u1 : Decoder Nat) code pc) (fun r => _)) (fun r => _) = _
  rw [bz_u1 hb]
  show Except.ok ((.lconst 0 : Instr), pc + 1 - pc) = _
  rw [Nat.add_sub_cancel_left]
theorem bz_d_lconst1 {code : ByteArray} {pc : Nat} (hb : bz_by code pc = some 10) : decode code pc = .ok (.lconst 1, 1) := by
  show Except.bind (Except.bind ((Reader.u1 : Decoder Nat) code pc) (fun r => _)) (fun r => _) = _
  rw [bz_u1 hb]
  show Except.ok ((.lconst 1 : Instr), pc + 1 - pc) = _
  rw [Nat.add_sub_cancel_left]
theorem bz_d_iload_n0 {code : ByteArray} {pc : Nat} (hb : bz_by code pc = some 26) : decode code pc = .ok (.iload_n 0, 1) := by
  show Except.bind (Except.bind ((Reader.u1 : Decoder Nat) code pc) (fun r => _)) (fun r => _) = _
  rw [bz_u1 hb]
  show Except.ok ((.iload_n 0 : Instr), pc + 1 - pc) = _
  rw [Nat.add_sub_cancel_left]
theorem bz_d_iload_n1 {code : ByteArray} {pc : Nat} (hb : bz_by code pc = some 27) : decode code pc = .ok (.iload_n 1, 1) := by
  show Except.bind (Except.bind ((Reader.u1 : Decoder Nat) code pc) (fun r => _)) (fun r => _) = _
  rw [bz_u1 hb]
  show Except.ok ((.iload_n 1 : Instr), pc + 1 - pc) = _
  rw [Nat.add_sub_cancel_left]
theorem bz_d_iload_n2 {code : ByteArray} {pc : Nat} (hb : bz_by code pc = some 28) : decode code pc = .ok (.iload_n 2, 1) := by
  show Except.bind (Except.bind ((Reader.u1 : Decoder Nat) code pc) (fun r => _)) (fun r => _) = _
  rw [bz_u1 hb]
  show Except.ok ((.iload_n 2 : Instr), pc + 1 - pc) = _
  rw [Nat.add_sub_cancel_left]
theorem bz_d_iload_n3 {code : ByteArray} {pc : Nat} (hb : bz_by code pc = some 29) : decode code pc = .ok (.iload_n 3, 1) := by
  show Except.bind (Except.bind ((Reader.u1 : Decoder Nat) code pc) (fun r => _)) (fun r => _) = _
  rw [bz_u1 hb]
  show Except.ok ((.iload_n 3 : Instr), pc + 1 - pc) = _
  rw [Nat.add_sub_cancel_left]
theorem bz_d_lload_n0 {code : ByteArray} {pc : Nat} (hb : bz_by code pc = some 30) : decode code pc = .ok (.lload_n 0, 1) := by
  show Except.bind (Except.bind ((Reader.u1 : Decoder Nat) code pc) (fun r => _)) (fun r => _) = _
  rw [bz_u1 hb]
  show Except.ok ((.lload_n 0 : Instr), pc + 1 - pc) = _
  rw [Nat.add_sub_cancel_left]
theorem bz_d_lload_n1 {code : ByteArray} {pc : Nat} (hb : bz_by code pc = some 31) : decode code pc = .ok (.lload_n 1, 1) := by
  show Except.bind (Except.bind ((Reader.u1 : Decoder Nat) code pc) (fun r => _)) (fun r => _) = _
  rw [bz_u1 hb]
  show Except.ok ((.lload_n 1 : Instr), pc + 1 - pc) = _
  rw [Nat.add_sub_cancel_left]
theorem bz_d_lload_n2 {code : ByteArray} {pc : Nat} (hb : bz_by code pc = some 32) : decode code pc = .ok (.lload_n 2, 1) := by
  show Except.bind (Except.bind ((Reader.u1 : Decoder Nat) code pc) (fun r => _)) (fun r => _) = _
  rw [bz_u1 hb]
  show Except.ok ((.lload_n 2 : Instr), pc + 1 - pc) = _
  rw [Nat.add_sub_cancel_left]
theorem bz_d_lload_n3 {code : ByteArray} {pc : Nat} (hb : bz_by code pc = some 33) : decode code pc = .ok (.lload_n 3, 1) := by
  show Except.bind (Except.bind ((Reader.u1 : Decoder Nat) code pc) (fun r => _)) (fun r => _) = _
  rw [bz_u1 hb]
  show Except.ok ((.lload_n 3 : Instr), pc + 1 - pc) = _
  rw [Nat.add_sub_cancel_left]
theorem bz_d_aload_n0 {code : ByteArray} {pc : Nat} (hb : bz_by code pc = some 42) : decode code pc = .ok (.aload_n 0, 1) := by
  show Except.bind (Except.bind ((Reader.u1 : Decoder Nat) code pc) (fun r => _)) (fun r => _) = _
  rw [bz_u1 hb]
  show Except.ok ((.aload_n 0 : Instr), pc + 1 - pc) = _
  rw [Nat.add_sub_cancel_left]
theorem bz_d_aload_n1 {code : ByteArray} {pc : Nat} (hb : bz_by code pc = some 43) : decode code pc = .ok (.aload_n 1, 1) := by
  show Except.bind (Except.bind ((Reader.u1 : Decoder Nat) code pc) (fun r => _)) (fun r => _) = _
  rw [bz_u1 hb]
  show Except.ok ((.aload_n 1 : Instr), pc + 1 - pc) = _
  rw [Nat.add_sub_cancel_left]
theorem bz_d_aload_n2 {code : ByteArray} {pc : Nat} (hb : bz_by code pc = some 44) : decode code pc = .ok (.aload_n 2, 1) := by
  show Except.bind (Except.bind ((Reader.u1 : Decoder Nat) code pc) (fun r => _)) (fun r => _) = _
  rw [bz_u1 hb]
  show Except.ok ((.aload_n 2 : Instr), pc + 1 - pc) = _
  rw [Nat.add_sub_cancel_left]
theorem bz_d_aload_n3 {code : ByteArray} {pc : Nat} (hb : bz_by code pc = some 45) : decode code pc = .ok (.aload_n 3, 1) := by
  show Except.bind (Except.bind ((Reader.u1 : Decoder Nat) code pc) (fun r => _)) (fun r => _) = _
  rw [bz_u1 hb]
  show Except.ok ((.aload_n 3 : Instr), pc + 1 - pc) = _
  rw [Nat.add_sub_cancel_left]
theorem bz_d_istore_n0 {code : ByteArray} {pc : Nat} (hb : bz_by code pc = some 59) : decode code pc = .ok (.istore_n 0, 1) := by
  show Except.bind (Except.bind ((Reader.u1 : Decoder Nat) code pc) (fun r => _)) (fun r => _) = _
  rw [bz_u1 hb]
  show Except.ok ((.istore_n 0 : Instr), pc + 1 - pc) = _
  rw [Nat.add_sub_cancel_left]
theorem bz_d_istore_n1 {code : ByteArray} {pc : Nat} (hb : bz_by code pc = some 60) : decode code pc = .ok (.istore_n 1, 1) := by
  show Except.bind (Except.bind ((Reader.u1 : Decoder Nat) code pc) (fun r => _)) (fun r => _) = _
  rw [bz_u1 hb]
  show Except.ok ((.istore_n 1 : Instr), pc + 1 - pc) = _
  rw [Nat.add_sub_cancel_left]
theorem bz_d_istore_n2 {code : ByteArray} {pc : Nat} (hb : bz_by code pc = some 61) : decode code pc = .ok (.istore_n 2, 1) := by
  show Except.bind (Except.bind ((Reader.u1 : Decoder Nat) code pc) (fun r => _)) (fun r => _) = _
  rw [bz_u1 hb]
  show Except.ok ((.istore_n 2 : Instr), pc + 1 - pc) = _
  rw [Nat.add_sub_cancel_left]
theorem bz_d_istore_n3 {code : ByteArray} {pc : Nat} (hb : bz_by code pc = some 62) : decode code pc = .ok (.istore_n 3, 1) := by
  show Except.bind (Except.bind ((Reader.u1 : Decoder Nat) code pc) (fun r => _)) (fun r => _) = _
  rw [bz_u1 hb]
  show Except.ok ((.istore_n 3 : Instr), pc + 1 - pc) = _
  rw [Nat.add_sub_cancel_left]
theorem bz_d_lstore_n0 {code : ByteArray} {pc : Nat} (hb : bz_by code pc = some 63) : decode code pc = .ok (.lstore_n 0, 1) := by
  show Except.bind (Except.bind ((Reader.u1 : Decoder Nat) code pc) (fun r => _)) (fun r => _) = _
  rw [bz_u1 hb]
  show Except.ok ((.lstore_n 0 : Instr), pc + 1 - pc) = _
  rw [Nat.add_sub_cancel_left]
theorem bz_d_lstore_n1 {code : ByteArray} {pc : Nat} (hb : bz_by code pc = some 64) : decode code pc = .ok (.lstore_n 1, 1) := by
  show Except.bind (Except.bind ((Reader.u1 : Decoder Nat) code pc) (fun r => _)) (fun r => _) = _
  rw [bz_u1 hb]
  show Except.ok ((.lstore_n 1 : Instr), pc + 1 - pc) = _
  rw [Nat.add_sub_cancel_left]
theorem bz_d_lstore_n2 {code : ByteArray} {pc : Nat} (hb : bz_by code pc = some 65) : decode code pc = .ok (.lstore_n 2, 1) := by
  show Except.bind (Except.bind ((Reader.u1 : Decoder Nat) code pc) (fun r => _)) (fun r => _) = _
  rw [bz_u1 hb]
  show Except.ok ((.lstore_n 2 : Instr), pc + 1 - pc) = _
  rw [Nat.add_sub_cancel_left]
theorem bz_d_lstore_n3 {code : ByteArray} {pc : Nat} (hb : bz_by code pc = some 66) : decode code pc = .ok (.lstore_n 3, 1) := by
  show Except.bind (Except.bind ((Reader.u1 : Decoder Nat) code pc) (fun r => _)) (fun r => _) = _
  rw [bz_u1 hb]
  show Except.ok ((.lstore_n 3 : Instr), pc + 1 - pc) = _
  rw [Nat.add_sub_cancel_left]
theorem bz_d_astore_n0 {code : ByteArray} {pc : Nat} (hb : bz_by code pc = some 75) : decode code pc = .ok (.astore_n 0, 1) := by
  show Except.bind (Except.bind ((Reader.u1 : Decoder Nat) code pc) (fun r => _)) (fun r => _) = _
  rw [bz_u1 hb]
  show Except.ok ((.astore_n 0 : Instr), pc + 1 - pc) = _
  rw [Nat.add_sub_cancel_left]
theorem bz_d_astore_n1 {code : ByteArray} {pc : Nat} (hb : bz_by code pc = some 76) : decode code pc = .ok (.astore_n 1, 1) := by
  show Except.bind (Except.bind ((Reader.u1 : Decoder Nat) code pc) (fun r => _)) (fun r => _) = _
  rw [bz_u1 hb]
  show Except.ok ((.astore_n 1 : Instr), pc + 1 - pc) = _
  rw [Nat.add_sub_cancel_left]
theorem bz_d_astore_n2 {code : ByteArray} {pc : Nat} (hb : bz_by code pc = some 77) : decode code pc = .ok (.astore_n 2, 1) := by
  show Except.bind (Except.bind ((Reader.u1 : Decoder Nat) code pc) (fun r => _)) (fun r => _) = _
  rw [bz_u1 hb]
  show Except.ok ((.astore_n 2 : Instr), pc + 1 - pc) = _
  rw [Nat.add_sub_cancel_left]
theorem bz_d_astore_n3 {code : ByteArray} {pc : Nat} (hb : bz_by code pc = some 78) : decode code pc = .ok (.astore_n 3, 1) := by
  show Except.bind (Except.bind ((Reader.u1 : Decoder Nat) code pc) (fun r => _)) (fun r => _) = _
  rw [bz_u1 hb]
  show Except.ok ((.astore_n 3 : Instr), pc + 1 - pc) = _
  rw [Nat.add_sub_cancel_left]
theorem bz_d_iload {code : ByteArray} {pc : Nat} {v x : Nat} (hb : bz_by code pc = some 21) (h1 : bz_by code (pc + 1) = some x) (hv : x = v) : decode code pc = .ok (.iload v, 2) := by
  show Except.bind (Except.bind ((Reader.u1 : Decoder Nat) code pc) (fun r => _)) (fun r => _) = _
  rw [bz_u1 hb]
  show Except.bind (Except.bind ((Reader.u1 : Decoder Nat) code (pc + 1)) (fun r => Except.ok ((.iload (r.1) : Instr), r.2))) (fun r => Except.ok (r.1, r.2 - pc)) = _
  rw [bz_u1 h1]
  show Except.ok (_, pc + 1 + 1 - pc) = _
  rw [show pc + 1 + 1 - pc = 2 by omega, hv]
theorem bz_d_lload {code : ByteArray} {pc : Nat} {v x : Nat} (hb : bz_by code pc = some 22) (h1 : bz_by code (pc + 1) = some x) (hv : x = v) : decode code pc = .ok (.lload v, 2) := by
  show Except.bind (Except.bind ((Reader.u1 : Decoder Nat) code pc) (fun r => _)) (fun r => _) = _
  rw [bz_u1 hb]
  show Except.bind (Except.bind ((Reader.u1 : Decoder Nat) code (pc + 1)) (fun r => Except.ok ((.lload (r.1) : Instr), r.2))) (fun r => Except.ok (r.1, r.2 - pc)) = _
  rw [bz_u1 h1]
  show Except.ok (_, pc + 1 + 1 - pc) = _
  rw [show pc + 1 + 1 - pc = 2 by omega, hv]
theorem bz_d_aload {code : ByteArray} {pc : Nat} {v x : Nat} (hb : bz_by code pc = some 25) (h1 : bz_by code (pc + 1) = some x) (hv : x = v) : decode code pc = .ok (.aload v, 2) := by
  show Except.bind (Except.bind ((Reader.u1 : Decoder Nat) code pc) (fun r => _)) (fun r => _) = _
  rw [bz_u1 hb]
  show Except.bind (Except.bind ((Reader.u1 : Decoder Nat) code (pc + 1)) (fun r => Except.ok ((.aload (r.1) : Instr), r.2))) (fun r => Except.ok (r.1, r.2 - pc)) = _
  rw [bz_u1 h1]
  show Except.ok (_, pc + 1 + 1 - pc) = _
  rw [show pc + 1 + 1 - pc = 2 by omega, hv]
theorem bz_d_istore {code : ByteArray} {pc : Nat} {v x : Nat} (hb : bz_by code pc = some 54) (h1 : bz_by code (pc + 1) = some x) (hv : x = v) : decode code pc = .ok (.istore v, 2) := by
  show Except.bind (Except.bind ((Reader.u1 : Decoder Nat) code pc) (fun r => _)) (fun r => _) = _
  rw [bz_u1 hb]
  show Except.bind (Except.bind ((Reader.u1 : Decoder Nat) code (pc + 1)) (fun r => Except.ok ((.istore (r.1) : Instr), r.2))) (fun r => Except.ok (r.1, r.2 - pc)) = _
  rw [bz_u1 h1]
  show Except.ok (_, pc + 1 + 1 - pc) = _
  rw [show pc + 1 + 1 - pc = 2 by omega, hv]
theorem bz_d_lstore {code : ByteArray} {pc : Nat} {v x : Nat} (hb : bz_by code pc = some 55) (h1 : bz_by code (pc + 1) = some x) (hv : x = v) : decode code pc = .ok (.lstore v, 2) := by
  show Except.bind (Except.bind ((Reader.u1 : Decoder Nat) code pc) (fun r => _)) (fun r => _) = _
  rw [bz_u1 hb]
  show Except.bind (Except.bind ((Reader.u1 : Decoder Nat) code (pc + 1)) (fun r => Except.ok ((.lstore (r.1) : Instr), r.2))) (fun r => Except.ok (r.1, r.2 - pc)) = _
  rw [bz_u1 h1]
  show Except.ok (_, pc + 1 + 1 - pc) = _
  rw [show pc + 1 + 1 - pc = 2 by omega, hv]
theorem bz_d_astore {code : ByteArray} {pc : Nat} {v x : Nat} (hb : bz_by code pc = some 58) (h1 : bz_by code (pc + 1) = some x) (hv : x = v) : decode code pc = .ok (.astore v, 2) := by
  show Except.bind (Except.bind ((Reader.u1 : Decoder Nat) code pc) (fun r => _)) (fun r => _) = _
  rw [bz_u1 hb]
  show Except.bind (Except.bind ((Reader.u1 : Decoder Nat) code (pc + 1)) (fun r => Except.ok ((.astore (r.1) : Instr), r.2))) (fun r => Except.ok (r.1, r.2 - pc)) = _
  rw [bz_u1 h1]
  show Except.ok (_, pc + 1 + 1 - pc) = _
  rw [show pc + 1 + 1 - pc = 2 by omega, hv]
theorem bz_d_ldc {code : ByteArray} {pc : Nat} {v x : Nat} (hb : bz_by code pc = some 18) (h1 : bz_by code (pc + 1) = some x) (hv : x = v) : decode code pc = .ok (.ldc v, 2) := by
  show Except.bind (Except.bind ((Reader.u1 : Decoder Nat) code pc) (fun r => _)) (fun r => _) = _
  rw [bz_u1 hb]
  show Except.bind (Except.bind ((Reader.u1 : Decoder Nat) code (pc + 1)) (fun r => Except.ok ((.ldc (r.1) : Instr), r.2))) (fun r => Except.ok (r.1, r.2 - pc)) = _
  rw [bz_u1 h1]
  show Except.ok (_, pc + 1 + 1 - pc) = _
  rw [show pc + 1 + 1 - pc = 2 by omega, hv]
theorem bz_d_bipush {code : ByteArray} {pc : Nat} {v : Int} {x : Nat} (hb : bz_by code pc = some 16) (h1 : bz_by code (pc + 1) = some x) (hv : Reader.signed 8 x = v) : decode code pc = .ok (.bipush v, 2) := by
  show Except.bind (Except.bind ((Reader.u1 : Decoder Nat) code pc) (fun r => _)) (fun r => _) = _
  rw [bz_u1 hb]
  show Except.bind (Except.bind ((Reader.s1 : Decoder Int) code (pc + 1)) (fun r => Except.ok ((.bipush (r.1) : Instr), r.2))) (fun r => Except.ok (r.1, r.2 - pc)) = _
  rw [bz_s1 h1]
  show Except.ok (_, pc + 1 + 1 - pc) = _
  rw [show pc + 1 + 1 - pc = 2 by omega, hv]
theorem bz_d_ldc_w {code : ByteArray} {pc : Nat} {v x y : Nat} (hb : bz_by code pc = some 19) (h1 : bz_by code (pc + 1) = some x) (h2 : bz_by code (pc + 1 + 1) = some y) (hv : x * 256 + y = v) : decode code pc = .ok (.ldc_w v, 3) := by
  show Except.bind (Except.bind ((Reader.u1 : Decoder Nat) code pc) (fun r => _)) (fun r => _) = _
  rw [bz_u1 hb]
  show Except.bind (Except.bind ((Reader.u2 : Decoder Nat) code (pc + 1)) (fun r => Except.ok ((.ldc_w (r.1) : Instr), r.2))) (fun r => Except.ok (r.1, r.2 - pc)) = _
  rw [bz_u2 h1 h2]
  show Except.ok (_, pc + 1 + 2 - pc) = _
  rw [show pc + 1 + 2 - pc = 3 by omega, hv]
theorem bz_d_ldc2_w {code : ByteArray} {pc : Nat} {v x y : Nat} (hb : bz_by code pc = some 20) (h1 : bz_by code (pc + 1) = some x) (h2 : bz_by code (pc + 1 + 1) = some y) (hv : x * 256 + y = v) : decode code pc = .ok (.ldc2_w v, 3) := by
  show Except.bind (Except.bind ((Reader.u1 : Decoder Nat) code pc) (fun r => _)) (fun r => _) = _
  rw [bz_u1 hb]
  show Except.bind (Except.bind ((Reader.u2 : Decoder Nat) code (pc + 1)) (fun r => Except.ok ((.ldc2_w (r.1) : Instr), r.2))) (fun r => Except.ok (r.1, r.2 - pc)) = _
  rw [bz_u2 h1 h2]
  show Except.ok (_, pc + 1 + 2 - pc) = _
  rw [show pc + 1 + 2 - pc = 3 by omega, hv]
theorem bz_d_getstatic {code : ByteArray} {pc : Nat} {v x y : Nat} (hb : bz_by code pc = some 178) (h1 : bz_by code (pc + 1) = some x) (h2 : bz_by code (pc + 1 + 1) = some y) (hv : x * 256 + y = v) : decode code pc = .ok (.getstatic v, 3) := by
  show Except.bind (Except.bind ((Reader.u1 : Decoder Nat) code pc) (fun r => _)) (fun r => _) = _
  rw [bz_u1 hb]
  show Except.bind (Except.bind ((Reader.u2 : Decoder Nat) code (pc + 1)) (fun r => Except.ok ((.getstatic (r.1) : Instr), r.2))) (fun r => Except.ok (r.1, r.2 - pc)) = _
  rw [bz_u2 h1 h2]
  show Except.ok (_, pc + 1 + 2 - pc) = _
  rw [show pc + 1 + 2 - pc = 3 by omega, hv]
theorem bz_d_getfield {code : ByteArray} {pc : Nat} {v x y : Nat} (hb : bz_by code pc = some 180) (h1 : bz_by code (pc + 1) = some x) (h2 : bz_by code (pc + 1 + 1) = some y) (hv : x * 256 + y = v) : decode code pc = .ok (.getfield v, 3) := by
  show Except.bind (Except.bind ((Reader.u1 : Decoder Nat) code pc) (fun r => _)) (fun r => _) = _
  rw [bz_u1 hb]
  show Except.bind (Except.bind ((Reader.u2 : Decoder Nat) code (pc + 1)) (fun r => Except.ok ((.getfield (r.1) : Instr), r.2))) (fun r => Except.ok (r.1, r.2 - pc)) = _
  rw [bz_u2 h1 h2]
  show Except.ok (_, pc + 1 + 2 - pc) = _
  rw [show pc + 1 + 2 - pc = 3 by omega, hv]
theorem bz_d_putfield {code : ByteArray} {pc : Nat} {v x y : Nat} (hb : bz_by code pc = some 181) (h1 : bz_by code (pc + 1) = some x) (h2 : bz_by code (pc + 1 + 1) = some y) (hv : x * 256 + y = v) : decode code pc = .ok (.putfield v, 3) := by
  show Except.bind (Except.bind ((Reader.u1 : Decoder Nat) code pc) (fun r => _)) (fun r => _) = _
  rw [bz_u1 hb]
  show Except.bind (Except.bind ((Reader.u2 : Decoder Nat) code (pc + 1)) (fun r => Except.ok ((.putfield (r.1) : Instr), r.2))) (fun r => Except.ok (r.1, r.2 - pc)) = _
  rw [bz_u2 h1 h2]
  show Except.ok (_, pc + 1 + 2 - pc) = _
  rw [show pc + 1 + 2 - pc = 3 by omega, hv]
theorem bz_d_invokevirtual {code : ByteArray} {pc : Nat} {v x y : Nat} (hb : bz_by code pc = some 182) (h1 : bz_by code (pc + 1) = some x) (h2 : bz_by code (pc + 1 + 1) = some y) (hv : x * 256 + y = v) : decode code pc = .ok (.invokevirtual v, 3) := by
  show Except.bind (Except.bind ((Reader.u1 : Decoder Nat) code pc) (fun r => _)) (fun r => _) = _
  rw [bz_u1 hb]
  show Except.bind (Except.bind ((Reader.u2 : Decoder Nat) code (pc + 1)) (fun r => Except.ok ((.invokevirtual (r.1) : Instr), r.2))) (fun r => Except.ok (r.1, r.2 - pc)) = _
  rw [bz_u2 h1 h2]
  show Except.ok (_, pc + 1 + 2 - pc) = _
  rw [show pc + 1 + 2 - pc = 3 by omega, hv]
theorem bz_d_invokespecial {code : ByteArray} {pc : Nat} {v x y : Nat} (hb : bz_by code pc = some 183) (h1 : bz_by code (pc + 1) = some x) (h2 : bz_by code (pc + 1 + 1) = some y) (hv : x * 256 + y = v) : decode code pc = .ok (.invokespecial v, 3) := by
  show Except.bind (Except.bind ((Reader.u1 : Decoder Nat) code pc) (fun r => _)) (fun r => _) = _
  rw [bz_u1 hb]
  show Except.bind (Except.bind ((Reader.u2 : Decoder Nat) code (pc + 1)) (fun r => Except.ok ((.invokespecial (r.1) : Instr), r.2))) (fun r => Except.ok (r.1, r.2 - pc)) = _
  rw [bz_u2 h1 h2]
  show Except.ok (_, pc + 1 + 2 - pc) = _
  rw [show pc + 1 + 2 - pc = 3 by omega, hv]
theorem bz_d_invokestatic {code : ByteArray} {pc : Nat} {v x y : Nat} (hb : bz_by code pc = some 184) (h1 : bz_by code (pc + 1) = some x) (h2 : bz_by code (pc + 1 + 1) = some y) (hv : x * 256 + y = v) : decode code pc = .ok (.invokestatic v, 3) := by
  show Except.bind (Except.bind ((Reader.u1 : Decoder Nat) code pc) (fun r => _)) (fun r => _) = _
  rw [bz_u1 hb]
  show Except.bind (Except.bind ((Reader.u2 : Decoder Nat) code (pc + 1)) (fun r => Except.ok ((.invokestatic (r.1) : Instr), r.2))) (fun r => Except.ok (r.1, r.2 - pc)) = _
  rw [bz_u2 h1 h2]
  show Except.ok (_, pc + 1 + 2 - pc) = _
  rw [show pc + 1 + 2 - pc = 3 by omega, hv]
theorem bz_d_new {code : ByteArray} {pc : Nat} {v x y : Nat} (hb : bz_by code pc = some 187) (h1 : bz_by code (pc + 1) = some x) (h2 : bz_by code (pc + 1 + 1) = some y) (hv : x * 256 + y = v) : decode code pc = .ok (.new v, 3) := by
  show Except.bind (Except.bind ((Reader.u1 : Decoder Nat) code pc) (fun r => _)) (fun r => _) = _
  rw [bz_u1 hb]
  show Except.bind (Except.bind ((Reader.u2 : Decoder Nat) code (pc + 1)) (fun r => Except.ok ((.new (r.1) : Instr), r.2))) (fun r => Except.ok (r.1, r.2 - pc)) = _
  rw [bz_u2 h1 h2]
  show Except.ok (_, pc + 1 + 2 - pc) = _
  rw [show pc + 1 + 2 - pc = 3 by omega, hv]
theorem bz_d_anewarray {code : ByteArray} {pc : Nat} {v x y : Nat} (hb : bz_by code pc = some 189) (h1 : bz_by code (pc + 1) = some x) (h2 : bz_by code (pc + 1 + 1) = some y) (hv : x * 256 + y = v) : decode code pc = .ok (.anewarray v, 3) := by
  show Except.bind (Except.bind ((Reader.u1 : Decoder Nat) code pc) (fun r => _)) (fun r => _) = _
  rw [bz_u1 hb]
  show Except.bind (Except.bind ((Reader.u2 : Decoder Nat) code (pc + 1)) (fun r => Except.ok ((.anewarray (r.1) : Instr), r.2))) (fun r => Except.ok (r.1, r.2 - pc)) = _
  rw [bz_u2 h1 h2]
  show Except.ok (_, pc + 1 + 2 - pc) = _
  rw [show pc + 1 + 2 - pc = 3 by omega, hv]
theorem bz_d_sipush {code : ByteArray} {pc : Nat} {v : Int} {x y : Nat} (hb : bz_by code pc = some 17) (h1 : bz_by code (pc + 1) = some x) (h2 : bz_by code (pc + 1 + 1) = some y) (hv : Reader.signed 16 (x * 256 + y) = v) : decode code pc = .ok (.sipush v, 3) := by
  show Except.bind (Except.bind ((Reader.u1 : Decoder Nat) code pc) (fun r => _)) (fun r => _) = _
  rw [bz_u1 hb]
  show Except.bind (Except.bind ((Reader.s2 : Decoder Int) code (pc + 1)) (fun r => Except.ok ((.sipush (r.1) : Instr), r.2))) (fun r => Except.ok (r.1, r.2 - pc)) = _
  rw [bz_s2 h1 h2]
  show Except.ok (_, pc + 1 + 2 - pc) = _
  rw [show pc + 1 + 2 - pc = 3 by omega, hv]
theorem bz_d_goto {code : ByteArray} {pc : Nat} {v : Int} {x y : Nat} (hb : bz_by code pc = some 167) (h1 : bz_by code (pc + 1) = some x) (h2 : bz_by code (pc + 1 + 1) = some y) (hv : Reader.signed 16 (x * 256 + y) = v) : decode code pc = .ok (.goto v, 3) := by
  show Except.bind (Except.bind ((Reader.u1 : Decoder Nat) code pc) (fun r => _)) (fun r => _) = _
  rw [bz_u1 hb]
  show Except.bind (Except.bind ((Reader.s2 : Decoder Int) code (pc + 1)) (fun r => Except.ok ((.goto (r.1) : Instr), r.2))) (fun r => Except.ok (r.1, r.2 - pc)) = _
  rw [bz_s2 h1 h2]
  show Except.ok (_, pc + 1 + 2 - pc) = _
  rw [show pc + 1 + 2 - pc = 3 by omega, hv]
theorem bz_d_ifnull {code : ByteArray} {pc : Nat} {v : Int} {x y : Nat} (hb : bz_by code pc = some 198) (h1 : bz_by code (pc + 1) = some x) (h2 : bz_by code (pc + 1 + 1) = some y) (hv : Reader.signed 16 (x * 256 + y) = v) : decode code pc = .ok (.ifnull v, 3) := by
  show Except.bind (Except.bind ((Reader.u1 : Decoder Nat) code pc) (fun r => _)) (fun r => _) = _
  rw [bz_u1 hb]
  show Except.bind (Except.bind ((Reader.s2 : Decoder Int) code (pc + 1)) (fun r => Except.ok ((.ifnull (r.1) : Instr), r.2))) (fun r => Except.ok (r.1, r.2 - pc)) = _
  rw [bz_s2 h1 h2]
  show Except.ok (_, pc + 1 + 2 - pc) = _
  rw [show pc + 1 + 2 - pc = 3 by omega, hv]
theorem bz_d_ifeq {code : ByteArray} {pc : Nat} {v : Int} {x y : Nat} (hb : bz_by code pc = some 153) (h1 : bz_by code (pc + 1) = some x) (h2 : bz_by code (pc + 1 + 1) = some y) (hv : Reader.signed 16 (x * 256 + y) = v) : decode code pc = .ok (.ifCond .eq v, 3) := by
  show Except.bind (Except.bind ((Reader.u1 : Decoder Nat) code pc) (fun r => _)) (fun r => _) = _
  rw [bz_u1 hb]
  show Except.bind (Except.bind ((Reader.s2 : Decoder Int) code (pc + 1)) (fun r => Except.ok ((.ifCond .eq (r.1) : Instr), r.2))) (fun r => Except.ok (r.1, r.2 - pc)) = _
  rw [bz_s2 h1 h2]
  show Except.ok (_, pc + 1 + 2 - pc) = _
  rw [show pc + 1 + 2 - pc = 3 by omega, hv]
theorem bz_d_ifne {code : ByteArray} {pc : Nat} {v : Int} {x y : Nat} (hb : bz_by code pc = some 154) (h1 : bz_by code (pc + 1) = some x) (h2 : bz_by code (pc + 1 + 1) = some y) (hv : Reader.signed 16 (x * 256 + y) = v) : decode code pc = .ok (.ifCond .ne v, 3) := by
  show Except.bind (Except.bind ((Reader.u1 : Decoder Nat) code pc) (fun r => _)) (fun r => _) = _
  rw [bz_u1 hb]
  show Except.bind (Except.bind ((Reader.s2 : Decoder Int) code (pc + 1)) (fun r => Except.ok ((.ifCond .ne (r.1) : Instr), r.2))) (fun r => Except.ok (r.1, r.2 - pc)) = _
  rw [bz_s2 h1 h2]
  show Except.ok (_, pc + 1 + 2 - pc) = _
  rw [show pc + 1 + 2 - pc = 3 by omega, hv]
theorem bz_d_iflt {code : ByteArray} {pc : Nat} {v : Int} {x y : Nat} (hb : bz_by code pc = some 155) (h1 : bz_by code (pc + 1) = some x) (h2 : bz_by code (pc + 1 + 1) = some y) (hv : Reader.signed 16 (x * 256 + y) = v) : decode code pc = .ok (.ifCond .lt v, 3) := by
  show Except.bind (Except.bind ((Reader.u1 : Decoder Nat) code pc) (fun r => _)) (fun r => _) = _
  rw [bz_u1 hb]
  show Except.bind (Except.bind ((Reader.s2 : Decoder Int) code (pc + 1)) (fun r => Except.ok ((.ifCond .lt (r.1) : Instr), r.2))) (fun r => Except.ok (r.1, r.2 - pc)) = _
  rw [bz_s2 h1 h2]
  show Except.ok (_, pc + 1 + 2 - pc) = _
  rw [show pc + 1 + 2 - pc = 3 by omega, hv]
theorem bz_d_ifge {code : ByteArray} {pc : Nat} {v : Int} {x y : Nat} (hb : bz_by code pc = some 156) (h1 : bz_by code (pc + 1) = some x) (h2 : bz_by code (pc + 1 + 1) = some y) (hv : Reader.signed 16 (x * 256 + y) = v) : decode code pc = .ok (.ifCond .ge v, 3) := by
  show Except.bind (Except.bind ((Reader.u1 : Decoder Nat) code pc) (fun r => _)) (fun r => _) = _
  rw [bz_u1 hb]
  show Except.bind (Except.bind ((Reader.s2 : Decoder Int) code (pc + 1)) (fun r => Except.ok ((.ifCond .ge (r.1) : Instr), r.2))) (fun r => Except.ok (r.1, r.2 - pc)) = _
  rw [bz_s2 h1 h2]
  show Except.ok (_, pc + 1 + 2 - pc) = _
  rw [show pc + 1 + 2 - pc = 3 by omega, hv]
theorem bz_d_ifgt {code : ByteArray} {pc : Nat} {v : Int} {x y : Nat} (hb : bz_by code pc = some 157) (h1 : bz_by code (pc + 1) = some x) (h2 : bz_by code (pc + 1 + 1) = some y) (hv : Reader.signed 16 (x * 256 + y) = v) : decode code pc = .ok (.ifCond .gt v, 3) := by
  show Except.bind (Except.bind ((Reader.u1 : Decoder Nat) code pc) (fun r => _)) (fun r => _) = _
  rw [bz_u1 hb]
  show Except.bind (Except.bind ((Reader.s2 : Decoder Int) code (pc + 1)) (fun r => Except.ok ((.ifCond .gt (r.1) : Instr), r.2))) (fun r => Except.ok (r.1, r.2 - pc)) = _
  rw [bz_s2 h1 h2]
  show Except.ok (_, pc + 1 + 2 - pc) = _
  rw [show pc + 1 + 2 - pc = 3 by omega, hv]
theorem bz_d_ifle {code : ByteArray} {pc : Nat} {v : Int} {x y : Nat} (hb : bz_by code pc = some 158) (h1 : bz_by code (pc + 1) = some x) (h2 : bz_by code (pc + 1 + 1) = some y) (hv : Reader.signed 16 (x * 256 + y) = v) : decode code pc = .ok (.ifCond .le v, 3) := by
  show Except.bind (Except.bind ((Reader.u1 : Decoder Nat) code pc) (fun r => _)) (fun r => _) = _
  rw [bz_u1 hb]
  show Except.bind (Except.bind ((Reader.s2 : Decoder Int) code (pc + 1)) (fun r => Except.ok ((.ifCond .le (r.1) : Instr), r.2))) (fun r => Except.ok (r.1, r.2 - pc)) = _
  rw [bz_s2 h1 h2]
  show Except.ok (_, pc + 1 + 2 - pc) = _
  rw [show pc + 1 + 2 - pc = 3 by omega, hv]
theorem bz_d_iceq {code : ByteArray} {pc : Nat} {v : Int} {x y : Nat} (hb : bz_by code pc = some 159) (h1 : bz_by code (pc + 1) = some x) (h2 : bz_by code (pc + 1 + 1) = some y) (hv : Reader.signed 16 (x * 256 + y) = v) : decode code pc = .ok (.if_icmp .eq v, 3) := by
  show Except.bind (Except.bind ((Reader.u1 : Decoder Nat) code pc) (fun r => _)) (fun r => _) = _
  rw [bz_u1 hb]
  show Except.bind (Except.bind ((Reader.s2 : Decoder Int) code (pc + 1)) (fun r => Except.ok ((.if_icmp .eq (r.1) : Instr), r.2))) (fun r => Except.ok (r.1, r.2 - pc)) = _
  rw [bz_s2 h1 h2]
  show Except.ok (_, pc + 1 + 2 - pc) = _
  rw [show pc + 1 + 2 - pc = 3 by omega, hv]
theorem bz_d_icne {code : ByteArray} {pc : Nat} {v : Int} {x y : Nat} (hb : bz_by code pc = some 160) (h1 : bz_by code (pc + 1) = some x) (h2 : bz_by code (pc + 1 + 1) = some y) (hv : Reader.signed 16 (x * 256 + y) = v) : decode code pc = .ok (.if_icmp .ne v, 3) := by
  show Except.bind (Except.bind ((Reader.u1 : Decoder Nat) code pc) (fun r => _)) (fun r => _) = _
  rw [bz_u1 hb]
  show Except.bind (Except.bind ((Reader.s2 : Decoder Int) code (pc + 1)) (fun r => Except.ok ((.if_icmp .ne (r.1) : Instr), r.2))) (fun r => Except.ok (r.1, r.2 - pc)) = _
  rw [bz_s2 h1 h2]
  show Except.ok (_, pc + 1 + 2 - pc) = _
  rw [show pc + 1 + 2 - pc = 3 by omega, hv]
theorem bz_d_iclt {code : ByteArray} {pc : Nat} {v : Int} {x y : Nat} (hb : bz_by code pc = some 161) (h1 : bz_by code (pc + 1) = some x) (h2 : bz_by code (pc + 1 + 1) = some y) (hv : Reader.signed 16 (x * 256 + y) = v) : decode code pc = .ok (.if_icmp .lt v, 3) := by
  show Except.bind (Except.bind ((Reader.u1 : Decoder Nat) code pc) (fun r => _)) (fun r => _) = _
  rw [bz_u1 hb]
  show Except.bind (Except.bind ((Reader.s2 : Decoder Int) code (pc + 1)) (fun r => Except.ok ((.if_icmp .lt (r.1) : Instr), r.2))) (fun r => Except.ok (r.1, r.2 - pc)) = _
  rw [bz_s2 h1 h2]
  show Except.ok (_, pc + 1 + 2 - pc) = _
  rw [show pc + 1 + 2 - pc = 3 by omega, hv]
theorem bz_d_icge {code : ByteArray} {pc : Nat} {v : Int} {x y : Nat} (hb : bz_by code pc = some 162) (h1 : bz_by code (pc + 1) = some x) (h2 : bz_by code (pc + 1 + 1) = some y) (hv : Reader.signed 16 (x * 256 + y) = v) : decode code pc = .ok (.if_icmp .ge v, 3) := by
  show Except.bind (Except.bind ((Reader.u1 : Decoder Nat) code pc) (fun r => _)) (fun r => _) = _
  rw [bz_u1 hb]
  show Except.bind (Except.bind ((Reader.s2 : Decoder Int) code (pc + 1)) (fun r => Except.ok ((.if_icmp .ge (r.1) : Instr), r.2))) (fun r => Except.ok (r.1, r.2 - pc)) = _
  rw [bz_s2 h1 h2]
  show Except.ok (_, pc + 1 + 2 - pc) = _
  rw [show pc + 1 + 2 - pc = 3 by omega, hv]
theorem bz_d_icgt {code : ByteArray} {pc : Nat} {v : Int} {x y : Nat} (hb : bz_by code pc = some 163) (h1 : bz_by code (pc + 1) = some x) (h2 : bz_by code (pc + 1 + 1) = some y) (hv : Reader.signed 16 (x * 256 + y) = v) : decode code pc = .ok (.if_icmp .gt v, 3) := by
  show Except.bind (Except.bind ((Reader.u1 : Decoder Nat) code pc) (fun r => _)) (fun r => _) = _
  rw [bz_u1 hb]
  show Except.bind (Except.bind ((Reader.s2 : Decoder Int) code (pc + 1)) (fun r => Except.ok ((.if_icmp .gt (r.1) : Instr), r.2))) (fun r => Except.ok (r.1, r.2 - pc)) = _
  rw [bz_s2 h1 h2]
  show Except.ok (_, pc + 1 + 2 - pc) = _
  rw [show pc + 1 + 2 - pc = 3 by omega, hv]
theorem bz_d_icle {code : ByteArray} {pc : Nat} {v : Int} {x y : Nat} (hb : bz_by code pc = some 164) (h1 : bz_by code (pc + 1) = some x) (h2 : bz_by code (pc + 1 + 1) = some y) (hv : Reader.signed 16 (x * 256 + y) = v) : decode code pc = .ok (.if_icmp .le v, 3) := by
  show Except.bind (Except.bind ((Reader.u1 : Decoder Nat) code pc) (fun r => _)) (fun r => _) = _
  rw [bz_u1 hb]
  show Except.bind (Except.bind ((Reader.s2 : Decoder Int) code (pc + 1)) (fun r => Except.ok ((.if_icmp .le (r.1) : Instr), r.2))) (fun r => Except.ok (r.1, r.2 - pc)) = _
  rw [bz_s2 h1 h2]
  show Except.ok (_, pc + 1 + 2 - pc) = _
  rw [show pc + 1 + 2 - pc = 3 by omega, hv]
theorem bz_d_aceq {code : ByteArray} {pc : Nat} {v : Int} {x y : Nat} (hb : bz_by code pc = some 165) (h1 : bz_by code (pc + 1) = some x) (h2 : bz_by code (pc + 1 + 1) = some y) (hv : Reader.signed 16 (x * 256 + y) = v) : decode code pc = .ok (.if_acmp .eq v, 3) := by
  show Except.bind (Except.bind ((Reader.u1 : Decoder Nat) code pc) (fun r => _)) (fun r => _) = _
  rw [bz_u1 hb]
  show Except.bind (Except.bind ((Reader.s2 : Decoder Int) code (pc + 1)) (fun r => Except.ok ((.if_acmp .eq (r.1) : Instr), r.2))) (fun r => Except.ok (r.1, r.2 - pc)) = _
  rw [bz_s2 h1 h2]
  show Except.ok (_, pc + 1 + 2 - pc) = _
  rw [show pc + 1 + 2 - pc = 3 by omega, hv]
theorem bz_d_acne {code : ByteArray} {pc : Nat} {v : Int} {x y : Nat} (hb : bz_by code pc = some 166) (h1 : bz_by code (pc + 1) = some x) (h2 : bz_by code (pc + 1 + 1) = some y) (hv : Reader.signed 16 (x * 256 + y) = v) : decode code pc = .ok (.if_acmp .ne v, 3) := by
  show Except.bind (Except.bind ((Reader.u1 : Decoder Nat) code pc) (fun r => _)) (fun r => _) = _
  rw [bz_u1 hb]
  show Except.bind (Except.bind ((Reader.s2 : Decoder Int) code (pc + 1)) (fun r => Except.ok ((.if_acmp .ne (r.1) : Instr), r.2))) (fun r => Except.ok (r.1, r.2 - pc)) = _
  rw [bz_s2 h1 h2]
  show Except.ok (_, pc + 1 + 2 - pc) = _
  rw [show pc + 1 + 2 - pc = 3 by omega, hv]
theorem bz_d_iinc {code : ByteArray} {pc : Nat} {k : Nat} {v : Int} {x y : Nat} (hb : bz_by code pc = some 132) (h1 : bz_by code (pc + 1) = some x) (h2 : bz_by code (pc + 1 + 1) = some y) (hk : x = k) (hv : Reader.signed 8 y = v) : decode code pc = .ok (.iinc k v, 3) := by
  show Except.bind (Except.bind ((Reader.u1 : Decoder Nat) code pc) (fun r => _)) (fun r => _) = _
  rw [bz_u1 hb]
  show Except.bind (Except.bind ((Reader.u1 : Decoder Nat) code (pc + 1)) (fun r => Except.bind ((Reader.s1 : Decoder Int) code r.2) (fun r2 => Except.ok (Instr.iinc r.1 r2.1, r2.2)))) (fun r => Except.ok (r.1, r.2 - pc)) = _
  rw [bz_u1 h1]
  dsimp only [Except.bind]
  rw [bz_s1 h2]
  show Except.ok (_, pc + 1 + 1 + 1 - pc) = _
  rw [show pc + 1 + 1 + 1 - pc = 3 by omega, hv, hk]
theorem bz_d_na_boolean {code : ByteArray} {pc : Nat} (hb : bz_by code pc = some 188) (h1 : bz_by code (pc + 1) = some 4) : decode code pc = .ok (.newarray .boolean, 2) := by
  show Except.bind (Except.bind ((Reader.u1 : Decoder Nat) code pc) (fun r => _)) (fun r => _) = _
  rw [bz_u1 hb]
  show Except.bind (Except.bind ((Reader.u1 : Decoder Nat) code (pc + 1)) (fun r => _)) (fun r => _) = _
  rw [bz_u1 h1]
  show Except.ok ((.newarray .boolean : Instr), pc + 1 + 1 - pc) = _
  rw [show pc + 1 + 1 - pc = 2 by omega]
theorem bz_d_na_char {code : ByteArray} {pc : Nat} (hb : bz_by code pc = some 188) (h1 : bz_by code (pc + 1) = some 5) : decode code pc = .ok (.newarray .char, 2) := by
  show Except.bind (Except.bind ((Reader.u1 : Decoder Nat) code pc) (fun r => _)) (fun r => _) = _
  rw [bz_u1 hb]
  show Except.bind (Except.bind ((Reader.u1 : Decoder Nat) code (pc + 1)) (fun r => _)) (fun r => _) = _
  rw [bz_u1 h1]
  show Except.ok ((.newarray .char : Instr), pc + 1 + 1 - pc) = _
  rw [show pc + 1 + 1 - pc = 2 by omega]
theorem bz_d_na_byte {code : ByteArray} {pc : Nat} (hb : bz_by code pc = some 188) (h1 : bz_by code (pc + 1) = some 8) : decode code pc = .ok (.newarray .byte, 2) := by
  show Except.bind (Except.bind ((Reader.u1 : Decoder Nat) code pc) (fun r => _)) (fun r => _) = _
  rw [bz_u1 hb]
  show Except.bind (Except.bind ((Reader.u1 : Decoder Nat) code (pc + 1)) (fun r => _)) (fun r => _) = _
  rw [bz_u1 h1]
  show Except.ok ((.newarray .byte : Instr), pc + 1 + 1 - pc) = _
  rw [show pc + 1 + 1 - pc = 2 by omega]
theorem bz_d_na_int {code : ByteArray} {pc : Nat} (hb : bz_by code pc = some 188) (h1 : bz_by code (pc + 1) = some 10) : decode code pc = .ok (.newarray .int, 2) := by
  show Except.bind (Except.bind ((Reader.u1 : Decoder Nat) code pc) (fun r => _)) (fun r => _) = _
  rw [bz_u1 hb]
  show Except.bind (Except.bind ((Reader.u1 : Decoder Nat) code (pc + 1)) (fun r => _)) (fun r => _) = _
  rw [bz_u1 h1]
  show Except.ok ((.newarray .int : Instr), pc + 1 + 1 - pc) = _
  rw [show pc + 1 + 1 - pc = 2 by omega]
theorem bz_d_na_long {code : ByteArray} {pc : Nat} (hb : bz_by code pc = some 188) (h1 : bz_by code (pc + 1) = some 11) : decode code pc = .ok (.newarray .long, 2) := by
  show Except.bind (Except.bind ((Reader.u1 : Decoder Nat) code pc) (fun r => _)) (fun r => _) = _
  rw [bz_u1 hb]
  show Except.bind (Except.bind ((Reader.u1 : Decoder Nat) code (pc + 1)) (fun r => _)) (fun r => _) = _
  rw [bz_u1 h1]
  show Except.ok ((.newarray .long : Instr), pc + 1 + 1 - pc) = _
  rw [show pc + 1 + 1 - pc = 2 by omega]
/-- the bytes of an instruction; none: it is looked at otherwise -/
def bz_enc (i : Instr) : List Nat := match i with
  | .aconst_null => [1]
  | .iaload => [46]
  | .laload => [47]
  | .aaload => [50]
  | .baload => [51]
  | .caload => [52]
  | .iastore => [79]
  | .lastore => [80]
  | .aastore => [83]
  | .bastore => [84]
  | .castore => [85]
  | .pop => [87]
  | .dup => [89]
  | .dup2 => [92]
  | .iadd => [96]
  | .ladd => [97]
  | .isub => [100]
  | .lsub => [101]
  | .imul => [104]
  | .lmul => [105]
  | .idiv => [108]
  | .ldiv => [109]
  | .irem => [112]
  | .lrem => [113]
  | .ineg => [116]
  | .ishl => [120]
  | .ishr => [122]
  | .iushr => [124]
  | .iand => [126]
  | .land => [127]
  | .ior => [128]
  | .lor => [129]
  | .ixor => [130]
  | .i2l => [133]
  | .l2i => [136]
  | .i2b => [145]
  | .i2c => [146]
  | .lcmp => [148]
  | .ireturn => [172]
  | .lreturn => [173]
  | .areturn => [176]
  | .return_ => [177]
  | .arraylength => [190]
  | .iconst n => [(n + 3).toNat]
  | .lconst n => [9 + n.val]
  | .iload_n k => [26 + k.val]
  | .lload_n k => [30 + k.val]
  | .aload_n k => [42 + k.val]
  | .istore_n k => [59 + k.val]
  | .lstore_n k => [63 + k.val]
  | .astore_n k => [75 + k.val]
  | .iload x => [21, x]
  | .lload x => [22, x]
  | .aload x => [25, x]
  | .istore x => [54, x]
  | .lstore x => [55, x]
  | .astore x => [58, x]
  | .ldc x => [18, x]
  | .bipush n => [16, (n % 256).toNat]
  | .ldc_w x => [19, x / 256, x % 256]
  | .ldc2_w x => [20, x / 256, x % 256]
  | .getstatic x => [178, x / 256, x % 256]
  | .getfield x => [180, x / 256, x % 256]
  | .putfield x => [181, x / 256, x % 256]
  | .invokevirtual x => [182, x / 256, x % 256]
  | .invokespecial x => [183, x / 256, x % 256]
  | .invokestatic x => [184, x / 256, x % 256]
  | .new x => [187, x / 256, x % 256]
  | .anewarray x => [189, x / 256, x % 256]
  | .sipush n => [17, (n % 65536).toNat / 256, (n % 65536).toNat % 256]
  | .goto n => [167, (n % 65536).toNat / 256, (n % 65536).toNat % 256]
  | .ifnull n => [198, (n % 65536).toNat / 256, (n % 65536).toNat % 256]
  | .ifCond .eq n => [153, (n % 65536).toNat / 256, (n % 65536).toNat % 256]
  | .ifCond .ne n => [154, (n % 65536).toNat / 256, (n % 65536).toNat % 256]
  | .ifCond .lt n => [155, (n % 65536).toNat / 256, (n % 65536).toNat % 256]
  | .ifCond .ge n => [156, (n % 65536).toNat / 256, (n % 65536).toNat % 256]
  | .ifCond .gt n => [157, (n % 65536).toNat / 256, (n % 65536).toNat % 256]
  | .ifCond .le n => [158, (n % 65536).toNat / 256, (n % 65536).toNat % 256]
  | .if_icmp .eq n => [159, (n % 65536).toNat / 256, (n % 65536).toNat % 256]
  | .if_icmp .ne n => [160, (n % 65536).toNat / 256, (n % 65536).toNat % 256]
  | .if_icmp .lt n => [161, (n % 65536).toNat / 256, (n % 65536).toNat % 256]
  | .if_icmp .ge n => [162, (n % 65536).toNat / 256, (n % 65536).toNat % 256]
  | .if_icmp .gt n => [163, (n % 65536).toNat / 256, (n % 65536).toNat % 256]
  | .if_icmp .le n => [164, (n % 65536).toNat / 256, (n % 65536).toNat % 256]
  | .if_acmp .eq n => [165, (n % 65536).toNat / 256, (n % 65536).toNat % 256]
  | .if_acmp .ne n => [166, (n % 65536).toNat / 256, (n % 65536).toNat % 256]
  | .iinc k n => [132, k, (n % 256).toNat]
  | .newarray .boolean => [188, 4]
  | .newarray .char => [188, 5]
  | .newarray .byte => [188, 8]
  | .newarray .int => [188, 10]
  | .newarray .long => [188, 11]
  | _ => []
def bz_rng (i : Instr) : Bool := match i with
  | .iconst n => decide (-1 ≤ n ∧ n ≤ 5)
  | .bipush n => decide (-128 ≤ n ∧ n < 128)
  | .iinc _ n => decide (-128 ≤ n ∧ n < 128)
  | .sipush n => decide (-32768 ≤ n ∧ n < 32768)
  | .goto n => decide (-32768 ≤ n ∧ n < 32768)
  | .ifnull n => decide (-32768 ≤ n ∧ n < 32768)
  | .ifCond .eq n => decide (-32768 ≤ n ∧ n < 32768)
  | .ifCond .ne n => decide (-32768 ≤ n ∧ n < 32768)
  | .ifCond .lt n => decide (-32768 ≤ n ∧ n < 32768)
  | .ifCond .ge n => decide (-32768 ≤ n ∧ n < 32768)
  | .ifCond .gt n => decide (-32768 ≤ n ∧ n < 32768)
  | .ifCond .le n => decide (-32768 ≤ n ∧ n < 32768)
  | .if_icmp .eq n => decide (-32768 ≤ n ∧ n < 32768)
  | .if_icmp .ne n => decide (-32768 ≤ n ∧ n < 32768)
  | .if_icmp .lt n => decide (-32768 ≤ n ∧ n < 32768)
  | .if_icmp .ge n => decide (-32768 ≤ n ∧ n < 32768)
  | .if_icmp .gt n => decide (-32768 ≤ n ∧ n < 32768)
  | .if_icmp .le n => decide (-32768 ≤ n ∧ n < 32768)
  | .if_acmp .eq n => decide (-32768 ≤ n ∧ n < 32768)
  | .if_acmp .ne n => decide (-32768 ≤ n ∧ n < 32768)
  | _ => true
theorem bz_all1 {code : ByteArray} {pc a : Nat} (h : ∀ (j b : Nat), [a][j]? = some b → bz_by code (pc + j) = some b) : bz_by code pc = some a := h 0 a rfl
theorem bz_all2 {code : ByteArray} {pc a b : Nat} (h : ∀ (j z : Nat), [a, b][j]? = some z → bz_by code (pc + j) = some z) : bz_by code pc = some a ∧ bz_by code (pc + 1) = some b := ⟨h 0 a rfl, h 1 b rfl⟩
theorem bz_all3 {code : ByteArray} {pc a b c : Nat} (h : ∀ (j z : Nat), [a, b, c][j]? = some z → bz_by code (pc + j) = some z) : bz_by code pc = some a ∧ bz_by code (pc + 1) = some b ∧ bz_by code (pc + 1 + 1) = some c := ⟨h 0 a rfl, h 1 b rfl, h 2 c rfl⟩
set_option maxHeartbeats 4000000 in
theorem bz_dec {code : ByteArray} {pc : Nat} {i : Instr} (hne : bz_enc i ≠ []) (hr : bz_rng i = true) (h : ∀ (j b : Nat), (bz_enc i)[j]? = some b → bz_by code (pc + j) = some b) : decode code pc = .ok (i, (bz_enc i).length) := by
  cases i
  case aconst_null => exact bz_d_aconst_null (bz_all1 h)
  case iaload => exact bz_d_iaload (bz_all1 h)
  case laload => exact bz_d_laload (bz_all1 h)
  case aaload => exact bz_d_aaload (bz_all1 h)
  case baload => exact bz_d_baload (bz_all1 h)
  case caload => exact bz_d_caload (bz_all1 h)
  case iastore => exact bz_d_iastore (bz_all1 h)
  case lastore => exact bz_d_lastore (bz_all1 h)
  case aastore => exact bz_d_aastore (bz_all1 h)
  case bastore => exact bz_d_bastore (bz_all1 h)
  case castore => exact bz_d_castore (bz_all1 h)
  case pop => exact bz_d_pop (bz_all1 h)
  case dup => exact bz_d_dup (bz_all1 h)
  case dup2 => exact bz_d_dup2 (bz_all1 h)
  case iadd => exact bz_d_iadd (bz_all1 h)
  case ladd => exact bz_d_ladd (bz_all1 h)
  case isub => exact bz_d_isub (bz_all1 h)
  case lsub => exact bz_d_lsub (bz_all1 h)
  case imul => exact bz_d_imul (bz_all1 h)
  case lmul => exact bz_d_lmul (bz_all1 h)
  case idiv => exact bz_d_idiv (bz_all1 h)
  case ldiv => exact bz_d_ldiv (bz_all1 h)
  case irem => exact bz_d_irem (bz_all1 h)
  case lrem => exact bz_d_lrem (bz_all1 h)
  case ineg => exact bz_d_ineg (bz_all1 h)
  case ishl => exact bz_d_ishl (bz_all1 h)
  case ishr => exact bz_d_ishr (bz_all1 h)
  case iushr => exact bz_d_iushr (bz_all1 h)
  case iand => exact bz_d_iand (bz_all1 h)
  case land => exact bz_d_land (bz_all1 h)
  case ior => exact bz_d_ior (bz_all1 h)
  case lor => exact bz_d_lor (bz_all1 h)
  case ixor => exact bz_d_ixor (bz_all1 h)
  case i2l => exact bz_d_i2l (bz_all1 h)
  case l2i => exact bz_d_l2i (bz_all1 h)
  case i2b => exact bz_d_i2b (bz_all1 h)
  case i2c => exact bz_d_i2c (bz_all1 h)
  case lcmp => exact bz_d_lcmp (bz_all1 h)
  case ireturn => exact bz_d_ireturn (bz_all1 h)
  case lreturn => exact bz_d_lreturn (bz_all1 h)
  case areturn => exact bz_d_areturn (bz_all1 h)
  case return_ => exact bz_d_return_ (bz_all1 h)
  case arraylength => exact bz_d_arraylength (bz_all1 h)
  case iconst n =>
    have hr : -1 ≤ n ∧ n ≤ 5 := of_decide_eq_true hr
    have h1 := bz_all1 h
    have hn : n = -1 ∨ n = 0 ∨ n = 1 ∨ n = 2 ∨ n = 3 ∨ n = 4 ∨ n = 5 := by omega
    rcases hn with rfl | rfl | rfl | rfl | rfl | rfl | rfl
    · exact bz_d_iconst0 h1
    · exact bz_d_iconst1 h1
    · exact bz_d_iconst2 h1
    · exact bz_d_iconst3 h1
    · exact bz_d_iconst4 h1
    · exact bz_d_iconst5 h1
    · exact bz_d_iconst6 h1
  case lconst n =>
    have h1 := bz_all1 h
    have hn : n = 0 ∨ n = 1 := by omega
    rcases hn with rfl | rfl
    · exact bz_d_lconst0 h1
    · exact bz_d_lconst1 h1
  case iload_n k =>
    have h1 := bz_all1 h
    have hn : k = 0 ∨ k = 1 ∨ k = 2 ∨ k = 3 := by omega
    rcases hn with rfl | rfl | rfl | rfl
    · exact bz_d_iload_n0 h1
    · exact bz_d_iload_n1 h1
    · exact bz_d_iload_n2 h1
    · exact bz_d_iload_n3 h1
  case lload_n k =>
    have h1 := bz_all1 h
    have hn : k = 0 ∨ k = 1 ∨ k = 2 ∨ k = 3 := by omega
    rcases hn with rfl | rfl | rfl | rfl
    · exact bz_d_lload_n0 h1
    · exact bz_d_lload_n1 h1
    · exact bz_d_lload_n2 h1
    · exact bz_d_lload_n3 h1
  case aload_n k =>
    have h1 := bz_all1 h
    have hn : k = 0 ∨ k = 1 ∨ k = 2 ∨ k = 3 := by omega
    rcases hn with rfl | rfl | rfl | rfl
    · exact bz_d_aload_n0 h1
    · exact bz_d_aload_n1 h1
    · exact bz_d_aload_n2 h1
    · exact bz_d_aload_n3 h1
  case istore_n k =>
    have h1 := bz_all1 h
    have hn : k = 0 ∨ k = 1 ∨ k = 2 ∨ k = 3 := by omega
    rcases hn with rfl | rfl | rfl | rfl
    · exact bz_d_istore_n0 h1
    · exact bz_d_istore_n1 h1
    · exact bz_d_istore_n2 h1
    · exact bz_d_istore_n3 h1
  case lstore_n k =>
    have h1 := bz_all1 h
    have hn : k = 0 ∨ k = 1 ∨ k = 2 ∨ k = 3 := by omega
    rcases hn with rfl | rfl | rfl | rfl
    · exact bz_d_lstore_n0 h1
    · exact bz_d_lstore_n1 h1
    · exact bz_d_lstore_n2 h1
    · exact bz_d_lstore_n3 h1
  case astore_n k =>
    have h1 := bz_all1 h
    have hn : k = 0 ∨ k = 1 ∨ k = 2 ∨ k = 3 := by omega
    rcases hn with rfl | rfl | rfl | rfl
    · exact bz_d_astore_n0 h1
    · exact bz_d_astore_n1 h1
    · exact bz_d_astore_n2 h1
    · exact bz_d_astore_n3 h1
  case iload x => exact bz_d_iload (bz_all2 h).1 (bz_all2 h).2 rfl
  case lload x => exact bz_d_lload (bz_all2 h).1 (bz_all2 h).2 rfl
  case aload x => exact bz_d_aload (bz_all2 h).1 (bz_all2 h).2 rfl
  case istore x => exact bz_d_istore (bz_all2 h).1 (bz_all2 h).2 rfl
  case lstore x => exact bz_d_lstore (bz_all2 h).1 (bz_all2 h).2 rfl
  case astore x => exact bz_d_astore (bz_all2 h).1 (bz_all2 h).2 rfl
  case ldc x => exact bz_d_ldc (bz_all2 h).1 (bz_all2 h).2 rfl
  case bipush n => exact bz_d_bipush (bz_all2 h).1 (bz_all2 h).2 (bz_sg8 (of_decide_eq_true hr))
  case ldc_w x => exact bz_d_ldc_w (bz_all3 h).1 (bz_all3 h).2.1 (bz_all3 h).2.2 (by omega)
  case ldc2_w x => exact bz_d_ldc2_w (bz_all3 h).1 (bz_all3 h).2.1 (bz_all3 h).2.2 (by omega)
  case getstatic x => exact bz_d_getstatic (bz_all3 h).1 (bz_all3 h).2.1 (bz_all3 h).2.2 (by omega)
  case getfield x => exact bz_d_getfield (bz_all3 h).1 (bz_all3 h).2.1 (bz_all3 h).2.2 (by omega)
  case putfield x => exact bz_d_putfield (bz_all3 h).1 (bz_all3 h).2.1 (bz_all3 h).2.2 (by omega)
  case invokevirtual x => exact bz_d_invokevirtual (bz_all3 h).1 (bz_all3 h).2.1 (bz_all3 h).2.2 (by omega)
  case invokespecial x => exact bz_d_invokespecial (bz_all3 h).1 (bz_all3 h).2.1 (bz_all3 h).2.2 (by omega)
  case invokestatic x => exact bz_d_invokestatic (bz_all3 h).1 (bz_all3 h).2.1 (bz_all3 h).2.2 (by omega)
  case new x => exact bz_d_new (bz_all3 h).1 (bz_all3 h).2.1 (bz_all3 h).2.2 (by omega)
  case anewarray x => exact bz_d_anewarray (bz_all3 h).1 (bz_all3 h).2.1 (bz_all3 h).2.2 (by omega)
  case sipush n => exact bz_d_sipush (bz_all3 h).1 (bz_all3 h).2.1 (bz_all3 h).2.2 (bz_sg16 (of_decide_eq_true hr))
  case goto n => exact bz_d_goto (bz_all3 h).1 (bz_all3 h).2.1 (bz_all3 h).2.2 (bz_sg16 (of_decide_eq_true hr))
  case ifnull n => exact bz_d_ifnull (bz_all3 h).1 (bz_all3 h).2.1 (bz_all3 h).2.2 (bz_sg16 (of_decide_eq_true hr))
  case ifCond c n =>
    cases c
    · exact bz_d_ifeq (bz_all3 h).1 (bz_all3 h).2.1 (bz_all3 h).2.2 (bz_sg16 (of_decide_eq_true hr))
    · exact bz_d_ifne (bz_all3 h).1 (bz_all3 h).2.1 (bz_all3 h).2.2 (bz_sg16 (of_decide_eq_true hr))
    · exact bz_d_iflt (bz_all3 h).1 (bz_all3 h).2.1 (bz_all3 h).2.2 (bz_sg16 (of_decide_eq_true hr))
    · exact bz_d_ifge (bz_all3 h).1 (bz_all3 h).2.1 (bz_all3 h).2.2 (bz_sg16 (of_decide_eq_true hr))
    · exact bz_d_ifgt (bz_all3 h).1 (bz_all3 h).2.1 (bz_all3 h).2.2 (bz_sg16 (of_decide_eq_true hr))
    · exact bz_d_ifle (bz_all3 h).1 (bz_all3 h).2.1 (bz_all3 h).2.2 (bz_sg16 (of_decide_eq_true hr))
  case if_icmp c n =>
    cases c
    · exact bz_d_iceq (bz_all3 h).1 (bz_all3 h).2.1 (bz_all3 h).2.2 (bz_sg16 (of_decide_eq_true hr))
    · exact bz_d_icne (bz_all3 h).1 (bz_all3 h).2.1 (bz_all3 h).2.2 (bz_sg16 (of_decide_eq_true hr))
    · exact bz_d_iclt (bz_all3 h).1 (bz_all3 h).2.1 (bz_all3 h).2.2 (bz_sg16 (of_decide_eq_true hr))
    · exact bz_d_icge (bz_all3 h).1 (bz_all3 h).2.1 (bz_all3 h).2.2 (bz_sg16 (of_decide_eq_true hr))
    · exact bz_d_icgt (bz_all3 h).1 (bz_all3 h).2.1 (bz_all3 h).2.2 (bz_sg16 (of_decide_eq_true hr))
    · exact bz_d_icle (bz_all3 h).1 (bz_all3 h).2.1 (bz_all3 h).2.2 (bz_sg16 (of_decide_eq_true hr))
  case if_acmp c n =>
    cases c
    · exact bz_d_aceq (bz_all3 h).1 (bz_all3 h).2.1 (bz_all3 h).2.2 (bz_sg16 (of_decide_eq_true hr))
    · exact bz_d_acne (bz_all3 h).1 (bz_all3 h).2.1 (bz_all3 h).2.2 (bz_sg16 (of_decide_eq_true hr))
  case iinc k n => exact bz_d_iinc (bz_all3 h).1 (bz_all3 h).2.1 (bz_all3 h).2.2 rfl (bz_sg8 (of_decide_eq_true hr))
  case newarray a =>
    cases a
    · exact bz_d_na_boolean (bz_all2 h).1 (bz_all2 h).2
    · exact bz_d_na_char (bz_all2 h).1 (bz_all2 h).2
    · exact absurd rfl hne
    · exact absurd rfl hne
    · exact bz_d_na_byte (bz_all2 h).1 (bz_all2 h).2
    · exact absurd rfl hne
    · exact bz_d_na_int (bz_all2 h).1 (bz_all2 h).2
    · exact bz_d_na_long (bz_all2 h).1 (bz_all2 h).2
  all_goals exact absurd rfl hne
/-- bytes, from a place on, against rows: n: where we are -/
def bz_pre : List Nat → List UInt8 → Bool
  | [], _ => true
  | _ :: _, [] => false
  | a :: as, b :: bs => (a == b.toNat) && bz_pre as bs
def bz_isw (i : Instr) : Bool := match i with
  | .tableswitch _ _ _ _ => true
  | .lookupswitch _ _ => true
  | _ => false
/-- switches are looked at by themselves -/
def bz_walk : Nat → List UInt8 → List (Nat × bz_E) → Bool
  | _, _, [] => true
  | n, bs, q :: qs => decide (n ≤ q.1) && (bz_isw q.2.1 || (bz_pre (bz_enc q.2.1) (bs.drop (q.1 - n)) && bz_rng q.2.1 && decide (bz_enc q.2.1 ≠ []) && decide (q.2.2.1 = (bz_enc q.2.1).length))) && bz_walk q.1 (bs.drop (q.1 - n)) qs
theorem bz_pre_at : ∀ (as : List Nat) (bs : List UInt8), bz_pre as bs = true → ∀ (j b : Nat), as[j]? = some b → (bs[j]?).map (fun (z : UInt8) => z.toNat) = some b
  | [], _, _, j, b, h => by simp at h
  | a :: as, [], h, _, _, _ => by cases h
  | a :: as, z :: bs, h, j, b, hj => by
    unfold bz_pre at h
    rw [Bool.and_eq_true] at h
    cases j with
    | zero =>
      rw [List.getElem?_cons_zero] at hj ⊢
      cases hj
      have := eq_of_beq h.1
      rw [this]; rfl
    | succ j =>
      rw [List.getElem?_cons_succ] at hj ⊢
      exact bz_pre_at as bs h.2 j b hj
theorem bz_walk_at (code : ByteArray) : ∀ (qs : List (Nat × bz_E)) (n : Nat) (bs : List UInt8), bs = code.data.toList.drop n → bz_walk n bs qs = true → ∀ q ∈ qs, bz_isw q.2.1 = true ∨ decode code q.1 = .ok (q.2.1, q.2.2.1)
  | [], _, _, _, _, q, hq => absurd hq List.not_mem_nil
  | a :: qs, n, bs, hbs, h, q, hq => by
    unfold bz_walk at h
    rw [Bool.and_eq_true, Bool.and_eq_true, Bool.or_eq_true] at h
    obtain ⟨⟨h1, h2⟩, h3⟩ := h
    have h1 := of_decide_eq_true h1
    have hd : bs.drop (a.1 - n) = code.data.toList.drop a.1 := by
      rw [hbs, List.drop_drop]
      congr 1
      omega
    rcases List.mem_cons.mp hq with rfl | hq
    · rcases h2 with h2 | h2
      · exact Or.inl h2
      · right
        simp only [Bool.and_eq_true, decide_eq_true_eq] at h2
        obtain ⟨⟨⟨g1, g2⟩, g3⟩, g4⟩ := h2
        rw [g4]
        refine bz_dec g3 g2 (fun j b hj => ?_)
        have := bz_pre_at _ _ g1 j b hj
        rw [hd, List.getElem?_drop] at this
        unfold bz_by
        exact this
    · exact bz_walk_at code qs a.1 _ hd h3 q hq
noncomputable def bz_wk (m : Nat) : Bool := bz_walk 0 (bz_cc m).data.toList (bz_tbl.getD m [])

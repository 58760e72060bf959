/-! WORDS (3): the methods' bytes -/
def bz_leq : List UInt8 → List UInt8 → Bool
  | [], [] => true
  | a :: as, b :: bs => Nat.beq a.toNat b.toNat && bz_leq as bs
  | _, _ => false
theorem bz_leq_ok : ∀ (a b : List UInt8), bz_leq a b = true → a = b
  | [], [], _ => rfl
  | a :: as, b :: bs, h => by
    unfold bz_leq at h
    rw [Bool.and_eq_true] at h
    have h1 : a = b := UInt8.toNat_inj.mp (Nat.eq_of_beq_eq_true h.1)
    rw [h1, bz_leq_ok as bs h.2]
  | [], _ :: _, h => by cases h
  | _ :: _, [], h => by cases h
def bz_cb (y : MethodName) (cc : ByteArray) (nL : Nat) (ret : Option FieldType) (m : Nat) : Bool := bz_leq cc.data.toList (bz_cc m).data.toList && Nat.beq nL (bz_nL m) && decide (ret = bz_rtt m)
theorem bz_cb_ok {y : MethodName} {cc : ByteArray} {nL : Nat} {ret : Option FieldType} {m : Nat} (hy : y = bz_y m) (h : bz_cb y cc nL ret m = true) : Cond.code (bz_y m) (bz_cc m) (bz_nL m) (bz_rtt m) = Cond.code y cc nL ret := by
  unfold bz_cb at h
  rw [Bool.and_eq_true, Bool.and_eq_true] at h
  obtain ⟨⟨h1, h2⟩, h3⟩ := h
  have e1 : cc = bz_cc m := by
    have h4 := bz_leq_ok _ _ h1
    have h5 : cc.data = (bz_cc m).data := Array.toList_inj.mp h4
    exact ByteArray.ext h5
  rw [hy, e1, Nat.eq_of_beq_eq_true h2, of_decide_eq_true h3]
def bz_subC : List Nat → List Cond → Bool
  | [], _ => true
  | _ :: _, [] => false
  | m :: ms, w :: ws => match w with
    | .code y cc nL ret => if y = bz_y m then bz_cb y cc nL ret m && bz_subC ms ws else bz_subC (m :: ms) ws
    | _ => bz_subC (m :: ms) ws
theorem bz_subC_ok : ∀ (ws : List Cond) (ms : List Nat), bz_subC ms ws = true → ∀ m ∈ ms, Cond.code (bz_y m) (bz_cc m) (bz_nL m) (bz_rtt m) ∈ ws
  | _, [], _, m, h => absurd h List.not_mem_nil
  | [], _ :: _, h, _, _ => by cases h
  | w :: ws, a :: ms, h, m, hm => by
    unfold bz_subC at h
    split at h
    · rename_i y cc nL ret
      split at h
      · rename_i e
        rw [Bool.and_eq_true] at h
        rcases List.mem_cons.mp hm with rfl | hm
        · rw [bz_cb_ok e h.1]; exact List.mem_cons_self
        · exact List.mem_cons_of_mem _ (bz_subC_ok ws ms h.2 m hm)
      · exact List.mem_cons_of_mem _ (bz_subC_ok ws (a :: ms) h m hm)
    · exact List.mem_cons_of_mem _ (bz_subC_ok ws (a :: ms) h m hm)
theorem bz_Ts_c0 {ms : List Nat} (h : bz_subC ms tables_1 = true) {m : Nat} (hm : m ∈ ms) : Cond.code (bz_y m) (bz_cc m) (bz_nL m) (bz_rtt m) ∈ bz_Ts :=
  List.mem_filter.mpr ⟨bz_tbl_in (bz_subC_ok _ _ h m hm), rfl⟩
def bz_cm0 : List Nat := [109, 84, 48, 1, 31, 98, 53, 73, 44, 13, 9, 110, 144, 85, 111, 145, 112, 99, 100, 4, 2, 3, 86, 87, 88, 89, 311, 313, 312, 314, 315, 90, 101, 96, 92, 97, 102, 94, 103, 104, 105, 93, 108, 106, 107, 32, 39, 40, 41, 91, 34, 95, 42]
set_option maxRecDepth 100000 in
theorem bz_cm0_in : bz_subC bz_cm0 tables_1 = true := by decide +kernel
def bz_cm1 : List Nat := [43, 33, 35, 36, 37, 38, 54, 74, 45, 113, 114, 64, 62, 63, 56, 305, 5, 6, 7, 8, 309, 307, 154, 151, 308, 115, 149, 116, 147, 57, 60, 59, 58, 117, 148, 118, 61, 119, 120, 121, 150, 14, 55, 75, 65, 66, 67, 68, 122, 146, 123, 15, 124]
set_option maxRecDepth 100000 in
theorem bz_cm1_in : bz_subC bz_cm1 tables_1 = true := by decide +kernel
def bz_cm2 : List Nat := [16, 20, 19, 17, 18, 125, 21, 22, 23, 310, 126, 72, 127, 24, 70, 128, 10, 12, 11, 306, 129, 25, 130, 26, 27, 131, 28, 29, 30, 132, 46, 133, 134, 71, 135, 152, 136, 153, 69, 137, 47, 138, 139, 49, 50, 52, 51, 140, 77, 78, 79, 141, 142]
set_option maxRecDepth 100000 in
theorem bz_cm2_in : bz_subC bz_cm2 tables_1 = true := by decide +kernel
def bz_cm3 : List Nat := [80, 76, 83, 81, 82, 143, 155, 157, 158, 181, 172, 165, 164, 163, 162, 160, 159, 168, 161, 156, 167, 166, 180, 175, 173, 174, 176, 177, 178, 170, 169, 179, 282, 266, 279, 265, 278, 276, 273, 272, 171, 274, 275, 268, 277, 270, 269, 271, 267, 281, 283, 280, 182]
set_option maxRecDepth 100000 in
theorem bz_cm3_in : bz_subC bz_cm3 tables_1 = true := by decide +kernel
def bz_cm4 : List Nat := [183, 223, 186, 208, 184, 206, 192, 191, 193, 205, 194, 190, 203, 286, 288, 196, 202, 201, 200, 198, 199, 197, 287, 284, 285, 221, 220, 224, 189, 225, 187, 195, 226, 188, 185, 227, 204, 228, 207, 229, 230, 218, 215, 214, 213, 211, 210, 212, 209, 217, 216, 231, 222]
set_option maxRecDepth 100000 in
theorem bz_cm4_in : bz_subC bz_cm4 tables_1 = true := by decide +kernel
def bz_cm5 : List Nat := [232, 237, 234, 235, 233, 236, 240, 238, 219, 239, 241, 243, 242, 247, 246, 245, 244, 249, 248, 252, 251, 250, 254, 253, 256, 258, 255, 259, 257, 260, 261, 262, 264, 263, 293, 291, 290, 289, 292, 297, 296, 295, 294, 298, 303, 302, 301, 300, 299, 304]
set_option maxRecDepth 100000 in
theorem bz_cm5_in : bz_subC bz_cm5 tables_1 = true := by decide +kernel
set_option maxRecDepth 100000 in
theorem bz_cml_eq : bz_cml = bz_cm0 ++ (bz_cm1 ++ (bz_cm2 ++ (bz_cm3 ++ (bz_cm4 ++ (bz_cm5))))) := by decide +kernel
theorem bz_Ts_co {m : Nat} (h : m ∈ bz_cml) : Cond.code (bz_y m) (bz_cc m) (bz_nL m) (bz_rtt m) ∈ bz_Ts := by
  rw [bz_cml_eq] at h
  rcases List.mem_append.mp h with h | h
  · exact bz_Ts_c0 bz_cm0_in h
  rcases List.mem_append.mp h with h | h
  · exact bz_Ts_c0 bz_cm1_in h
  rcases List.mem_append.mp h with h | h
  · exact bz_Ts_c0 bz_cm2_in h
  rcases List.mem_append.mp h with h | h
  · exact bz_Ts_c0 bz_cm3_in h
  rcases List.mem_append.mp h with h | h
  · exact bz_Ts_c0 bz_cm4_in h
  exact bz_Ts_c0 bz_cm5_in h

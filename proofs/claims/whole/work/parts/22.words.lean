/-! WORDS: all that the rows name stand in the tables -/
noncomputable def bz_spw : List Cond := [(Jvm.Cond.methodLink "BentRiver" (3 : Nat) ({ cls := "java/lang/Object", name := "<init>", desc := "()V" } : Jvm.MethodName)), (Jvm.Cond.instanceMethod ({ cls := "java/lang/Object", name := "<init>", desc := "()V" } : Jvm.MethodName)), (Jvm.Cond.code ({ cls := "java/lang/Object", name := "<init>", desc := "()V" } : Jvm.MethodName) object_method_1_code (1 : Nat) (Option.none : Option Jvm.ClassFile.FieldType)), (Jvm.Cond.methodLink "BentRiver$Text" (3 : Nat) ({ cls := "java/lang/Object", name := "<init>", desc := "()V" } : Jvm.MethodName)), (Jvm.Cond.arrayClass Jvm.ClassFile.FieldType.byte), (Jvm.Cond.methodLink "BentRiver$Question" (3 : Nat) ({ cls := "java/lang/Object", name := "<init>", desc := "()V" } : Jvm.MethodName)), (Jvm.Cond.methodLink "BentRiver$Code" (3 : Nat) ({ cls := "java/lang/Object", name := "<init>", desc := "()V" } : Jvm.MethodName)), (Jvm.Cond.arrayClass Jvm.ClassFile.FieldType.int), (Jvm.Cond.methodLink "BentRiver$Grammar" (3 : Nat) ({ cls := "java/lang/Object", name := "<init>", desc := "()V" } : Jvm.MethodName)), (Jvm.Cond.methodLink "BentRiver$Valley" (3 : Nat) ({ cls := "java/lang/Object", name := "<init>", desc := "()V" } : Jvm.MethodName)), (Jvm.Cond.methodLink "BentRiver$River" (3 : Nat) ({ cls := "java/lang/Object", name := "<init>", desc := "()V" } : Jvm.MethodName)), (Jvm.Cond.methodLink "BentRiver$State" (3 : Nat) ({ cls := "java/lang/Object", name := "<init>", desc := "()V" } : Jvm.MethodName)), (Jvm.Cond.arrayClass Jvm.ClassFile.FieldType.boolean), (Jvm.Cond.methodLink "BentRiver$Past" (3 : Nat) ({ cls := "java/lang/Object", name := "<init>", desc := "()V" } : Jvm.MethodName)), (Jvm.Cond.methodLink "BentRiver$Forecast" (3 : Nat) ({ cls := "java/lang/Object", name := "<init>", desc := "()V" } : Jvm.MethodName)), (Jvm.Cond.methodLink "BentRiver$Dream" (3 : Nat) ({ cls := "java/lang/Object", name := "<init>", desc := "()V" } : Jvm.MethodName)), (Jvm.Cond.methodLink "java/lang/StringLatin1" (9 : Nat) ({ cls := "java/lang/String", name := "checkIndex", desc := "(II)V" } : Jvm.MethodName)), (Jvm.Cond.static ({ cls := "java/lang/String", name := "checkIndex", desc := "(II)V" } : Jvm.MethodName)), (Jvm.Cond.code ({ cls := "java/lang/String", name := "checkIndex", desc := "(II)V" } : Jvm.MethodName) prog_18_method_155_code (2 : Nat) (Option.none : Option Jvm.ClassFile.FieldType)), (Jvm.Cond.fieldLink "java/lang/String" (1053 : Nat) "jdk/internal/util/Preconditions" "SIOOBE_FORMATTER" "Ljava/util/function/BiFunction;"), (Jvm.Cond.methodLink "java/lang/String" (1059 : Nat) ({ cls := "jdk/internal/util/Preconditions", name := "checkIndex", desc := "(IILjava/util/function/BiFunction;)I" } : Jvm.MethodName)), (Jvm.Cond.static ({ cls := "jdk/internal/util/Preconditions", name := "checkIndex", desc := "(IILjava/util/function/BiFunction;)I" } : Jvm.MethodName)), (Jvm.Cond.code ({ cls := "jdk/internal/util/Preconditions", name := "checkIndex", desc := "(IILjava/util/function/BiFunction;)I" } : Jvm.MethodName) prog_22_method_11_code (3 : Nat) (Option.some Jvm.ClassFile.FieldType.int)), (Jvm.Cond.methodLink "java/lang/StringUTF16" (414 : Nat) ({ cls := "java/lang/String", name := "checkIndex", desc := "(II)V" } : Jvm.MethodName)), (Jvm.Cond.methodLink "BentRiver$State" (45 : Nat) ({ cls := "java/lang/System", name := "arraycopy", desc := "(Ljava/lang/Object;ILjava/lang/Object;II)V" } : Jvm.MethodName)), (Jvm.Cond.static ({ cls := "java/lang/System", name := "arraycopy", desc := "(Ljava/lang/Object;ILjava/lang/Object;II)V" } : Jvm.MethodName)), (Jvm.Cond.native ({ cls := "java/lang/System", name := "arraycopy", desc := "(Ljava/lang/Object;ILjava/lang/Object;II)V" } : Jvm.MethodName)), (Jvm.Cond.methodLink "BentRiverModel" (1 : Nat) ({ cls := "java/lang/Object", name := "<init>", desc := "()V" } : Jvm.MethodName)), (Jvm.Cond.arrayClass Jvm.ClassFile.FieldType.char), (Jvm.Cond.arrayClass Jvm.ClassFile.FieldType.long)]
def bz_lyl : List (Nat × Nat) := [(8, 0), (8, 1), (8, 2), (8, 3), (8, 4), (8, 5), (8, 6), (8, 7), (0, 0), (0, 1), (0, 2), (5, 0), (5, 1), (5, 2), (3, 0), (3, 1), (3, 2), (9, 0), (9, 1), (9, 2), (9, 3), (9, 4), (9, 5), (9, 6), (9, 7), (9, 8), (9, 9), (9, 10), (9, 11), (9, 12), (9, 13), (9, 14), (9, 15), (9, 16), (9, 17), (7, 0), (7, 1), (7, 2), (7, 3), (7, 4), (7, 5), (7, 6), (7, 7), (6, 0), (6, 1), (6, 2), (6, 3), (6, 4), (6, 5), (4, 0), (4, 1), (4, 2), (2, 0), (2, 1), (2, 2), (2, 3), (2, 4), (2, 5), (2, 6), (2, 7), (2, 8), (2, 9), (2, 10), (2, 11), (1, 0), (1, 1), (1, 2), (10, 0), (10, 1), (10, 2), (10, 3), (10, 4), (10, 5), (10, 6), (10, 7), (10, 8), (10, 9), (10, 10), (10, 11), (10, 12), (10, 13), (11, 0), (11, 1), (11, 2), (11, 3), (11, 4), (11, 5), (11, 6), (11, 7), (11, 8), (11, 9), (11, 10), (11, 11), (11, 12), (11, 13), (11, 14), (11, 15), (11, 16), (11, 17), (11, 18), (11, 19), (11, 20), (11, 21), (11, 22), (11, 23), (11, 24), (11, 25), (11, 26), (11, 27), (11, 28), (11, 29), (11, 30), (11, 31), (11, 32), (11, 33), (11, 34), (11, 35), (11, 36), (11, 37), (11, 38), (11, 39), (11, 40), (11, 41), (11, 42), (11, 43), (11, 44), (11, 45), (11, 46), (11, 47), (11, 48), (11, 49), (11, 50), (11, 51), (11, 52), (11, 53), (11, 54), (11, 55), (11, 56), (11, 57), (11, 58), (11, 59), (11, 60), (11, 61), (11, 62), (11, 63), (11, 64), (11, 65), (11, 66), (11, 67), (11, 68), (11, 69), (11, 70), (11, 71), (11, 72), (11, 73), (11, 74), (11, 75), (11, 76), (11, 77), (11, 78), (11, 79), (11, 80), (11, 81), (11, 82), (11, 83), (11, 84), (11, 85), (11, 86), (11, 87), (11, 88), (11, 89), (11, 90), (11, 91), (11, 92), (11, 93), (11, 94), (11, 95), (11, 96), (11, 97), (11, 98), (11, 99), (11, 100), (11, 101), (11, 102), (11, 103), (11, 104), (11, 105), (11, 106), (11, 107), (11, 108), (11, 109), (11, 110), (11, 111), (11, 112), (11, 113), (11, 114), (11, 115), (11, 116), (11, 117), (11, 118), (11, 119), (11, 120), (11, 121), (11, 122), (11, 123), (11, 124), (11, 125), (11, 126), (11, 127), (11, 128), (11, 129), (11, 130), (11, 131)]
theorem bz_inT {ws : List Cond} (h1 : bz_isub ws tables_1 = true) (h2 : ws.all goodWord = true) {w : Cond} (hw : w ∈ ws) : w ∈ bz_Ts :=
  List.mem_filter.mpr ⟨bz_tbl_in (bz_isub_mem _ _ h1 w hw), List.all_eq_true.mp h2 w hw⟩
def bz_rtt (m : Nat) : Option FieldType := ((bz_mtl[m]?).map (fun q => q.2.2.2)).getD none
noncomputable def bz_wd1 : List Cond := bz_fr.map (fun q => Cond.fieldLink (bz_own q.1) q.2.1 (bz_fn q.2.2.1 q.2.2.2).1 (bz_fn q.2.2.1 q.2.2.2).2.1 (bz_fn q.2.2.1 q.2.2.2).2.2)
noncomputable def bz_wd2 : List Cond := bz_sr.map (fun q => Cond.fieldLink (bz_own q.1) q.2.1 (((bz_sf[q.2.2]?).map (fun z => z.1)).getD "") (((bz_sf[q.2.2]?).map (fun z => z.2.1)).getD "") (((bz_sf[q.2.2]?).map (fun z => z.2.2.1)).getD ""))
noncomputable def bz_wd3 : List Cond := bz_mr.map (fun q => Cond.methodLink (bz_own q.1) q.2.1 (bz_y q.2.2))
noncomputable def bz_wd4 : List Cond := bz_cr.map (fun q => if q.2.2.2 = true then Cond.constantLong (bz_own q.1) q.2.1 (Int64.ofInt q.2.2.1) else Cond.constant (bz_own q.1) q.2.1 (Int32.ofInt q.2.2.1))
noncomputable def bz_wd5 : List Cond := bz_kr.map (fun q => Cond.classLink (bz_own q.1) q.2.1 (bz_cn q.2.2))
noncomputable def bz_wd6 : List Cond := bz_iml.map (fun m => Cond.instanceMethod (bz_y m))
noncomputable def bz_wd7 : List Cond := bz_stl.map (fun m => Cond.static (bz_y m))
noncomputable def bz_wd8 : List Cond := bz_sel.map (fun m => Cond.selects (bz_y m).cls (bz_y m) (bz_y m))
noncomputable def bz_wd9 : List Cond := bz_cml.map (fun m => Cond.code (bz_y m) (bz_cc m) (bz_nL m) (bz_rtt m))
noncomputable def bz_wd10 : List Cond := bz_inl.map Cond.initialized
noncomputable def bz_wd11 : List Cond := bz_lyl.map (fun q => u_lay (bz_cn q.1) (((bz_cl[q.1]?).map (fun z => z.2.1)).getD (bz_T [])) q.2)
noncomputable def bz_wd12 : List Cond := bz_insts.map (fun q => Cond.instantiable q.1 q.2)

set_option maxRecDepth 100000 in
theorem bz_wd1_in : bz_isub bz_wd1 tables_1 = true := by decide +kernel
set_option maxRecDepth 100000 in
theorem bz_wd1_gd : bz_wd1.all goodWord = true := by decide +kernel
set_option maxRecDepth 100000 in
theorem bz_wd2_in : bz_isub bz_wd2 tables_1 = true := by decide +kernel
set_option maxRecDepth 100000 in
theorem bz_wd2_gd : bz_wd2.all goodWord = true := by decide +kernel
set_option maxRecDepth 100000 in
theorem bz_wd3_in : bz_isub bz_wd3 tables_1 = true := by decide +kernel
set_option maxRecDepth 100000 in
theorem bz_wd3_gd : bz_wd3.all goodWord = true := by decide +kernel
set_option maxRecDepth 100000 in
theorem bz_wd4_in : bz_isub bz_wd4 tables_1 = true := by decide +kernel
set_option maxRecDepth 100000 in
theorem bz_wd4_gd : bz_wd4.all goodWord = true := by decide +kernel
set_option maxRecDepth 100000 in
theorem bz_wd5_in : bz_isub bz_wd5 tables_1 = true := by decide +kernel
set_option maxRecDepth 100000 in
theorem bz_wd5_gd : bz_wd5.all goodWord = true := by decide +kernel
set_option maxRecDepth 100000 in
theorem bz_wd6_in : bz_isub bz_wd6 tables_1 = true := by decide +kernel
set_option maxRecDepth 100000 in
theorem bz_wd6_gd : bz_wd6.all goodWord = true := by decide +kernel
set_option maxRecDepth 100000 in
theorem bz_wd7_in : bz_isub bz_wd7 tables_1 = true := by decide +kernel
set_option maxRecDepth 100000 in
theorem bz_wd7_gd : bz_wd7.all goodWord = true := by decide +kernel
set_option maxRecDepth 100000 in
theorem bz_wd8_in : bz_isub bz_wd8 tables_1 = true := by decide +kernel
set_option maxRecDepth 100000 in
theorem bz_wd8_gd : bz_wd8.all goodWord = true := by decide +kernel
set_option maxRecDepth 100000 in
theorem bz_wd9_in : bz_isub bz_wd9 tables_1 = true := by decide +kernel
set_option maxRecDepth 100000 in
theorem bz_wd9_gd : bz_wd9.all goodWord = true := by decide +kernel
set_option maxRecDepth 100000 in
theorem bz_wd10_in : bz_isub bz_wd10 tables_1 = true := by decide +kernel
set_option maxRecDepth 100000 in
theorem bz_wd10_gd : bz_wd10.all goodWord = true := by decide +kernel
set_option maxRecDepth 100000 in
theorem bz_wd11_in : bz_isub bz_wd11 tables_1 = true := by decide +kernel
set_option maxRecDepth 100000 in
theorem bz_wd11_gd : bz_wd11.all goodWord = true := by decide +kernel
set_option maxRecDepth 100000 in
theorem bz_wd12_in : bz_isub bz_wd12 tables_1 = true := by decide +kernel
set_option maxRecDepth 100000 in
theorem bz_wd12_gd : bz_wd12.all goodWord = true := by decide +kernel
set_option maxRecDepth 100000 in
theorem bz_spw_in : bz_isub bz_spw tables_1 = true := by decide +kernel
set_option maxRecDepth 100000 in
theorem bz_spw_gd : bz_spw.all goodWord = true := by decide +kernel

/-! WHAT STANDS AT THE START: the statics, the words, their spellings -/
def st_nm : List String := ["VALLEY", "BY", "REACH", "RUNS", "SOIL", "WILLOW", "LORD", "FROM", "TO", "PAYS", "JOY", "PURSE", "EATS", "BEND", "SPATE", "COLUMN", "ROW", "TURN", "SEASON", "ROOTS", "PAY", "EVER", "BEFORE", "BEHIND", "NUMBER", "OFFERS", "BENDS", "OR", "AND", "NOT", "ALL", "MIN", "MAX", "FIRST", "LAST", "OFTEN", "TOTAL", "MOST", "LEAST"]
def st_sp : List Nat := [154, 160, 163, 166, 169, 172, 175, 178, 181, 184, 187, 190, 193, 196, 199, 202, 205, 208, 211, 214, 217, 220, 223, 226, 229, 232, 235, 238, 241, 244, 247, 250, 253, 256, 259, 262, 265, 268, 271]
def st_pm : List Nat := [0, 1, 2, 3, 4, 5, 14, 6, 7, 8, 9, 10, 11, 12, 31, 32, 16, 17, 13, 29, 30, 28, 27, 33, 34, 35, 36, 37, 38, 15, 18, 19, 20, 21, 22, 23, 24, 25, 26]
def st_i (r j : Nat) : Int := (bz_sml.getD r []).getD j 0
def st_W (i : Nat) : Term := .static "BentRiver$Word" (st_nm.getD i "") "LBentRiver$Word;"
def st_S (i : Nat) : Term := .string "BentRiver$Word" (st_sp.getD i 0)
def st_B (i : Nat) : Term := .field (st_S i) "java/lang/String" "value" "[B"
def st_n (i : Nat) : Nat := (bz_sml.getD (83 + i) []).length
def st_ar (tm : Term) (ty : FieldType) (r n : Nat) : List Cond := Cond.arrayOf tm ty :: Cond.eq (.length tm) (.int (Int32.ofNat n)) :: (List.range n).map (fun j => Cond.eq (.elem tm (.int (Int32.ofNat j))) (.int (Int32.ofInt (st_i r j))))
def st_2 : Term := .static "BentRiver" "PLAIN_EATS" "[I"
def st_3 : Term := .static "BentRiver" "PLAIN_BEND" "[I"
def st_4 : Term := .static "BentRiver" "WORDS" "[LBentRiver$Word;"
def st_Ws (i : Nat) : List Cond := [Cond.exactly (st_W i) "BentRiver$Word", Cond.eq (.field (st_W i) "java/lang/Enum" "ordinal" "I") (.int (Int32.ofInt (st_i (5 + i) 3))), Cond.eq (.field (st_W i) "BentRiver$Word" "spelling" "Ljava/lang/String;") (st_S i), Cond.eq (.field (st_W i) "BentRiver$Word" "places" "I") (.int (Int32.ofInt (st_i (5 + i) 1))), Cond.eq (.field (st_W i) "BentRiver$Word" "fact" "I") (.int (Int32.ofInt (st_i (5 + i) 2)))]
def st_Ss (i : Nat) : List Cond := Cond.exactly (st_S i) "java/lang/String" :: Cond.eq (.field (st_S i) "java/lang/String" "coder" "B") (.int (Int32.ofInt (st_i (44 + i) 1))) :: st_ar (st_B i) .byte (83 + i) (st_n i)
def st_4s : List Cond := Cond.exactly st_4 "[LBentRiver$Word;" :: Cond.arrayOf st_4 (.object "BentRiver$Word") :: Cond.eq (.length st_4) (.int (Int32.ofNat 39)) :: (List.range 39).map (fun j => Cond.eq (.elem st_4 (.int (Int32.ofNat j))) (st_W j))
def st_js : List Cond := [Cond.eq (.static "java/lang/String" "COMPACT_STRINGS" "Z") (.int 1), Cond.isRef (.static "jdk/internal/util/Preconditions" "SIOOBE_FORMATTER" "Ljava/util/function/BiFunction;")]
def st_all : List Cond := st_ar st_2 .int 2 7 ++ (st_ar st_3 .int 3 3 ++ (st_4s ++ (st_js ++ (st_pm.flatMap st_Ws ++ st_pm.flatMap st_Ss))))
set_option maxRecDepth 100000 in
theorem st_ok : bz_isub st_all (flatC (.and given_1 narrow_1)) = true := by decide +kernel
set_option maxRecDepth 100000 in
theorem st_pm_ok : (List.range 39).all (fun i => st_pm.contains i) = true := by decide +kernel
theorem st_pm_in {i : Nat} (h : i < 39) : i ∈ st_pm := by
  have := List.all_eq_true.mp st_pm_ok i (List.mem_range.mpr h)
  exact List.contains_iff_mem.mp this
theorem st_get {args : Array Value} {s : State} (h : (Jvm.Cond.and given_1 narrow_1).before args s = true) : ∀ w ∈ st_all, w.before args s = true := fun w hw => flat_of_before _ h w (bz_isub_mem _ _ st_ok w hw)
section ZL
variable {w : Cond} {i : Nat}
theorem st_i2 (h : w ∈ st_ar st_2 .int 2 7) : w ∈ st_all := List.mem_append_left _ h
theorem st_i3 (h : w ∈ st_ar st_3 .int 3 3) : w ∈ st_all := List.mem_append_right _ (List.mem_append_left _ h)
theorem st_i4 (h : w ∈ st_4s) : w ∈ st_all := List.mem_append_right _ (List.mem_append_right _ (List.mem_append_left _ h))
theorem st_ij (h : w ∈ st_js) : w ∈ st_all := List.mem_append_right _ (List.mem_append_right _ (List.mem_append_right _ (List.mem_append_left _ h)))
theorem st_iW (hi : i < 39) (h : w ∈ st_Ws i) : w ∈ st_all := List.mem_append_right _ (List.mem_append_right _ (List.mem_append_right _ (List.mem_append_right _ (List.mem_append_left _ (List.mem_flatMap.mpr ⟨i, st_pm_in hi, h⟩)))))
theorem st_iS (hi : i < 39) (h : w ∈ st_Ss i) : w ∈ st_all := List.mem_append_right _ (List.mem_append_right _ (List.mem_append_right _ (List.mem_append_right _ (List.mem_append_right _ (List.mem_flatMap.mpr ⟨i, st_pm_in hi, h⟩)))))
end ZL
section ZM
variable {args : Array Value} {s : State} {A : Nat → Prop}
theorem st_T {tm : Term} {ty : FieldType} {r n : Nat} (hn : n < 2 ^ 31) (h : ∀ w ∈ st_ar tm ty r n, w.before args s = true) (hA : ∀ a : Nat, a < s.heap.size → ¬ A a) : ∃ t : Nat, tm.eval args s none [] s = some (.ref t) ∧ va_T ty t n (fun j => .int (Int32.ofInt (st_i r j))) A s s.heap :=
  va_Tof hn (h _ List.mem_cons_self) (va_eqt (h _ (List.mem_cons_of_mem _ List.mem_cons_self))) (fun j hj => va_eqt (h _ (List.mem_cons_of_mem _ (List.mem_cons_of_mem _ (List.mem_map.mpr ⟨j, List.mem_range.mpr hj, rfl⟩))))) hA
theorem st_O {tm : Term} {C : String} (h : (Cond.exactly tm C).before args s = true) (hA : ∀ a : Nat, a < s.heap.size → ¬ A a) : ∃ t : Nat, tm.eval args s none [] s = some (.ref t) ∧ va_O C t A s s.heap := by
  obtain ⟨a, c, cell, k, q1, q2, q3, q4, q5, q6, -⟩ := Cond.exactly_spec h
  exact ⟨a, q1, cell, q3, q5, by rw [q6]; exact q2, hA a (Array.getElem?_eq_some_iff.mp q3).1⟩
theorem st_OF {tm : Term} {o n d : String} {a : Nat} {v : Value} (ht : tm.eval args s none [] s = some (.ref a)) (hv : (Term.field tm o n d).eval args s none [] s = some v) (hA : ∀ a : Nat, a < s.heap.size → ¬ A a) : va_OF o n d v a A s s.heap := by
  cases hfo : s.fieldFound? o n d with
  | none =>
    rw [va_fe ht] at hv
    simp [State.fieldOf?, State.fieldNamed?, hfo] at hv
  | some x =>
    obtain ⟨cf, k, fi, f⟩ := x
    obtain ⟨g1, cell, g2, g3, -, -, g6⟩ := Term.field_spec hfo ht hv
    exact ⟨cf, k, fi, f, cell, hfo, g1, g2, g3, g6, hA _ (Array.getElem?_eq_some_iff.mp g2).1⟩
end ZM

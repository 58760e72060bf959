/-! ALL ROWS OF ALL METHODS (2): decoded -/
noncomputable def bz_swk (m : Nat) : Bool := (bz_tbl.getD m []).all (fun q => !bz_isw q.2.1 || decide (decode (bz_cc m) q.1 = .ok (q.2.1, q.2.2.1)))
set_option maxRecDepth 100000 in
theorem bz_wk_0 : (List.range 40).all (fun j => bz_wk (j + 0)) = true := by decide +kernel
set_option maxRecDepth 100000 in
theorem bz_wk_1 : (List.range 40).all (fun j => bz_wk (j + 40)) = true := by decide +kernel
set_option maxRecDepth 100000 in
theorem bz_wk_2 : (List.range 40).all (fun j => bz_wk (j + 80)) = true := by decide +kernel
set_option maxRecDepth 100000 in
theorem bz_wk_3 : (List.range 35).all (fun j => bz_wk (j + 120)) = true := by decide +kernel
set_option maxRecDepth 100000 in
theorem bz_wk_4 : (List.range 1).all (fun j => bz_wk (j + 155)) = true := by decide +kernel
set_option maxRecDepth 100000 in
theorem bz_wk_5 : (List.range 44).all (fun j => bz_wk (j + 156)) = true := by decide +kernel
set_option maxRecDepth 100000 in
theorem bz_wk_6 : (List.range 60).all (fun j => bz_wk (j + 200)) = true := by decide +kernel
set_option maxRecDepth 100000 in
theorem bz_wk_7 : (List.range 56).all (fun j => bz_wk (j + 260)) = true := by decide +kernel
theorem bz_wk_all {m : Nat} (h : m < 316) : bz_wk m = true := by
  by_cases h0 : m < 40
  · have e := List.all_eq_true.mp bz_wk_0 (m - 0) (List.mem_range.mpr (by omega))
    have e2 : m - 0 + 0 = m := by omega
    rw [e2] at e; exact e
  by_cases h1 : m < 80
  · have e := List.all_eq_true.mp bz_wk_1 (m - 40) (List.mem_range.mpr (by omega))
    have e2 : m - 40 + 40 = m := by omega
    rw [e2] at e; exact e
  by_cases h2 : m < 120
  · have e := List.all_eq_true.mp bz_wk_2 (m - 80) (List.mem_range.mpr (by omega))
    have e2 : m - 80 + 80 = m := by omega
    rw [e2] at e; exact e
  by_cases h3 : m < 155
  · have e := List.all_eq_true.mp bz_wk_3 (m - 120) (List.mem_range.mpr (by omega))
    have e2 : m - 120 + 120 = m := by omega
    rw [e2] at e; exact e
  by_cases h4 : m < 156
  · have e := List.all_eq_true.mp bz_wk_4 (m - 155) (List.mem_range.mpr (by omega))
    have e2 : m - 155 + 155 = m := by omega
    rw [e2] at e; exact e
  by_cases h5 : m < 200
  · have e := List.all_eq_true.mp bz_wk_5 (m - 156) (List.mem_range.mpr (by omega))
    have e2 : m - 156 + 156 = m := by omega
    rw [e2] at e; exact e
  by_cases h6 : m < 260
  · have e := List.all_eq_true.mp bz_wk_6 (m - 200) (List.mem_range.mpr (by omega))
    have e2 : m - 200 + 200 = m := by omega
    rw [e2] at e; exact e
  by_cases h7 : m < 316
  · have e := List.all_eq_true.mp bz_wk_7 (m - 260) (List.mem_range.mpr (by omega))
    have e2 : m - 260 + 260 = m := by omega
    rw [e2] at e; exact e
  exact absurd h h7
set_option maxRecDepth 100000 in
theorem bz_swk_0 : (List.range 1).all (fun j => bz_swk (j + 0)) = true := by decide +kernel
set_option maxRecDepth 100000 in
theorem bz_swk_1 : (List.range 99).all (fun j => bz_swk (j + 1)) = true := by decide +kernel
set_option maxRecDepth 100000 in
theorem bz_swk_2 : (List.range 55).all (fun j => bz_swk (j + 100)) = true := by decide +kernel
set_option maxRecDepth 100000 in
theorem bz_swk_3 : (List.range 1).all (fun j => bz_swk (j + 155)) = true := by decide +kernel
set_option maxRecDepth 100000 in
theorem bz_swk_4 : (List.range 74).all (fun j => bz_swk (j + 156)) = true := by decide +kernel
set_option maxRecDepth 100000 in
theorem bz_swk_5 : (List.range 86).all (fun j => bz_swk (j + 230)) = true := by decide +kernel
theorem bz_swk_all {m : Nat} (h : m < 316) : bz_swk m = true := by
  by_cases h0 : m < 1
  · have e := List.all_eq_true.mp bz_swk_0 (m - 0) (List.mem_range.mpr (by omega))
    have e2 : m - 0 + 0 = m := by omega
    rw [e2] at e; exact e
  by_cases h1 : m < 100
  · have e := List.all_eq_true.mp bz_swk_1 (m - 1) (List.mem_range.mpr (by omega))
    have e2 : m - 1 + 1 = m := by omega
    rw [e2] at e; exact e
  by_cases h2 : m < 155
  · have e := List.all_eq_true.mp bz_swk_2 (m - 100) (List.mem_range.mpr (by omega))
    have e2 : m - 100 + 100 = m := by omega
    rw [e2] at e; exact e
  by_cases h3 : m < 156
  · have e := List.all_eq_true.mp bz_swk_3 (m - 155) (List.mem_range.mpr (by omega))
    have e2 : m - 155 + 155 = m := by omega
    rw [e2] at e; exact e
  by_cases h4 : m < 230
  · have e := List.all_eq_true.mp bz_swk_4 (m - 156) (List.mem_range.mpr (by omega))
    have e2 : m - 156 + 156 = m := by omega
    rw [e2] at e; exact e
  by_cases h5 : m < 316
  · have e := List.all_eq_true.mp bz_swk_5 (m - 230) (List.mem_range.mpr (by omega))
    have e2 : m - 230 + 230 = m := by omega
    rw [e2] at e; exact e
  exact absurd h h5

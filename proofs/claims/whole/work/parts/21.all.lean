/-! ALL ROWS OF ALL METHODS (1): looked at -/
set_option maxRecDepth 100000 in
theorem bz_ckm_0 : (List.range 20).all (fun j => bz_ckm (j + 0)) = true := by decide +kernel
set_option maxRecDepth 100000 in
theorem bz_ckm_1 : (List.range 20).all (fun j => bz_ckm (j + 20)) = true := by decide +kernel
set_option maxRecDepth 100000 in
theorem bz_ckm_2 : (List.range 20).all (fun j => bz_ckm (j + 40)) = true := by decide +kernel
set_option maxRecDepth 100000 in
theorem bz_ckm_3 : (List.range 15).all (fun j => bz_ckm (j + 60)) = true := by decide +kernel
set_option maxRecDepth 100000 in
theorem bz_ckm_4 : (List.range 15).all (fun j => bz_ckm (j + 75)) = true := by decide +kernel
set_option maxRecDepth 100000 in
theorem bz_ckm_5 : (List.range 10).all (fun j => bz_ckm (j + 90)) = true := by decide +kernel
set_option maxRecDepth 100000 in
theorem bz_ckm_6 : (List.range 9).all (fun j => bz_ckm (j + 100)) = true := by decide +kernel
set_option maxRecDepth 100000 in
theorem bz_ckm_7 : (List.range 7).all (fun j => bz_ckm (j + 109)) = true := by decide +kernel
set_option maxRecDepth 100000 in
theorem bz_ckm_8 : (List.range 8).all (fun j => bz_ckm (j + 116)) = true := by decide +kernel
set_option maxRecDepth 100000 in
theorem bz_ckm_9 : (List.range 8).all (fun j => bz_ckm (j + 124)) = true := by decide +kernel
set_option maxRecDepth 100000 in
theorem bz_ckm_10 : (List.range 8).all (fun j => bz_ckm (j + 132)) = true := by decide +kernel
set_option maxRecDepth 100000 in
theorem bz_ckm_11 : (List.range 8).all (fun j => bz_ckm (j + 140)) = true := by decide +kernel
set_option maxRecDepth 100000 in
theorem bz_ckm_12 : (List.range 7).all (fun j => bz_ckm (j + 148)) = true := by decide +kernel
set_option maxRecDepth 100000 in
theorem bz_ckm_13 : (List.range 1).all (fun j => bz_ckm (j + 155)) = true := by decide +kernel
set_option maxRecDepth 100000 in
theorem bz_ckm_14 : (List.range 9).all (fun j => bz_ckm (j + 156)) = true := by decide +kernel
set_option maxRecDepth 100000 in
theorem bz_ckm_15 : (List.range 15).all (fun j => bz_ckm (j + 165)) = true := by decide +kernel
set_option maxRecDepth 100000 in
theorem bz_ckm_16 : (List.range 15).all (fun j => bz_ckm (j + 180)) = true := by decide +kernel
set_option maxRecDepth 100000 in
theorem bz_ckm_17 : (List.range 15).all (fun j => bz_ckm (j + 195)) = true := by decide +kernel
set_option maxRecDepth 100000 in
theorem bz_ckm_18 : (List.range 15).all (fun j => bz_ckm (j + 210)) = true := by decide +kernel
set_option maxRecDepth 100000 in
theorem bz_ckm_19 : (List.range 15).all (fun j => bz_ckm (j + 225)) = true := by decide +kernel
set_option maxRecDepth 100000 in
theorem bz_ckm_20 : (List.range 15).all (fun j => bz_ckm (j + 240)) = true := by decide +kernel
set_option maxRecDepth 100000 in
theorem bz_ckm_21 : (List.range 15).all (fun j => bz_ckm (j + 255)) = true := by decide +kernel
set_option maxRecDepth 100000 in
theorem bz_ckm_22 : (List.range 15).all (fun j => bz_ckm (j + 270)) = true := by decide +kernel
set_option maxRecDepth 100000 in
theorem bz_ckm_23 : (List.range 15).all (fun j => bz_ckm (j + 285)) = true := by decide +kernel
set_option maxRecDepth 100000 in
theorem bz_ckm_24 : (List.range 16).all (fun j => bz_ckm (j + 300)) = true := by decide +kernel
theorem bz_ckm_all {m : Nat} (h : m < 316) : bz_ckm m = true := by
  by_cases h0 : m < 20
  · have e := List.all_eq_true.mp bz_ckm_0 (m - 0) (List.mem_range.mpr (by omega))
    have e2 : m - 0 + 0 = m := by omega
    rw [e2] at e; exact e
  by_cases h1 : m < 40
  · have e := List.all_eq_true.mp bz_ckm_1 (m - 20) (List.mem_range.mpr (by omega))
    have e2 : m - 20 + 20 = m := by omega
    rw [e2] at e; exact e
  by_cases h2 : m < 60
  · have e := List.all_eq_true.mp bz_ckm_2 (m - 40) (List.mem_range.mpr (by omega))
    have e2 : m - 40 + 40 = m := by omega
    rw [e2] at e; exact e
  by_cases h3 : m < 75
  · have e := List.all_eq_true.mp bz_ckm_3 (m - 60) (List.mem_range.mpr (by omega))
    have e2 : m - 60 + 60 = m := by omega
    rw [e2] at e; exact e
  by_cases h4 : m < 90
  · have e := List.all_eq_true.mp bz_ckm_4 (m - 75) (List.mem_range.mpr (by omega))
    have e2 : m - 75 + 75 = m := by omega
    rw [e2] at e; exact e
  by_cases h5 : m < 100
  · have e := List.all_eq_true.mp bz_ckm_5 (m - 90) (List.mem_range.mpr (by omega))
    have e2 : m - 90 + 90 = m := by omega
    rw [e2] at e; exact e
  by_cases h6 : m < 109
  · have e := List.all_eq_true.mp bz_ckm_6 (m - 100) (List.mem_range.mpr (by omega))
    have e2 : m - 100 + 100 = m := by omega
    rw [e2] at e; exact e
  by_cases h7 : m < 116
  · have e := List.all_eq_true.mp bz_ckm_7 (m - 109) (List.mem_range.mpr (by omega))
    have e2 : m - 109 + 109 = m := by omega
    rw [e2] at e; exact e
  by_cases h8 : m < 124
  · have e := List.all_eq_true.mp bz_ckm_8 (m - 116) (List.mem_range.mpr (by omega))
    have e2 : m - 116 + 116 = m := by omega
    rw [e2] at e; exact e
  by_cases h9 : m < 132
  · have e := List.all_eq_true.mp bz_ckm_9 (m - 124) (List.mem_range.mpr (by omega))
    have e2 : m - 124 + 124 = m := by omega
    rw [e2] at e; exact e
  by_cases h10 : m < 140
  · have e := List.all_eq_true.mp bz_ckm_10 (m - 132) (List.mem_range.mpr (by omega))
    have e2 : m - 132 + 132 = m := by omega
    rw [e2] at e; exact e
  by_cases h11 : m < 148
  · have e := List.all_eq_true.mp bz_ckm_11 (m - 140) (List.mem_range.mpr (by omega))
    have e2 : m - 140 + 140 = m := by omega
    rw [e2] at e; exact e
  by_cases h12 : m < 155
  · have e := List.all_eq_true.mp bz_ckm_12 (m - 148) (List.mem_range.mpr (by omega))
    have e2 : m - 148 + 148 = m := by omega
    rw [e2] at e; exact e
  by_cases h13 : m < 156
  · have e := List.all_eq_true.mp bz_ckm_13 (m - 155) (List.mem_range.mpr (by omega))
    have e2 : m - 155 + 155 = m := by omega
    rw [e2] at e; exact e
  by_cases h14 : m < 165
  · have e := List.all_eq_true.mp bz_ckm_14 (m - 156) (List.mem_range.mpr (by omega))
    have e2 : m - 156 + 156 = m := by omega
    rw [e2] at e; exact e
  by_cases h15 : m < 180
  · have e := List.all_eq_true.mp bz_ckm_15 (m - 165) (List.mem_range.mpr (by omega))
    have e2 : m - 165 + 165 = m := by omega
    rw [e2] at e; exact e
  by_cases h16 : m < 195
  · have e := List.all_eq_true.mp bz_ckm_16 (m - 180) (List.mem_range.mpr (by omega))
    have e2 : m - 180 + 180 = m := by omega
    rw [e2] at e; exact e
  by_cases h17 : m < 210
  · have e := List.all_eq_true.mp bz_ckm_17 (m - 195) (List.mem_range.mpr (by omega))
    have e2 : m - 195 + 195 = m := by omega
    rw [e2] at e; exact e
  by_cases h18 : m < 225
  · have e := List.all_eq_true.mp bz_ckm_18 (m - 210) (List.mem_range.mpr (by omega))
    have e2 : m - 210 + 210 = m := by omega
    rw [e2] at e; exact e
  by_cases h19 : m < 240
  · have e := List.all_eq_true.mp bz_ckm_19 (m - 225) (List.mem_range.mpr (by omega))
    have e2 : m - 225 + 225 = m := by omega
    rw [e2] at e; exact e
  by_cases h20 : m < 255
  · have e := List.all_eq_true.mp bz_ckm_20 (m - 240) (List.mem_range.mpr (by omega))
    have e2 : m - 240 + 240 = m := by omega
    rw [e2] at e; exact e
  by_cases h21 : m < 270
  · have e := List.all_eq_true.mp bz_ckm_21 (m - 255) (List.mem_range.mpr (by omega))
    have e2 : m - 255 + 255 = m := by omega
    rw [e2] at e; exact e
  by_cases h22 : m < 285
  · have e := List.all_eq_true.mp bz_ckm_22 (m - 270) (List.mem_range.mpr (by omega))
    have e2 : m - 270 + 270 = m := by omega
    rw [e2] at e; exact e
  by_cases h23 : m < 300
  · have e := List.all_eq_true.mp bz_ckm_23 (m - 285) (List.mem_range.mpr (by omega))
    have e2 : m - 285 + 285 = m := by omega
    rw [e2] at e; exact e
  by_cases h24 : m < 316
  · have e := List.all_eq_true.mp bz_ckm_24 (m - 300) (List.mem_range.mpr (by omega))
    have e2 : m - 300 + 300 = m := by omega
    rw [e2] at e; exact e
  exact absurd h h24

/-! ALL ROWS OF ALL METHODS -/
noncomputable def bz_swk (m : Nat) : Bool := (bz_tbl.getD m []).all (fun q => !bz_isw q.2.1 || decide (decode (bz_cc m) q.1 = .ok (q.2.1, q.2.2.1)))
set_option maxRecDepth 100000 in
theorem bz_ckm_a : (List.range 110).all bz_ckm = true := by decide +kernel
set_option maxRecDepth 100000 in
theorem bz_ckm_b : ((List.range 206).map (fun m => m + 110)).all bz_ckm = true := by decide +kernel
set_option maxRecDepth 100000 in
theorem bz_wk_a : (List.range 155).all bz_wk = true := by decide +kernel
set_option maxRecDepth 100000 in
theorem bz_wk_b : bz_wk 155 = true := by decide +kernel
set_option maxRecDepth 100000 in
theorem bz_wk_c : ((List.range 160).map (fun m => m + 156)).all bz_wk = true := by decide +kernel
set_option maxRecDepth 100000 in
theorem bz_swk_a : (List.range 316).all bz_swk = true := by decide +kernel

set_option maxRecDepth 100000 in
theorem bz_e1 : ((List.range 10).map (fun m => m + 100)).all bz_wk = true := by decide +kernel

/-! WORDS (2) -/
set_option maxRecDepth 100000 in
theorem bz_wd5_in : bz_isub bz_wd5 tables_1 = true := by decide +kernel
set_option maxRecDepth 100000 in
theorem bz_wd5_gd : bz_wd5.all goodWord = true := by decide +kernel
set_option maxRecDepth 100000 in
theorem bz_wd6_in : bz_isub bz_wd6 tables_1 = true := by decide +kernel
set_option maxRecDepth 100000 in
theorem bz_wd6_gd : bz_wd6.all goodWord = true := by decide +kernel
set_option maxRecDepth 100000 in
theorem bz_wd7_in : bz_isub bz_wd7 tables_1 = true := by decide +kernel
set_option maxRecDepth 100000 in
theorem bz_wd7_gd : bz_wd7.all goodWord = true := by decide +kernel
set_option maxRecDepth 100000 in
theorem bz_wd8_in : bz_isub bz_wd8 tables_1 = true := by decide +kernel
set_option maxRecDepth 100000 in
theorem bz_wd8_gd : bz_wd8.all goodWord = true := by decide +kernel
set_option maxRecDepth 100000 in
theorem bz_wd10_in : bz_isub bz_wd10 tables_1 = true := by decide +kernel
set_option maxRecDepth 100000 in
theorem bz_wd10_gd : bz_wd10.all goodWord = true := by decide +kernel
set_option maxRecDepth 100000 in
theorem bz_wd11_in : bz_isub bz_wd11 tables_1 = true := by decide +kernel
set_option maxRecDepth 100000 in
theorem bz_wd11_gd : bz_wd11.all goodWord = true := by decide +kernel
set_option maxRecDepth 100000 in
theorem bz_wd12_in : bz_isub bz_wd12 tables_1 = true := by decide +kernel
set_option maxRecDepth 100000 in
theorem bz_wd12_gd : bz_wd12.all goodWord = true := by decide +kernel
set_option maxRecDepth 100000 in
theorem bz_spw_in : bz_isub bz_spw tables_1 = true := by decide +kernel
set_option maxRecDepth 100000 in
theorem bz_spw_gd : bz_spw.all goodWord = true := by decide +kernel

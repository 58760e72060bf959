/-! THE METHODS AND THEIR PLACES (printed by program) -/
noncomputable def eCd_clear (Lg d : Nat) (c : Nat) (M : bz_M) : Option (bz_M) := bz_cV (bz_Pg Lg true) d 2 [.inr (.inr c)] M
noncomputable def eCd_put (Lg d : Nat) (c : Nat) (a : Int) (M : bz_M) : Option (bz_M) := bz_cV (bz_Pg Lg true) d 3 [.inr (.inr c), .inl a] M
noncomputable def eCd_set (Lg d : Nat) (c : Nat) (a : Nat) (M : bz_M) : Option (bz_M) := bz_cV (bz_Pg Lg true) d 4 [.inr (.inr c), .inr (.inr a)] M
noncomputable def eCd_set_6 (Lg d : Nat) (c : Nat) (a : Nat) (x2 : Int) (M : bz_M) : Option (bz_M) := bz_X (bz_Pg Lg true) bz_kV d 4 6 [some (.inr (.inr c)), some (.inr (.inr a)), some (.inl x2)] [] M
noncomputable def eCd_value (Lg d : Nat) (c : Nat) (a : Nat) (M : bz_M) : Option (Int × bz_M) := bz_cI (bz_Pg Lg true) d 5 [.inr (.inr c), .inr (.inr a)] M
noncomputable def eCd_value_4 (Lg d : Nat) (c : Nat) (a : Nat) (x2 : Int) (x3 : Int) (M : bz_M) : Option (Int × bz_M) := bz_X (bz_Pg Lg true) bz_kI d 5 4 [some (.inr (.inr c)), some (.inr (.inr a)), some (.inl x2), some (.inl x3), none, none, none] [] M
noncomputable def eCd_value_66 (Lg d : Nat) (c : Nat) (a : Nat) (x2 : Int) (x3 : Int) (x4 : Int) (M : bz_M) : Option (Int × bz_M) := bz_X (bz_Pg Lg true) bz_kI d 5 66 [some (.inr (.inr c)), some (.inr (.inr a)), some (.inl x2), some (.inl x3), some (.inl x4), none, none] [] M
noncomputable def eCd_value_103 (Lg d : Nat) (c : Nat) (a : Nat) (x2 : Int) (x3 : Int) (x4 : Int) (M : bz_M) : Option (Int × bz_M) := bz_X (bz_Pg Lg true) bz_kI d 5 103 [some (.inr (.inr c)), some (.inr (.inr a)), some (.inl x2), some (.inl x3), some (.inl x4), none, none] [] M
noncomputable def eCd_factAt (Lg d : Nat) (a : Nat) (b : Int) (M : bz_M) : Option (Int × bz_M) := bz_cI (bz_Pg Lg true) d 6 [.inr (.inr a), .inl b] M
noncomputable def eCd_changed (Lg d : Nat) (a : Int) (b : Int) (g : Nat) (M : bz_M) : Option (Int × bz_M) := bz_cI (bz_Pg Lg true) d 7 [.inl a, .inl b, .inr (.inr g)] M
noncomputable def eCd_joined (Lg d : Nat) (a : Int) (b : Int) (g : Int) (M : bz_M) : Option (Int × bz_M) := bz_cL (bz_Pg Lg true) d 8 [.inl a, .inr (.inl b), .inr (.inl g)] M
noncomputable def eCd_joined_112 (Lg d : Nat) (x1 : Int) (x3 : Int) (y0 : Int) (M : bz_M) : Option (Int × bz_M) := bz_X (bz_Pg Lg true) bz_kL d 8 112 [none, some (.inr (.inl x1)), none, some (.inr (.inl x3)), none, none] [.inl y0] M
noncomputable def eDr_find (Lg d : Nat)  (M : bz_M) : Option (Int × bz_M) := bz_cI (bz_Pg Lg true) d 10 [.inr (.inr 295), .inr (.inr 131)] M
noncomputable def eDr_find_12 (Lg d : Nat) (v : Nat) (x3 : Int) (M : bz_M) : Option (Int × bz_M) := bz_X (bz_Pg Lg true) bz_kI d 10 12 [some (.inr (.inr 295)), some (.inr (.inr 131)), some (.inr (.inr v)), some (.inl x3), none, none, none] [] M
noncomputable def eDr_find_82 (Lg d : Nat) (v : Nat) (x3 : Int) (x4 : Int) (M : bz_M) : Option (Int × bz_M) := bz_X (bz_Pg Lg true) bz_kI d 10 82 [some (.inr (.inr 295)), none, some (.inr (.inr v)), some (.inl x3), some (.inl x4), none, none] [] M
noncomputable def eDr_find_26 (Lg d : Nat) (v : Nat) (x3 : Int) (x4 : Int) (x5 : Int) (M : bz_M) : Option (Int × bz_M) := bz_X (bz_Pg Lg true) bz_kI d 10 26 [some (.inr (.inr 295)), some (.inr (.inr 131)), some (.inr (.inr v)), some (.inl x3), some (.inl x4), some (.inl x5), none] [] M
noncomputable def eDr_find_137 (Lg d : Nat) (v : Nat) (x3 : Int) (x4 : Int) (M : bz_M) : Option (Int × bz_M) := bz_X (bz_Pg Lg true) bz_kI d 10 137 [some (.inr (.inr 295)), none, some (.inr (.inr v)), some (.inl x3), some (.inl x4), none, none] [] M
noncomputable def eDr_find_38 (Lg d : Nat) (v : Nat) (x3 : Int) (x4 : Int) (x5 : Int) (x6 : Int) (M : bz_M) : Option (Int × bz_M) := bz_X (bz_Pg Lg true) bz_kI d 10 38 [some (.inr (.inr 295)), some (.inr (.inr 131)), some (.inr (.inr v)), some (.inl x3), some (.inl x4), some (.inl x5), some (.inl x6)] [] M
noncomputable def eDr_at (Lg d : Nat) (a : Int) (b : Int) (g : Int) (M : bz_M) : Option (Int × bz_M) := bz_cI (bz_Pg Lg true) d 11 [.inl a, .inl b, .inl g] M
noncomputable def eDr_look (Lg d : Nat) (a : Int) (b : Int) (g : Int) (h : Int) (M : bz_M) : Option (bz_M) := bz_cV (bz_Pg Lg true) d 12 [.inr (.inr 295), .inr (.inr 131), .inl a, .inl b, .inl g, .inl h] M
noncomputable def eDr_look_60 (Lg d : Nat) (x2 : Int) (x3 : Int) (x4 : Int) (x5 : Int) (x6 : Int) (x7 : Int) (M : bz_M) : Option (bz_M) := bz_X (bz_Pg Lg true) bz_kV d 12 60 [some (.inr (.inr 295)), some (.inr (.inr 131)), some (.inl x2), some (.inl x3), some (.inl x4), some (.inl x5), some (.inl x6), some (.inl x7), none] [] M
noncomputable def eDr_look_109 (Lg d : Nat) (x2 : Int) (x3 : Int) (x4 : Int) (x5 : Int) (x6 : Int) (x7 : Int) (y0 : Int) (M : bz_M) : Option (bz_M) := bz_X (bz_Pg Lg true) bz_kV d 12 109 [some (.inr (.inr 295)), some (.inr (.inr 131)), some (.inl x2), some (.inl x3), some (.inl x4), some (.inl x5), some (.inl x6), some (.inl x7), none] [.inl y0] M
noncomputable def eFc_behind (Lg d : Nat) (a : Int) (M : bz_M) : Option (Nat × bz_M) := bz_cR (bz_Pg Lg true) d 14 [.inr (.inr 279), .inl a] M
noncomputable def eFc_behind_13 (Lg d : Nat) (x1 : Int) (x2 : Int) (M : bz_M) : Option (Nat × bz_M) := bz_X (bz_Pg Lg true) bz_kR d 14 13 [some (.inr (.inr 279)), some (.inl x1), some (.inl x2)] [] M
noncomputable def eFc_firstStraight (Lg d : Nat)  (M : bz_M) : Option (Int × bz_M) := bz_cI (bz_Pg Lg true) d 15 [.inr (.inr 279)] M
noncomputable def eFc_firstStraight_33 (Lg d : Nat) (x1 : Int) (x2 : Int) (M : bz_M) : Option (Int × bz_M) := bz_X (bz_Pg Lg true) bz_kI d 15 33 [some (.inr (.inr 279)), some (.inl x1), some (.inl x2)] [] M
noncomputable def eFc_fewestWillows (Lg d : Nat) (a : Int) (b : Int) (g : Int) (M : bz_M) : Option (Int × bz_M) := bz_cI (bz_Pg Lg true) d 16 [.inr (.inr 279), .inl a, .inl b, .inl g] M
noncomputable def eFc_fewestWillows_25 (Lg d : Nat) (x3 : Int) (x4 : Int) (x5 : Int) (M : bz_M) : Option (Int × bz_M) := bz_X (bz_Pg Lg true) bz_kI d 16 25 [some (.inr (.inr 279)), none, none, some (.inl x3), some (.inl x4), some (.inl x5), none] [] M
noncomputable def eFc_fewestWillows_78 (Lg d : Nat) (x3 : Int) (x4 : Int) (x5 : Int) (M : bz_M) : Option (Int × bz_M) := bz_X (bz_Pg Lg true) bz_kI d 16 78 [some (.inr (.inr 279)), none, none, some (.inl x3), some (.inl x4), some (.inl x5), none] [] M
noncomputable def eFc_fewestWillows_89 (Lg d : Nat) (x3 : Int) (x4 : Int) (x5 : Int) (x6 : Int) (M : bz_M) : Option (Int × bz_M) := bz_X (bz_Pg Lg true) bz_kI d 16 89 [some (.inr (.inr 279)), none, none, some (.inl x3), some (.inl x4), some (.inl x5), some (.inl x6)] [] M
noncomputable def eFc_rememberAsked (Lg d : Nat) (a : Int) (M : bz_M) : Option (bz_M) := bz_cV (bz_Pg Lg true) d 17 [.inr (.inr 279), .inl a] M
noncomputable def eFc_rememberAsked_2 (Lg d : Nat) (x1 : Int) (x2 : Int) (M : bz_M) : Option (bz_M) := bz_X (bz_Pg Lg true) bz_kV d 17 2 [some (.inr (.inr 279)), some (.inl x1), some (.inl x2)] [] M
noncomputable def eFc_takesPair (Lg d : Nat) (a : Int) (b : Int) (M : bz_M) : Option (Int × bz_M) := bz_cI (bz_Pg Lg true) d 18 [.inr (.inr 279), .inl a, .inl b] M
noncomputable def eFc_takesPair_12 (Lg d : Nat) (x1 : Int) (x2 : Int) (y1 : Int) (y2 : Int) (M : bz_M) : Option (Int × bz_M) := bz_X (bz_Pg Lg true) bz_kI d 18 12 [some (.inr (.inr 279)), some (.inl x1), some (.inl x2)] [.inl y2, .inl y1, .inr (.inr 279)] M
noncomputable def eFc_takesWillows (Lg d : Nat) (a : Int) (b : Int) (M : bz_M) : Option (Int × bz_M) := bz_cI (bz_Pg Lg true) d 19 [.inr (.inr 279), .inl a, .inl b] M
noncomputable def eFc_lands (Lg d : Nat) (a : Int) (b : Int) (g : Int) (h : Int) (M : bz_M) : Option (Int × bz_M) := bz_cI (bz_Pg Lg true) d 20 [.inr (.inr 279), .inl a, .inl b, .inl g, .inl h] M
noncomputable def eFc_lands_58 (Lg d : Nat) (x1 : Int) (x2 : Int) (x5 : Int) (M : bz_M) : Option (Int × bz_M) := bz_X (bz_Pg Lg true) bz_kI d 20 58 [some (.inr (.inr 279)), some (.inl x1), some (.inl x2), none, none, some (.inl x5)] [] M
noncomputable def eFc_setAtRest (Lg d : Nat) (a : Int) (M : bz_M) : Option (Int × bz_M) := bz_cI (bz_Pg Lg true) d 21 [.inr (.inr 279), .inl a] M
noncomputable def eFc_setAtRest_15 (Lg d : Nat) (x1 : Int) (x2 : Int) (x3 : Int) (M : bz_M) : Option (Int × bz_M) := bz_X (bz_Pg Lg true) bz_kI d 21 15 [some (.inr (.inr 279)), some (.inl x1), some (.inl x2), some (.inl x3), none] [] M
noncomputable def eFc_setAtRest_37 (Lg d : Nat) (x2 : Int) (x3 : Int) (x4 : Int) (M : bz_M) : Option (Int × bz_M) := bz_X (bz_Pg Lg true) bz_kI d 21 37 [some (.inr (.inr 279)), none, some (.inl x2), some (.inl x3), some (.inl x4)] [] M
noncomputable def eFc_measureGains (Lg d : Nat) (a : Int) (b : Int) (M : bz_M) : Option (bz_M) := bz_cV (bz_Pg Lg true) d 22 [.inr (.inr 279), .inl a, .inl b] M
noncomputable def eFc_measureGains_13 (Lg d : Nat) (x1 : Int) (x2 : Int) (x3 : Int) (M : bz_M) : Option (bz_M) := bz_X (bz_Pg Lg true) bz_kV d 22 13 [some (.inr (.inr 279)), some (.inl x1), some (.inl x2), some (.inl x3), none] [] M
noncomputable def eFc_measureGains_52 (Lg d : Nat) (x1 : Int) (x2 : Int) (x3 : Int) (M : bz_M) : Option (bz_M) := bz_X (bz_Pg Lg true) bz_kV d 22 52 [some (.inr (.inr 279)), some (.inl x1), some (.inl x2), some (.inl x3), none] [] M
noncomputable def eFc_measureGains_73 (Lg d : Nat) (x1 : Int) (x3 : Int) (M : bz_M) : Option (bz_M) := bz_X (bz_Pg Lg true) bz_kV d 22 73 [some (.inr (.inr 279)), some (.inl x1), none, some (.inl x3), none] [] M
noncomputable def eFc_isAtRest (Lg d : Nat) (a : Int) (M : bz_M) : Option (Int × bz_M) := bz_cI (bz_Pg Lg true) d 23 [.inr (.inr 279), .inl a] M
noncomputable def eFc_isAtRest_2 (Lg d : Nat) (x1 : Int) (x2 : Int) (M : bz_M) : Option (Int × bz_M) := bz_X (bz_Pg Lg true) bz_kI d 23 2 [some (.inr (.inr 279)), some (.inl x1), some (.inl x2), none] [] M
noncomputable def eFc_bestCut (Lg d : Nat)  (M : bz_M) : Option (Int × bz_M) := bz_cI (bz_Pg Lg true) d 24 [.inr (.inr 279)] M
noncomputable def eFc_bestCut_12 (Lg d : Nat) (x1 : Int) (x2 : Int) (x3 : Int) (M : bz_M) : Option (Int × bz_M) := bz_X (bz_Pg Lg true) bz_kI d 24 12 [some (.inr (.inr 279)), some (.inl x1), some (.inl x2), some (.inl x3), none] [] M
noncomputable def eFc_sees (Lg d : Nat) (a : Nat) (b : Int) (M : bz_M) : Option (Int × bz_M) := bz_cI (bz_Pg Lg true) d 25 [.inr (.inr 279), .inr (.inr a), .inl b] M
noncomputable def eFc_sees_26 (Lg d : Nat) (a : Nat) (x2 : Int) (x3 : Int) (x4 : Int) (M : bz_M) : Option (Int × bz_M) := bz_X (bz_Pg Lg true) bz_kI d 25 26 [some (.inr (.inr 279)), some (.inr (.inr a)), some (.inl x2), some (.inl x3), some (.inl x4)] [] M
noncomputable def eFc_sees_102 (Lg d : Nat) (a : Nat) (x2 : Int) (x3 : Int) (x4 : Int) (M : bz_M) : Option (Int × bz_M) := bz_X (bz_Pg Lg true) bz_kI d 25 102 [some (.inr (.inr 279)), some (.inr (.inr a)), some (.inl x2), some (.inl x3), some (.inl x4)] [] M
noncomputable def eFc_rowsBySeen (Lg d : Nat) (a : Int) (M : bz_M) : Option (Int × bz_M) := bz_cI (bz_Pg Lg true) d 26 [.inr (.inr 279), .inl a] M
noncomputable def eFc_rowsBySeen_4 (Lg d : Nat) (x1 : Int) (x2 : Int) (x3 : Int) (M : bz_M) : Option (Int × bz_M) := bz_X (bz_Pg Lg true) bz_kI d 26 4 [some (.inr (.inr 279)), some (.inl x1), some (.inl x2), some (.inl x3), none] [] M
noncomputable def eFc_rowsBySeen_56 (Lg d : Nat) (x1 : Int) (x2 : Int) (x3 : Int) (x4 : Int) (M : bz_M) : Option (Int × bz_M) := bz_X (bz_Pg Lg true) bz_kI d 26 56 [some (.inr (.inr 279)), some (.inl x1), some (.inl x2), some (.inl x3), some (.inl x4)] [] M
noncomputable def eFc_fits (Lg d : Nat) (a : Int) (b : Int) (g : Int) (M : bz_M) : Option (Int × bz_M) := bz_cI (bz_Pg Lg true) d 27 [.inr (.inr 279), .inl a, .inl b, .inl g] M
noncomputable def eFc_fits_27 (Lg d : Nat) (x3 : Int) (x4 : Int) (M : bz_M) : Option (Int × bz_M) := bz_X (bz_Pg Lg true) bz_kI d 27 27 [some (.inr (.inr 279)), none, none, some (.inl x3), some (.inl x4), none] [] M
noncomputable def eFc_fits_36 (Lg d : Nat) (x3 : Int) (x4 : Int) (x5 : Int) (M : bz_M) : Option (Int × bz_M) := bz_X (bz_Pg Lg true) bz_kI d 27 36 [some (.inr (.inr 279)), none, none, some (.inl x3), some (.inl x4), some (.inl x5)] [] M
noncomputable def eFc_findTelling (Lg d : Nat) (a : Int) (b : Int) (M : bz_M) : Option (Int × bz_M) := bz_cI (bz_Pg Lg true) d 28 [.inr (.inr 279), .inl a, .inl b] M
noncomputable def eFc_findTelling_34 (Lg d : Nat) (x1 : Int) (x2 : Int) (x3 : Int) (x4 : Int) (M : bz_M) : Option (Int × bz_M) := bz_X (bz_Pg Lg true) bz_kI d 28 34 [some (.inr (.inr 279)), some (.inl x1), some (.inl x2), some (.inl x3), some (.inl x4), none] [] M
noncomputable def eFc_findTelling_72 (Lg d : Nat) (x2 : Int) (x3 : Int) (x4 : Int) (M : bz_M) : Option (Int × bz_M) := bz_X (bz_Pg Lg true) bz_kI d 28 72 [some (.inr (.inr 279)), none, some (.inl x2), some (.inl x3), some (.inl x4), none] [] M
noncomputable def eFc_followRow (Lg d : Nat) (a : Int) (b : Int) (g : Int) (M : bz_M) : Option (bz_M) := bz_cV (bz_Pg Lg true) d 29 [.inr (.inr 279), .inl a, .inl b, .inl g] M
noncomputable def eFc_followRow_27 (Lg d : Nat) (x1 : Int) (x2 : Int) (x3 : Int) (x4 : Int) (M : bz_M) : Option (bz_M) := bz_X (bz_Pg Lg true) bz_kV d 29 27 [some (.inr (.inr 279)), some (.inl x1), some (.inl x2), some (.inl x3), some (.inl x4)] [] M
noncomputable def eFc_mostLeft (Lg d : Nat) (a : Int) (b : Int) (M : bz_M) : Option (Int × bz_M) := bz_cI (bz_Pg Lg true) d 30 [.inr (.inr 279), .inl a, .inl b] M
noncomputable def eFc_mostLeft_2 (Lg d : Nat) (x1 : Int) (x2 : Int) (x3 : Int) (M : bz_M) : Option (Int × bz_M) := bz_X (bz_Pg Lg true) bz_kI d 30 2 [some (.inr (.inr 279)), some (.inl x1), some (.inl x2), some (.inl x3), none, none] [] M
noncomputable def eFc_mostLeft_26 (Lg d : Nat) (x1 : Int) (x2 : Int) (x3 : Int) (x4 : Int) (M : bz_M) : Option (Int × bz_M) := bz_X (bz_Pg Lg true) bz_kI d 30 26 [some (.inr (.inr 279)), some (.inl x1), some (.inl x2), some (.inl x3), some (.inl x4), none] [] M
noncomputable def eGr_readSum (Lg d : Nat) (c : Nat) (a : Int) (M : bz_M) : Option (bz_M) := bz_cV (bz_Pg Lg true) d 32 [.inr (.inr 130), .inr (.inr c), .inl a] M
noncomputable def eGr_readTest (Lg d : Nat) (c : Nat) (a : Int) (M : bz_M) : Option (bz_M) := bz_cV (bz_Pg Lg true) d 33 [.inr (.inr 130), .inr (.inr c), .inl a] M
noncomputable def eGr_opens (Lg d : Nat) (a : Int) (M : bz_M) : Option (Int × bz_M) := bz_cI (bz_Pg Lg true) d 34 [.inr (.inr 130), .inl a] M
noncomputable def eGr_test (Lg d : Nat) (a : Int) (M : bz_M) : Option (bz_M) := bz_cV (bz_Pg Lg true) d 35 [.inr (.inr 130), .inl a] M
noncomputable def eGr_test_7 (Lg d : Nat) (x1 : Int) (x2 : Int) (M : bz_M) : Option (bz_M) := bz_X (bz_Pg Lg true) bz_kV d 35 7 [some (.inr (.inr 130)), some (.inl x1), some (.inl x2)] [] M
noncomputable def eGr_both (Lg d : Nat) (a : Int) (M : bz_M) : Option (bz_M) := bz_cV (bz_Pg Lg true) d 36 [.inr (.inr 130), .inl a] M
noncomputable def eGr_both_7 (Lg d : Nat) (x1 : Int) (x2 : Int) (M : bz_M) : Option (bz_M) := bz_X (bz_Pg Lg true) bz_kV d 36 7 [some (.inr (.inr 130)), some (.inl x1), some (.inl x2)] [] M
noncomputable def eGr_truth (Lg d : Nat) (a : Int) (M : bz_M) : Option (bz_M) := bz_cV (bz_Pg Lg true) d 37 [.inr (.inr 130), .inl a] M
noncomputable def eGr_comparison (Lg d : Nat) (a : Int) (M : bz_M) : Option (bz_M) := bz_cV (bz_Pg Lg true) d 38 [.inr (.inr 130), .inl a] M
noncomputable def eGr_comparison_57 (Lg d : Nat) (x1 : Int) (y0 : Int) (M : bz_M) : Option (bz_M) := bz_X (bz_Pg Lg true) bz_kV d 38 57 [some (.inr (.inr 130)), some (.inl x1), none] [.inl y0] M
noncomputable def eGr_sum (Lg d : Nat) (a : Int) (M : bz_M) : Option (bz_M) := bz_cV (bz_Pg Lg true) d 39 [.inr (.inr 130), .inl a] M
noncomputable def eGr_sum_7 (Lg d : Nat) (x1 : Int) (x2 : Int) (M : bz_M) : Option (bz_M) := bz_X (bz_Pg Lg true) bz_kV d 39 7 [some (.inr (.inr 130)), some (.inl x1), some (.inl x2), none] [] M
noncomputable def eGr_sum_56 (Lg d : Nat) (x1 : Int) (x2 : Int) (y0 : Int) (M : bz_M) : Option (bz_M) := bz_X (bz_Pg Lg true) bz_kV d 39 56 [some (.inr (.inr 130)), some (.inl x1), some (.inl x2), none] [.inl y0] M
noncomputable def eGr_product (Lg d : Nat) (a : Int) (M : bz_M) : Option (bz_M) := bz_cV (bz_Pg Lg true) d 40 [.inr (.inr 130), .inl a] M
noncomputable def eGr_product_7 (Lg d : Nat) (x1 : Int) (x2 : Int) (M : bz_M) : Option (bz_M) := bz_X (bz_Pg Lg true) bz_kV d 40 7 [some (.inr (.inr 130)), some (.inl x1), some (.inl x2), none] [] M
noncomputable def eGr_product_57 (Lg d : Nat) (x1 : Int) (x2 : Int) (y0 : Int) (M : bz_M) : Option (bz_M) := bz_X (bz_Pg Lg true) bz_kV d 40 57 [some (.inr (.inr 130)), some (.inl x1), some (.inl x2), none] [.inl y0] M
noncomputable def eGr_part (Lg d : Nat) (a : Int) (M : bz_M) : Option (bz_M) := bz_cV (bz_Pg Lg true) d 41 [.inr (.inr 130), .inl a] M
noncomputable def eGr_pair (Lg d : Nat) (a : Int) (b : Int) (M : bz_M) : Option (bz_M) := bz_cV (bz_Pg Lg true) d 42 [.inr (.inr 130), .inl a, .inl b] M
noncomputable def eGr_ofColumn (Lg d : Nat) (a : Int) (b : Int) (M : bz_M) : Option (bz_M) := bz_cV (bz_Pg Lg true) d 43 [.inr (.inr 130), .inl a, .inl b] M
noncomputable def ePa_forget (Lg d : Nat)  (M : bz_M) : Option (bz_M) := bz_cV (bz_Pg Lg true) d 45 [.inr (.inr 157)] M
noncomputable def ePa_remember (Lg d : Nat)  (M : bz_M) : Option (bz_M) := bz_cV (bz_Pg Lg true) d 46 [.inr (.inr 157), .inr (.inr 148)] M
noncomputable def ePa_recall (Lg d : Nat)  (M : bz_M) : Option (Int × bz_M) := bz_cI (bz_Pg Lg true) d 47 [.inr (.inr 157), .inr (.inr 148)] M
noncomputable def eQu_read (Lg d : Nat)  (M : bz_M) : Option (Int × bz_M) := bz_cI (bz_Pg Lg true) d 49 [.inr (.inr 125), .inr (.inr 123), .inr (.inr 130)] M
noncomputable def eQu_read_47 (Lg d : Nat) (y0 : Int) (M : bz_M) : Option (Int × bz_M) := bz_X (bz_Pg Lg true) bz_kI d 49 47 [some (.inr (.inr 125)), some (.inr (.inr 123)), some (.inr (.inr 130)), none, none] [.inl y0] M
noncomputable def eQu_read_83 (Lg d : Nat) (x3 : Int) (y0 : Int) (M : bz_M) : Option (Int × bz_M) := bz_X (bz_Pg Lg true) bz_kI d 49 83 [some (.inr (.inr 125)), some (.inr (.inr 123)), some (.inr (.inr 130)), some (.inl x3), none] [.inl y0] M
noncomputable def eQu_read_125 (Lg d : Nat) (x3 : Int) (x4 : Int) (M : bz_M) : Option (Int × bz_M) := bz_X (bz_Pg Lg true) bz_kI d 49 125 [none, some (.inr (.inr 123)), none, some (.inl x3), some (.inl x4)] [] M
noncomputable def eQu_read_150 (Lg d : Nat)  (M : bz_M) : Option (Int × bz_M) := bz_X (bz_Pg Lg true) bz_kI d 49 150 [none, some (.inr (.inr 123)), none, none, none] [] M
noncomputable def eQu_answer (Lg d : Nat)  (M : bz_M) : Option (Int × bz_M) := bz_cL (bz_Pg Lg true) d 50 [.inr (.inr 125), .inr (.inr 131)] M
noncomputable def eQu_answer_31 (Lg d : Nat) (x2 : Int) (x4 : Int) (M : bz_M) : Option (Int × bz_M) := bz_X (bz_Pg Lg true) bz_kL d 50 31 [some (.inr (.inr 125)), some (.inr (.inr 131)), some (.inr (.inl x2)), none, some (.inl x4)] [] M
noncomputable def eQu_withLord (Lg d : Nat) (a : Int) (b : Int) (g : Int) (M : bz_M) : Option (Int × bz_M) := bz_cL (bz_Pg Lg true) d 51 [.inr (.inr 125), .inr (.inl a), .inl b, .inl g] M
noncomputable def eQu_valueFor (Lg d : Nat) (a : Int) (M : bz_M) : Option (Int × bz_M) := bz_cI (bz_Pg Lg true) d 52 [.inr (.inr 125), .inr (.inr 131), .inl a] M
noncomputable def eQu_valueFor_147 (Lg d : Nat) (v : Nat) (x4 : Int) (M : bz_M) : Option (Int × bz_M) := bz_X (bz_Pg Lg true) bz_kI d 52 147 [some (.inr (.inr 125)), some (.inr (.inr 131)), none, some (.inr (.inr v)), some (.inl x4)] [] M
noncomputable def eRi_begin (Lg d : Nat) (v : Nat) (M : bz_M) : Option (bz_M) := bz_cV (bz_Pg Lg true) d 54 [.inr (.inr 131), .inr (.inr v)] M
noncomputable def eRi_follow (Lg d : Nat)  (M : bz_M) : Option (bz_M) := bz_cV (bz_Pg Lg true) d 55 [.inr (.inr 285), .inr (.inr 131)] M
noncomputable def eRi_follow_21 (Lg d : Nat) (x2 : Int) (M : bz_M) : Option (bz_M) := bz_X (bz_Pg Lg true) bz_kV d 55 21 [some (.inr (.inr 285)), none, some (.inl x2)] [] M
noncomputable def eRi_follow_42 (Lg d : Nat) (x2 : Int) (M : bz_M) : Option (bz_M) := bz_X (bz_Pg Lg true) bz_kV d 55 42 [some (.inr (.inr 285)), none, some (.inl x2)] [] M
noncomputable def eRi_isInner (Lg d : Nat) (r : Nat) (a : Int) (M : bz_M) : Option (Int × bz_M) := bz_cI (bz_Pg Lg true) d 56 [.inr (.inr r), .inl a] M
noncomputable def eRi_turnOf (Lg d : Nat) (r : Nat) (a : Int) (M : bz_M) : Option (Int × bz_M) := bz_cI (bz_Pg Lg true) d 57 [.inr (.inr r), .inl a] M
noncomputable def eRi_offerOf (Lg d : Nat) (r : Nat) (a : Int) (M : bz_M) : Option (Int × bz_M) := bz_cI (bz_Pg Lg true) d 58 [.inr (.inr r), .inl a] M
noncomputable def eRi_isIn (Lg d : Nat) (r : Nat) (a : Int) (b : Int) (M : bz_M) : Option (Int × bz_M) := bz_cI (bz_Pg Lg true) d 59 [.inr (.inr r), .inl a, .inl b] M
noncomputable def eRi_payOf (Lg d : Nat) (r : Nat) (a : Int) (M : bz_M) : Option (Int × bz_M) := bz_cI (bz_Pg Lg true) d 60 [.inr (.inr r), .inl a] M
noncomputable def eRi_payOf_4 (Lg d : Nat) (r : Nat) (x1 : Int) (x2 : Int) (x3 : Int) (M : bz_M) : Option (Int × bz_M) := bz_X (bz_Pg Lg true) bz_kI d 60 4 [some (.inr (.inr r)), some (.inl x1), some (.inl x2), some (.inl x3)] [] M
noncomputable def eRi_sumOfEats (Lg d : Nat) (r : Nat) (a : Int) (b : Int) (M : bz_M) : Option (Int × bz_M) := bz_cI (bz_Pg Lg true) d 61 [.inr (.inr r), .inl a, .inl b] M
noncomputable def eRi_isBend (Lg d : Nat) (r : Nat) (a : Int) (M : bz_M) : Option (Int × bz_M) := bz_cI (bz_Pg Lg true) d 62 [.inr (.inr r), .inl a] M
noncomputable def eRi_isBend_29 (Lg d : Nat) (r : Nat) (x1 : Int) (x2 : Int) (y0 : Int) (M : bz_M) : Option (Int × bz_M) := bz_X (bz_Pg Lg true) bz_kI d 62 29 [some (.inr (.inr r)), some (.inl x1), some (.inl x2), none, none] [.inl y0] M
noncomputable def eRi_isBendBy (Lg d : Nat) (r : Nat) (a : Int) (b : Int) (g : Int) (h : Int) (M : bz_M) : Option (Int × bz_M) := bz_cI (bz_Pg Lg true) d 63 [.inr (.inr r), .inl a, .inl b, .inl g, .inl h] M
noncomputable def eRi_countBends (Lg d : Nat) (r : Nat) (a : Int) (b : Int) (M : bz_M) : Option (Int × bz_M) := bz_cI (bz_Pg Lg true) d 64 [.inr (.inr r), .inl a, .inl b] M
noncomputable def eRi_countBends_5 (Lg d : Nat) (r : Nat) (x2 : Int) (x3 : Int) (x4 : Int) (M : bz_M) : Option (Int × bz_M) := bz_X (bz_Pg Lg true) bz_kI d 64 5 [some (.inr (.inr r)), none, some (.inl x2), some (.inl x3), some (.inl x4)] [] M
noncomputable def eRi_pass (Lg d : Nat) (r : Nat) (M : bz_M) : Option (Int × bz_M) := bz_cI (bz_Pg Lg true) d 65 [.inr (.inr r)] M
noncomputable def eRi_pass_2 (Lg d : Nat) (r : Nat) (x1 : Int) (M : bz_M) : Option (Int × bz_M) := bz_X (bz_Pg Lg true) bz_kI d 65 2 [some (.inr (.inr r)), some (.inl x1), none] [] M
noncomputable def eRi_pass_26 (Lg d : Nat) (r : Nat) (x1 : Int) (M : bz_M) : Option (Int × bz_M) := bz_X (bz_Pg Lg true) bz_kI d 65 26 [some (.inr (.inr r)), some (.inl x1), none] [] M
noncomputable def eRi_pass_92 (Lg d : Nat) (r : Nat) (x1 : Int) (x2 : Int) (M : bz_M) : Option (Int × bz_M) := bz_X (bz_Pg Lg true) bz_kI d 65 92 [some (.inr (.inr r)), some (.inl x1), some (.inl x2)] [] M
noncomputable def eRi_eatBank (Lg d : Nat) (r : Nat) (a : Int) (M : bz_M) : Option (bz_M) := bz_cV (bz_Pg Lg true) d 66 [.inr (.inr r), .inl a] M
noncomputable def eRi_eatBank_20 (Lg d : Nat) (r : Nat) (x1 : Int) (x2 : Int) (x3 : Int) (x4 : Int) (x5 : Int) (M : bz_M) : Option (bz_M) := bz_X (bz_Pg Lg true) bz_kV d 66 20 [some (.inr (.inr r)), some (.inl x1), some (.inl x2), some (.inl x3), some (.inl x4), some (.inl x5), none] [] M
noncomputable def eRi_mayGo (Lg d : Nat) (r : Nat) (a : Int) (b : Int) (M : bz_M) : Option (Int × bz_M) := bz_cI (bz_Pg Lg true) d 67 [.inr (.inr r), .inl a, .inl b] M
noncomputable def eRi_mayGo_52 (Lg d : Nat) (r : Nat) (x1 : Int) (x2 : Int) (y0 : Int) (M : bz_M) : Option (Int × bz_M) := bz_X (bz_Pg Lg true) bz_kI d 67 52 [some (.inr (.inr r)), some (.inl x1), some (.inl x2), none, none] [.inl y0] M
noncomputable def eRi_collect (Lg d : Nat) (r : Nat) (a : Int) (M : bz_M) : Option (Int × bz_M) := bz_cI (bz_Pg Lg true) d 68 [.inr (.inr r), .inl a] M
noncomputable def eRi_collect_4 (Lg d : Nat) (r : Nat) (x1 : Int) (x2 : Int) (x3 : Int) (M : bz_M) : Option (Int × bz_M) := bz_X (bz_Pg Lg true) bz_kI d 68 4 [some (.inr (.inr r)), some (.inl x1), some (.inl x2), some (.inl x3), none] [] M
noncomputable def eRi_push (Lg d : Nat) (r : Nat) (a : Int) (b : Int) (M : bz_M) : Option (bz_M) := bz_cV (bz_Pg Lg true) d 69 [.inr (.inr r), .inl a, .inl b] M
noncomputable def eRi_halfWay (Lg d : Nat) (r : Nat) (a : Int) (M : bz_M) : Option (Int × bz_M) := bz_cI (bz_Pg Lg true) d 70 [.inr (.inr r), .inl a] M
noncomputable def eRi_canCut (Lg d : Nat) (r : Nat) (a : Int) (M : bz_M) : Option (Int × bz_M) := bz_cI (bz_Pg Lg true) d 71 [.inr (.inr r), .inl a] M
noncomputable def eRi_bargeTime (Lg d : Nat) (r : Nat) (M : bz_M) : Option (Int × bz_M) := bz_cI (bz_Pg Lg true) d 72 [.inr (.inr r)] M
noncomputable def eRi_bargeTime_10 (Lg d : Nat) (r : Nat) (x1 : Int) (x2 : Int) (M : bz_M) : Option (Int × bz_M) := bz_X (bz_Pg Lg true) bz_kI d 72 10 [some (.inr (.inr r)), some (.inl x1), some (.inl x2)] [] M
noncomputable def eSt_begin (Lg d : Nat) (s : Nat) (v : Nat) (M : bz_M) : Option (bz_M) := bz_cV (bz_Pg Lg true) d 74 [.inr (.inr s), .inr (.inr v)] M
noncomputable def eSt_begin_17 (Lg d : Nat) (s : Nat) (v : Nat) (x2 : Int) (M : bz_M) : Option (bz_M) := bz_X (bz_Pg Lg true) bz_kV d 74 17 [some (.inr (.inr s)), some (.inr (.inr v)), some (.inl x2)] [] M
noncomputable def eSt_begin_43 (Lg d : Nat) (s : Nat) (v : Nat) (x2 : Int) (M : bz_M) : Option (bz_M) := bz_X (bz_Pg Lg true) bz_kV d 74 43 [some (.inr (.inr s)), some (.inr (.inr v)), some (.inl x2)] [] M
noncomputable def eSt_begin_76 (Lg d : Nat) (s : Nat) (v : Nat) (x2 : Int) (M : bz_M) : Option (bz_M) := bz_X (bz_Pg Lg true) bz_kV d 74 76 [some (.inr (.inr s)), some (.inr (.inr v)), some (.inl x2)] [] M
noncomputable def eSt_copy (Lg d : Nat) (s : Nat) (t : Nat) (M : bz_M) : Option (bz_M) := bz_cV (bz_Pg Lg true) d 75 [.inr (.inr s), .inr (.inr t)] M
noncomputable def eSt_sizeOfImage (Lg d : Nat) (v : Nat) (M : bz_M) : Option (Int × bz_M) := bz_cI (bz_Pg Lg true) d 76 [.inr (.inr v)] M
noncomputable def eSt_write (Lg d : Nat) (s : Nat) (a : Nat) (v : Nat) (M : bz_M) : Option (Int × bz_M) := bz_cI (bz_Pg Lg true) d 77 [.inr (.inr s), .inr (.inr a), .inr (.inr v)] M
noncomputable def eSt_write_25 (Lg d : Nat) (s : Nat) (a : Nat) (v : Nat) (x3 : Int) (x4 : Int) (M : bz_M) : Option (Int × bz_M) := bz_X (bz_Pg Lg true) bz_kI d 77 25 [some (.inr (.inr s)), some (.inr (.inr a)), some (.inr (.inr v)), some (.inl x3), some (.inl x4), none] [] M
noncomputable def eSt_write_57 (Lg d : Nat) (s : Nat) (a : Nat) (v : Nat) (x3 : Int) (x4 : Int) (M : bz_M) : Option (Int × bz_M) := bz_X (bz_Pg Lg true) bz_kI d 77 57 [some (.inr (.inr s)), some (.inr (.inr a)), some (.inr (.inr v)), some (.inl x3), some (.inl x4), none] [] M
noncomputable def eSt_write_69 (Lg d : Nat) (s : Nat) (a : Nat) (v : Nat) (x3 : Int) (x4 : Int) (x5 : Int) (M : bz_M) : Option (Int × bz_M) := bz_X (bz_Pg Lg true) bz_kI d 77 69 [some (.inr (.inr s)), some (.inr (.inr a)), some (.inr (.inr v)), some (.inl x3), some (.inl x4), some (.inl x5)] [] M
noncomputable def eSt_write_133 (Lg d : Nat) (s : Nat) (a : Nat) (v : Nat) (x3 : Int) (x4 : Int) (M : bz_M) : Option (Int × bz_M) := bz_X (bz_Pg Lg true) bz_kI d 77 133 [some (.inr (.inr s)), some (.inr (.inr a)), some (.inr (.inr v)), some (.inl x3), some (.inl x4), none] [] M
noncomputable def eSt_writeNumber (Lg d : Nat) (a : Nat) (b : Int) (g : Int) (h : Int) (M : bz_M) : Option (Int × bz_M) := bz_cI (bz_Pg Lg true) d 78 [.inr (.inr a), .inl b, .inl g, .inl h] M
noncomputable def eSt_writeNumber_3 (Lg d : Nat) (a : Nat) (x1 : Int) (x2 : Int) (x3 : Int) (x4 : Int) (M : bz_M) : Option (Int × bz_M) := bz_X (bz_Pg Lg true) bz_kI d 78 3 [some (.inr (.inr a)), some (.inl x1), some (.inl x2), some (.inl x3), some (.inl x4)] [] M
noncomputable def eSt_check (Lg d : Nat) (a : Nat) (b : Int) (M : bz_M) : Option (Int × bz_M) := bz_cI (bz_Pg Lg true) d 79 [.inr (.inr a), .inl b] M
noncomputable def eSt_check_6 (Lg d : Nat) (a : Nat) (x1 : Int) (x2 : Int) (x3 : Int) (M : bz_M) : Option (Int × bz_M) := bz_X (bz_Pg Lg true) bz_kI d 79 6 [some (.inr (.inr a)), some (.inl x1), some (.inl x2), some (.inl x3)] [] M
noncomputable def eSt_read (Lg d : Nat) (s : Nat) (a : Nat) (b : Int) (v : Nat) (M : bz_M) : Option (Int × bz_M) := bz_cI (bz_Pg Lg true) d 80 [.inr (.inr s), .inr (.inr a), .inl b, .inr (.inr v)] M
noncomputable def eSt_read_91 (Lg d : Nat) (s : Nat) (a : Nat) (v : Nat) (x5 : Int) (x6 : Int) (x7 : Int) (M : bz_M) : Option (Int × bz_M) := bz_X (bz_Pg Lg true) bz_kI d 80 91 [some (.inr (.inr s)), some (.inr (.inr a)), none, some (.inr (.inr v)), none, some (.inl x5), some (.inl x6), some (.inl x7)] [] M
noncomputable def eSt_readCells (Lg d : Nat) (s : Nat) (a : Nat) (b : Int) (v : Nat) (M : bz_M) : Option (Int × bz_M) := bz_cI (bz_Pg Lg true) d 81 [.inr (.inr s), .inr (.inr a), .inl b, .inr (.inr v)] M
noncomputable def eSt_readCells_9 (Lg d : Nat) (s : Nat) (a : Nat) (v : Nat) (x4 : Int) (x5 : Int) (x6 : Int) (M : bz_M) : Option (Int × bz_M) := bz_X (bz_Pg Lg true) bz_kI d 81 9 [some (.inr (.inr s)), some (.inr (.inr a)), none, some (.inr (.inr v)), some (.inl x4), some (.inl x5), some (.inl x6), none, none] [] M
noncomputable def eSt_readCells_21 (Lg d : Nat) (s : Nat) (a : Nat) (v : Nat) (x4 : Int) (x5 : Int) (x6 : Int) (x7 : Int) (M : bz_M) : Option (Int × bz_M) := bz_X (bz_Pg Lg true) bz_kI d 81 21 [some (.inr (.inr s)), some (.inr (.inr a)), none, some (.inr (.inr v)), some (.inl x4), some (.inl x5), some (.inl x6), some (.inl x7), none] [] M
noncomputable def eSt_readLords (Lg d : Nat) (s : Nat) (a : Nat) (b : Int) (v : Nat) (M : bz_M) : Option (Int × bz_M) := bz_cI (bz_Pg Lg true) d 82 [.inr (.inr s), .inr (.inr a), .inl b, .inr (.inr v)] M
noncomputable def eSt_readLords_6 (Lg d : Nat) (s : Nat) (a : Nat) (x2 : Int) (v : Nat) (x4 : Int) (x5 : Int) (M : bz_M) : Option (Int × bz_M) := bz_X (bz_Pg Lg true) bz_kI d 82 6 [some (.inr (.inr s)), some (.inr (.inr a)), some (.inl x2), some (.inr (.inr v)), some (.inl x4), some (.inl x5)] [] M
noncomputable def eSt_readNumber (Lg d : Nat) (a : Nat) (b : Int) (g : Int) (M : bz_M) : Option (Int × bz_M) := bz_cI (bz_Pg Lg true) d 83 [.inr (.inr a), .inl b, .inl g] M
noncomputable def eSt_readNumber_5 (Lg d : Nat) (a : Nat) (x1 : Int) (x2 : Int) (x3 : Int) (x4 : Int) (M : bz_M) : Option (Int × bz_M) := bz_X (bz_Pg Lg true) bz_kI d 83 5 [some (.inr (.inr a)), some (.inl x1), some (.inl x2), some (.inl x3), some (.inl x4)] [] M
noncomputable def eTx_append (Lg d : Nat) (a : Int) (M : bz_M) : Option (bz_M) := bz_cV (bz_Pg Lg true) d 85 [.inr (.inr 123), .inl a] M
noncomputable def eTx_append_3 (Lg d : Nat) (x1 : Int) (x2 : Int) (M : bz_M) : Option (bz_M) := bz_X (bz_Pg Lg true) bz_kV d 85 3 [some (.inr (.inr 123)), some (.inl x1), some (.inl x2)] [] M
noncomputable def eTx_begin (Lg d : Nat)  (M : bz_M) : Option (bz_M) := bz_cV (bz_Pg Lg true) d 86 [.inr (.inr 123)] M
noncomputable def eTx_step (Lg d : Nat)  (M : bz_M) : Option (bz_M) := bz_cV (bz_Pg Lg true) d 87 [.inr (.inr 123)] M
noncomputable def eTx_step_30 (Lg d : Nat) (x1 : Int) (M : bz_M) : Option (bz_M) := bz_X (bz_Pg Lg true) bz_kV d 87 30 [some (.inr (.inr 123)), some (.inl x1), none] [] M
noncomputable def eTx_step_102 (Lg d : Nat) (y0 : Int) (M : bz_M) : Option (bz_M) := bz_X (bz_Pg Lg true) bz_kV d 87 102 [some (.inr (.inr 123)), none, none] [.inl y0] M
noncomputable def eTx_step_123 (Lg d : Nat) (x2 : Int) (M : bz_M) : Option (bz_M) := bz_X (bz_Pg Lg true) bz_kV d 87 123 [some (.inr (.inr 123)), none, some (.inl x2)] [] M
noncomputable def eTx_step_198 (Lg d : Nat) (x2 : Int) (y1 : Nat) (M : bz_M) : Option (bz_M) := bz_X (bz_Pg Lg true) bz_kV d 87 198 [some (.inr (.inr 123)), none, some (.inl x2)] [.inr (.inr y1), .inr (.inr 123)] M
noncomputable def eTx_kindAt (Lg d : Nat) (a : Int) (M : bz_M) : Option (Int × bz_M) := bz_cI (bz_Pg Lg true) d 88 [.inr (.inr 123), .inl a] M
noncomputable def eTx_wordThere (Lg d : Nat)  (M : bz_M) : Option (Nat × bz_M) := bz_cR (bz_Pg Lg true) d 89 [.inr (.inr 123)] M
noncomputable def eTx_wordThere_2 (Lg d : Nat) (x1 : Int) (M : bz_M) : Option (Nat × bz_M) := bz_X (bz_Pg Lg true) bz_kR d 89 2 [some (.inr (.inr 123)), some (.inl x1), none, none] [] M
noncomputable def eTx_wordThere_21 (Lg d : Nat) (x1 : Int) (x2 : Nat) (x3 : Int) (M : bz_M) : Option (Nat × bz_M) := bz_X (bz_Pg Lg true) bz_kR d 89 21 [some (.inr (.inr 123)), some (.inl x1), some (.inr (.inr x2)), some (.inl x3)] [] M
noncomputable def eTx_wordThere_67 (Lg d : Nat) (x1 : Int) (x2 : Nat) (x3 : Int) (M : bz_M) : Option (Nat × bz_M) := bz_X (bz_Pg Lg true) bz_kR d 89 67 [some (.inr (.inr 123)), some (.inl x1), some (.inr (.inr x2)), some (.inl x3)] [] M
noncomputable def eTx_fail (Lg d : Nat) (a : Int) (b : Int) (M : bz_M) : Option (bz_M) := bz_cV (bz_Pg Lg true) d 90 [.inr (.inr 123), .inl a, .inl b] M
noncomputable def eTx_isSign (Lg d : Nat) (a : Int) (M : bz_M) : Option (Int × bz_M) := bz_cI (bz_Pg Lg true) d 91 [.inr (.inr 123), .inl a] M
noncomputable def eTx_isWord (Lg d : Nat) (w : Nat) (M : bz_M) : Option (Int × bz_M) := bz_cI (bz_Pg Lg true) d 92 [.inr (.inr 123), .inr (.inr w)] M
noncomputable def eTx_isFact (Lg d : Nat) (a : Int) (M : bz_M) : Option (Int × bz_M) := bz_cI (bz_Pg Lg true) d 93 [.inr (.inr 123), .inl a] M
noncomputable def eTx_takesWord (Lg d : Nat) (w : Nat) (M : bz_M) : Option (Int × bz_M) := bz_cI (bz_Pg Lg true) d 94 [.inr (.inr 123), .inr (.inr w)] M
noncomputable def eTx_needsSign (Lg d : Nat) (a : Int) (M : bz_M) : Option (bz_M) := bz_cV (bz_Pg Lg true) d 95 [.inr (.inr 123), .inl a] M
noncomputable def eTx_needsWord (Lg d : Nat) (w : Nat) (M : bz_M) : Option (bz_M) := bz_cV (bz_Pg Lg true) d 96 [.inr (.inr 123), .inr (.inr w)] M
noncomputable def eTx_takesNumber (Lg d : Nat) (a : Int) (b : Int) (M : bz_M) : Option (Int × bz_M) := bz_cI (bz_Pg Lg true) d 97 [.inr (.inr 123), .inl a, .inl b] M
noncomputable def eTx_takesNumber_53 (Lg d : Nat) (x1 : Int) (x2 : Int) (x3 : Int) (x4 : Int) (M : bz_M) : Option (Int × bz_M) := bz_X (bz_Pg Lg true) bz_kI d 97 53 [some (.inr (.inr 123)), some (.inl x1), some (.inl x2), some (.inl x3), some (.inl x4)] [] M
noncomputable def eVy_read (Lg d : Nat) (v : Nat) (M : bz_M) : Option (Int × bz_M) := bz_cI (bz_Pg Lg true) d 99 [.inr (.inr v), .inr (.inr 123), .inr (.inr 130)] M
noncomputable def eVy_read_10 (Lg d : Nat) (v : Nat) (x3 : Int) (M : bz_M) : Option (Int × bz_M) := bz_X (bz_Pg Lg true) bz_kI d 99 10 [some (.inr (.inr v)), some (.inr (.inr 123)), some (.inr (.inr 130)), some (.inl x3)] [] M
noncomputable def eVy_read_78 (Lg d : Nat) (x3 : Int) (M : bz_M) : Option (Int × bz_M) := bz_X (bz_Pg Lg true) bz_kI d 99 78 [none, some (.inr (.inr 123)), none, some (.inl x3)] [] M
noncomputable def eVy_clear (Lg d : Nat) (v : Nat) (M : bz_M) : Option (bz_M) := bz_cV (bz_Pg Lg true) d 100 [.inr (.inr v)] M
noncomputable def eVy_clear_12 (Lg d : Nat) (v : Nat) (x1 : Int) (M : bz_M) : Option (bz_M) := bz_X (bz_Pg Lg true) bz_kV d 100 12 [some (.inr (.inr v)), some (.inl x1)] [] M
noncomputable def eVy_clear_33 (Lg d : Nat) (v : Nat) (x1 : Int) (M : bz_M) : Option (bz_M) := bz_X (bz_Pg Lg true) bz_kV d 100 33 [some (.inr (.inr v)), some (.inl x1)] [] M
noncomputable def eVy_clear_61 (Lg d : Nat) (v : Nat) (x1 : Int) (M : bz_M) : Option (bz_M) := bz_X (bz_Pg Lg true) bz_kV d 100 61 [some (.inr (.inr v)), some (.inl x1)] [] M
noncomputable def eVy_readSize (Lg d : Nat) (v : Nat) (M : bz_M) : Option (bz_M) := bz_cV (bz_Pg Lg true) d 101 [.inr (.inr v), .inr (.inr 123)] M
noncomputable def eVy_readStatement (Lg d : Nat) (v : Nat) (M : bz_M) : Option (bz_M) := bz_cV (bz_Pg Lg true) d 102 [.inr (.inr v), .inr (.inr 123), .inr (.inr 130)] M
noncomputable def eVy_readWillow (Lg d : Nat) (v : Nat) (M : bz_M) : Option (bz_M) := bz_cV (bz_Pg Lg true) d 103 [.inr (.inr v), .inr (.inr 123)] M
noncomputable def eVy_readLord (Lg d : Nat) (v : Nat) (M : bz_M) : Option (bz_M) := bz_cV (bz_Pg Lg true) d 104 [.inr (.inr v), .inr (.inr 123)] M
noncomputable def eVy_readName (Lg d : Nat) (v : Nat) (M : bz_M) : Option (bz_M) := bz_cV (bz_Pg Lg true) d 105 [.inr (.inr v), .inr (.inr 123)] M
noncomputable def eVy_readName_57 (Lg d : Nat) (v : Nat) (x2 : Int) (x3 : Int) (M : bz_M) : Option (bz_M) := bz_X (bz_Pg Lg true) bz_kV d 105 57 [some (.inr (.inr v)), some (.inr (.inr 123)), some (.inl x2), some (.inl x3)] [] M
noncomputable def eVy_isNameTaken (Lg d : Nat) (v : Nat) (M : bz_M) : Option (Int × bz_M) := bz_cI (bz_Pg Lg true) d 106 [.inr (.inr v)] M
noncomputable def eVy_isNameTaken_2 (Lg d : Nat) (v : Nat) (x1 : Int) (M : bz_M) : Option (Int × bz_M) := bz_X (bz_Pg Lg true) bz_kI d 106 2 [some (.inr (.inr v)), some (.inl x1), none, none] [] M
noncomputable def eVy_isNameTaken_14 (Lg d : Nat) (v : Nat) (x1 : Int) (x2 : Int) (x3 : Int) (M : bz_M) : Option (Int × bz_M) := bz_X (bz_Pg Lg true) bz_kI d 106 14 [some (.inr (.inr v)), some (.inl x1), some (.inl x2), some (.inl x3)] [] M
noncomputable def eVy_isFirst (Lg d : Nat) (a : Int) (M : bz_M) : Option (Int × bz_M) := bz_cI (bz_Pg Lg true) d 107 [.inr (.inr 123), .inl a] M
noncomputable def eWo_standsIn (Lg d : Nat) (w : Nat) (a : Int) (M : bz_M) : Option (Int × bz_M) := bz_cI (bz_Pg Lg true) d 108 [.inr (.inr w), .inl a] M
noncomputable def eBr_feed (Lg d : Nat) (a : Int) (b : Int) (g : Int) (h : Int) (i : Int) (M : bz_M) : Option (Int × bz_M) := bz_cI (bz_Pg Lg true) d 110 [.inr (.inr 122), .inl a, .inl b, .inl g, .inl h, .inl i] M
noncomputable def eBr_end (Lg d : Nat) (a : Int) (M : bz_M) : Option (Int × bz_M) := bz_cI (bz_Pg Lg true) d 111 [.inr (.inr 122), .inl a] M
noncomputable def eBr_valley (Lg d : Nat)  (M : bz_M) : Option (Int × bz_M) := bz_cI (bz_Pg Lg true) d 112 [.inr (.inr 122)] M
noncomputable def eBr_fault (Lg d : Nat) (a : Int) (M : bz_M) : Option (Int × bz_M) := bz_cI (bz_Pg Lg true) d 113 [.inr (.inr 122), .inl a] M
noncomputable def eBr_has (Lg d : Nat) (a : Int) (M : bz_M) : Option (Int × bz_M) := bz_cI (bz_Pg Lg true) d 114 [.inr (.inr 122), .inl a] M
noncomputable def eBr_letter (Lg d : Nat) (a : Int) (b : Int) (M : bz_M) : Option (Int × bz_M) := bz_cI (bz_Pg Lg true) d 115 [.inr (.inr 122), .inl a, .inl b] M
noncomputable def eBr_column (Lg d : Nat) (a : Int) (b : Int) (M : bz_M) : Option (Int × bz_M) := bz_cI (bz_Pg Lg true) d 116 [.inr (.inr 122), .inl a, .inl b] M
noncomputable def eBr_cell (Lg d : Nat) (a : Int) (b : Int) (g : Int) (M : bz_M) : Option (Int × bz_M) := bz_cI (bz_Pg Lg true) d 117 [.inr (.inr 122), .inl a, .inl b, .inl g] M
noncomputable def eBr_eats (Lg d : Nat) (a : Int) (b : Int) (M : bz_M) : Option (Int × bz_M) := bz_cL (bz_Pg Lg true) d 118 [.inr (.inr 122), .inl a, .inl b] M
noncomputable def eBr_lord (Lg d : Nat) (a : Int) (b : Int) (M : bz_M) : Option (Int × bz_M) := bz_cI (bz_Pg Lg true) d 119 [.inr (.inr 122), .inl a, .inl b] M
noncomputable def eBr_kept (Lg d : Nat) (a : Int) (b : Int) (M : bz_M) : Option (Int × bz_M) := bz_cI (bz_Pg Lg true) d 120 [.inr (.inr 122), .inl a, .inl b] M
noncomputable def eBr_later (Lg d : Nat) (a : Int) (b : Int) (M : bz_M) : Option (Int × bz_M) := bz_cI (bz_Pg Lg true) d 121 [.inr (.inr 122), .inl a, .inl b] M
noncomputable def eBr_sums (Lg d : Nat) (a : Int) (b : Int) (M : bz_M) : Option (Int × bz_M) := bz_cI (bz_Pg Lg true) d 122 [.inr (.inr 122), .inl a, .inl b] M
noncomputable def eBr_straight (Lg d : Nat)  (M : bz_M) : Option (Int × bz_M) := bz_cI (bz_Pg Lg true) d 123 [.inr (.inr 122)] M
noncomputable def eBr_works (Lg d : Nat) (a : Int) (b : Int) (g : Int) (h : Int) (M : bz_M) : Option (Int × bz_M) := bz_cI (bz_Pg Lg true) d 124 [.inr (.inr 122), .inl a, .inl b, .inl g, .inl h] M
noncomputable def eBr_rest (Lg d : Nat) (a : Int) (M : bz_M) : Option (Int × bz_M) := bz_cI (bz_Pg Lg true) d 125 [.inr (.inr 122), .inl a] M
noncomputable def eBr_barge (Lg d : Nat)  (M : bz_M) : Option (Int × bz_M) := bz_cI (bz_Pg Lg true) d 126 [.inr (.inr 122)] M
noncomputable def eBr_cuts (Lg d : Nat)  (M : bz_M) : Option (Int × bz_M) := bz_cI (bz_Pg Lg true) d 127 [.inr (.inr 122)] M
noncomputable def eBr_dream (Lg d : Nat) (a : Int) (M : bz_M) : Option (Int × bz_M) := bz_cI (bz_Pg Lg true) d 128 [.inr (.inr 122), .inl a] M
noncomputable def eBr_see (Lg d : Nat)  (M : bz_M) : Option (Int × bz_M) := bz_cI (bz_Pg Lg true) d 129 [.inr (.inr 122)] M
noncomputable def eBr_ran (Lg d : Nat) (a : Int) (M : bz_M) : Option (Int × bz_M) := bz_cI (bz_Pg Lg true) d 130 [.inr (.inr 122), .inl a] M
noncomputable def eBr_tells (Lg d : Nat) (a : Int) (b : Int) (M : bz_M) : Option (Int × bz_M) := bz_cI (bz_Pg Lg true) d 131 [.inr (.inr 122), .inl a, .inl b] M
noncomputable def eBr_plant (Lg d : Nat) (a : Int) (b : Int) (M : bz_M) : Option (Int × bz_M) := bz_cI (bz_Pg Lg true) d 132 [.inr (.inr 122), .inl a, .inl b] M
noncomputable def eBr_offer (Lg d : Nat) (a : Int) (b : Int) (M : bz_M) : Option (Int × bz_M) := bz_cI (bz_Pg Lg true) d 133 [.inr (.inr 122), .inl a, .inl b] M
noncomputable def eBr_cut (Lg d : Nat) (a : Int) (M : bz_M) : Option (Int × bz_M) := bz_cI (bz_Pg Lg true) d 134 [.inr (.inr 122), .inl a] M
noncomputable def eBr_seasons (Lg d : Nat) (a : Int) (M : bz_M) : Option (Int × bz_M) := bz_cI (bz_Pg Lg true) d 135 [.inr (.inr 122), .inl a] M
noncomputable def eBr_seasons_42 (Lg d : Nat) (x1 : Int) (x2 : Int) (x3 : Int) (M : bz_M) : Option (Int × bz_M) := bz_X (bz_Pg Lg true) bz_kI d 135 42 [some (.inr (.inr 122)), some (.inl x1), some (.inl x2), some (.inl x3)] [] M
noncomputable def eBr_chance (Lg d : Nat) (a : Int) (M : bz_M) : Option (Int × bz_M) := bz_cI (bz_Pg Lg true) d 136 [.inr (.inr 122), .inl a] M
noncomputable def eBr_chance_42 (Lg d : Nat) (x1 : Int) (x2 : Int) (x3 : Int) (M : bz_M) : Option (Int × bz_M) := bz_X (bz_Pg Lg true) bz_kI d 136 42 [some (.inr (.inr 122)), some (.inl x1), some (.inl x2), some (.inl x3), none] [] M
noncomputable def eBr_undo (Lg d : Nat)  (M : bz_M) : Option (Int × bz_M) := bz_cI (bz_Pg Lg true) d 137 [.inr (.inr 122)] M
noncomputable def eBr_seed (Lg d : Nat) (a : Int) (M : bz_M) : Option (Int × bz_M) := bz_cI (bz_Pg Lg true) d 138 [.inr (.inr 122), .inl a] M
noncomputable def eBr_ask (Lg d : Nat)  (M : bz_M) : Option (Int × bz_M) := bz_cL (bz_Pg Lg true) d 139 [.inr (.inr 122)] M
noncomputable def eBr_image (Lg d : Nat)  (M : bz_M) : Option (Int × bz_M) := bz_cI (bz_Pg Lg true) d 140 [.inr (.inr 122)] M
noncomputable def eBr_octet (Lg d : Nat) (a : Int) (M : bz_M) : Option (Int × bz_M) := bz_cI (bz_Pg Lg true) d 141 [.inr (.inr 122), .inl a] M
noncomputable def eBr_on (Lg d : Nat)  (M : bz_M) : Option (Int × bz_M) := bz_cI (bz_Pg Lg true) d 142 [.inr (.inr 122)] M
noncomputable def eBr_status (Lg d : Nat) (a : Int) (M : bz_M) : Option (Int × bz_M) := bz_cI (bz_Pg Lg true) d 143 [.inr (.inr 122), .inl a] M
noncomputable def eBr_refusal (Lg d : Nat) (a : Int) (M : bz_M) : Option (Int × bz_M) := bz_cI (bz_Pg Lg true) d 144 [.inr (.inr 122), .inl a] M
noncomputable def eBr_refuses (Lg d : Nat) (a : Int) (M : bz_M) : Option (Int × bz_M) := bz_cI (bz_Pg Lg true) d 145 [.inr (.inr 122), .inl a] M
noncomputable def eBr_isValley (Lg d : Nat)  (M : bz_M) : Option (Int × bz_M) := bz_cI (bz_Pg Lg true) d 146 [.inr (.inr 122)] M
noncomputable def eBr_isColumn (Lg d : Nat) (a : Int) (M : bz_M) : Option (Int × bz_M) := bz_cI (bz_Pg Lg true) d 147 [.inr (.inr 122), .inl a] M
noncomputable def eBr_isCell (Lg d : Nat) (a : Int) (b : Int) (M : bz_M) : Option (Int × bz_M) := bz_cI (bz_Pg Lg true) d 148 [.inr (.inr 122), .inl a, .inl b] M
noncomputable def eBr_isLord (Lg d : Nat) (a : Int) (M : bz_M) : Option (Int × bz_M) := bz_cI (bz_Pg Lg true) d 149 [.inr (.inr 122), .inl a] M
noncomputable def eBr_comes (Lg d : Nat) (a : Int) (b : Int) (g : Int) (M : bz_M) : Option (Int × bz_M) := bz_cI (bz_Pg Lg true) d 150 [.inr (.inr 122), .inl a, .inl b, .inl g] M
noncomputable def eBr_toldAsKept (Lg d : Nat)  (M : bz_M) : Option (Int × bz_M) := bz_cI (bz_Pg Lg true) d 151 [.inr (.inr 122)] M
noncomputable def eBr_passAndKeep (Lg d : Nat)  (M : bz_M) : Option (Int × bz_M) := bz_cI (bz_Pg Lg true) d 152 [.inr (.inr 122)] M
noncomputable def eBr_draw (Lg d : Nat) (a : Int) (M : bz_M) : Option (Int × bz_M) := bz_cI (bz_Pg Lg true) d 153 [.inr (.inr 122), .inl a] M
noncomputable def eBr_total (Lg d : Nat) (a : Nat) (M : bz_M) : Option (Int × bz_M) := bz_cI (bz_Pg Lg true) d 154 [.inr (.inr a)] M
noncomputable def eBr_total_4 (Lg d : Nat) (a : Nat) (x1 : Int) (x2 : Int) (M : bz_M) : Option (Int × bz_M) := bz_X (bz_Pg Lg true) bz_kI d 154 4 [some (.inr (.inr a)), some (.inl x1), some (.inl x2)] [] M
noncomputable def eMo_isIn (Lg d : Nat) (a : Int) (b : Int) (g : Int) (M : bz_M) : Option (Int × bz_M) := bz_cI (bz_Pg Lg true) d 156 [.inr (.inl a), .inr (.inl b), .inr (.inl g)] M
noncomputable def eMo_feed (Lg d : Nat) (a : Int) (b : Int) (g : Int) (h : Int) (i : Int) (M : bz_M) : Option (Int × bz_M) := bz_cI (bz_Pg Lg true) d 157 [.inr (.inr 319), .inl a, .inl b, .inl g, .inl h, .inl i] M
noncomputable def eMo_feed_28 (Lg d : Nat) (x1 : Int) (x2 : Int) (x3 : Int) (x4 : Int) (x5 : Int) (x6 : Int) (M : bz_M) : Option (Int × bz_M) := bz_X (bz_Pg Lg true) bz_kI d 157 28 [some (.inr (.inr 319)), some (.inl x1), some (.inl x2), some (.inl x3), some (.inl x4), some (.inl x5), some (.inl x6), none] [] M
noncomputable def eMo_feed_81 (Lg d : Nat) (x1 : Int) (x2 : Int) (x3 : Int) (x4 : Int) (x5 : Int) (x6 : Int) (y0 : Int) (M : bz_M) : Option (Int × bz_M) := bz_X (bz_Pg Lg true) bz_kI d 157 81 [some (.inr (.inr 319)), some (.inl x1), some (.inl x2), some (.inl x3), some (.inl x4), some (.inl x5), some (.inl x6), none] [.inl y0] M
noncomputable def eMo_end (Lg d : Nat) (a : Int) (M : bz_M) : Option (Int × bz_M) := bz_cI (bz_Pg Lg true) d 158 [.inr (.inr 319), .inl a] M
noncomputable def eMo_fail (Lg d : Nat) (a : Int) (b : Int) (M : bz_M) : Option (bz_M) := bz_cV (bz_Pg Lg true) d 159 [.inr (.inr 319), .inl a, .inl b] M
noncomputable def eMo_isLetter (Lg d : Nat) (a : Int) (M : bz_M) : Option (Int × bz_M) := bz_cI (bz_Pg Lg true) d 160 [.inl a] M
noncomputable def eMo_isDigit (Lg d : Nat) (a : Int) (M : bz_M) : Option (Int × bz_M) := bz_cI (bz_Pg Lg true) d 161 [.inl a] M
noncomputable def eMo_look (Lg d : Nat)  (M : bz_M) : Option (Int × bz_M) := bz_cI (bz_Pg Lg true) d 162 [.inr (.inr 319)] M
noncomputable def eMo_look_0 (Lg d : Nat)  (M : bz_M) : Option (Int × bz_M) := bz_X (bz_Pg Lg true) bz_kI d 162 0 [some (.inr (.inr 319))] [] M
noncomputable def eMo_isHere (Lg d : Nat) (a : Nat) (M : bz_M) : Option (Int × bz_M) := bz_cI (bz_Pg Lg true) d 163 [.inr (.inr 319), .inr (.inr a)] M
noncomputable def eMo_isHere_35 (Lg d : Nat) (a : Nat) (x2 : Int) (M : bz_M) : Option (Int × bz_M) := bz_X (bz_Pg Lg true) bz_kI d 163 35 [some (.inr (.inr 319)), some (.inr (.inr a)), some (.inl x2), none] [] M
noncomputable def eMo_isHere_76 (Lg d : Nat) (a : Nat) (x3 : Int) (M : bz_M) : Option (Int × bz_M) := bz_X (bz_Pg Lg true) bz_kI d 163 76 [some (.inr (.inr 319)), some (.inr (.inr a)), none, some (.inl x3)] [] M
noncomputable def eMo_takes (Lg d : Nat) (a : Nat) (M : bz_M) : Option (Int × bz_M) := bz_cI (bz_Pg Lg true) d 164 [.inr (.inr 319), .inr (.inr a)] M
noncomputable def eMo_asks (Lg d : Nat) (a : Nat) (M : bz_M) : Option (bz_M) := bz_cV (bz_Pg Lg true) d 165 [.inr (.inr 319), .inr (.inr a)] M
noncomputable def eMo_takesSign (Lg d : Nat) (a : Int) (M : bz_M) : Option (Int × bz_M) := bz_cI (bz_Pg Lg true) d 166 [.inr (.inr 319), .inl a] M
noncomputable def eMo_asksSign (Lg d : Nat) (a : Int) (M : bz_M) : Option (bz_M) := bz_cV (bz_Pg Lg true) d 167 [.inr (.inr 319), .inl a] M
noncomputable def eMo_number (Lg d : Nat) (a : Int) (b : Int) (M : bz_M) : Option (Int × bz_M) := bz_cI (bz_Pg Lg true) d 168 [.inr (.inr 319), .inl a, .inl b] M
noncomputable def eMo_number_49 (Lg d : Nat) (x1 : Int) (x2 : Int) (x3 : Int) (x4 : Int) (M : bz_M) : Option (Int × bz_M) := bz_X (bz_Pg Lg true) bz_kI d 168 49 [some (.inr (.inr 319)), some (.inl x1), some (.inl x2), some (.inl x3), some (.inl x4)] [] M
noncomputable def eMo_isOwnHere (Lg d : Nat)  (M : bz_M) : Option (Int × bz_M) := bz_cI (bz_Pg Lg true) d 169 [.inr (.inr 319)] M
noncomputable def eMo_isOwnHere_71 (Lg d : Nat) (y0 : Int) (M : bz_M) : Option (Int × bz_M) := bz_X (bz_Pg Lg true) bz_kI d 169 71 [some (.inr (.inr 319)), none] [.inl y0] M
noncomputable def eMo_isOwnHere_147 (Lg d : Nat) (y0 : Int) (M : bz_M) : Option (Int × bz_M) := bz_X (bz_Pg Lg true) bz_kI d 169 147 [some (.inr (.inr 319)), none] [.inl y0] M
noncomputable def eMo_isOwnHere_223 (Lg d : Nat) (y0 : Int) (M : bz_M) : Option (Int × bz_M) := bz_X (bz_Pg Lg true) bz_kI d 169 223 [some (.inr (.inr 319)), none] [.inl y0] M
noncomputable def eMo_isOwnHere_299 (Lg d : Nat) (y0 : Int) (M : bz_M) : Option (Int × bz_M) := bz_X (bz_Pg Lg true) bz_kI d 169 299 [some (.inr (.inr 319)), none] [.inl y0] M
noncomputable def eMo_isOwnHere_375 (Lg d : Nat) (y0 : Int) (M : bz_M) : Option (Int × bz_M) := bz_X (bz_Pg Lg true) bz_kI d 169 375 [some (.inr (.inr 319)), none] [.inl y0] M
noncomputable def eMo_name (Lg d : Nat)  (M : bz_M) : Option (Int × bz_M) := bz_cL (bz_Pg Lg true) d 170 [.inr (.inr 319)] M
noncomputable def eMo_name_58 (Lg d : Nat) (x1 : Int) (M : bz_M) : Option (Int × bz_M) := bz_X (bz_Pg Lg true) bz_kL d 170 58 [some (.inr (.inr 319)), some (.inr (.inl x1)), none] [] M
noncomputable def eMo_isAllowed (Lg d : Nat) (a : Int) (M : bz_M) : Option (Int × bz_M) := bz_cI (bz_Pg Lg true) d 171 [.inr (.inr 319), .inl a] M
noncomputable def eMo_valleyTold (Lg d : Nat)  (M : bz_M) : Option (bz_M) := bz_cV (bz_Pg Lg true) d 172 [.inr (.inr 319)] M
noncomputable def eMo_columnTold (Lg d : Nat)  (M : bz_M) : Option (Int × bz_M) := bz_cI (bz_Pg Lg true) d 173 [.inr (.inr 319)] M
noncomputable def eMo_rowTold (Lg d : Nat)  (M : bz_M) : Option (Int × bz_M) := bz_cI (bz_Pg Lg true) d 174 [.inr (.inr 319)] M
noncomputable def eMo_runsTold (Lg d : Nat)  (M : bz_M) : Option (bz_M) := bz_cV (bz_Pg Lg true) d 175 [.inr (.inr 319)] M
noncomputable def eMo_soilTold (Lg d : Nat)  (M : bz_M) : Option (bz_M) := bz_cV (bz_Pg Lg true) d 176 [.inr (.inr 319)] M
noncomputable def eMo_willowTold (Lg d : Nat)  (M : bz_M) : Option (bz_M) := bz_cV (bz_Pg Lg true) d 177 [.inr (.inr 319)] M
noncomputable def eMo_willowTold_42 (Lg d : Nat) (x1 : Int) (x2 : Int) (M : bz_M) : Option (bz_M) := bz_X (bz_Pg Lg true) bz_kV d 177 42 [some (.inr (.inr 319)), some (.inl x1), some (.inl x2)] [] M
noncomputable def eMo_lordTold (Lg d : Nat) (a : Int) (M : bz_M) : Option (bz_M) := bz_cV (bz_Pg Lg true) d 178 [.inr (.inr 319), .inl a] M
noncomputable def eMo_lordTold_37 (Lg d : Nat) (x2 : Int) (x4 : Int) (M : bz_M) : Option (bz_M) := bz_X (bz_Pg Lg true) bz_kV d 178 37 [some (.inr (.inr 319)), none, some (.inr (.inl x2)), none, some (.inl x4), none, none, none, none, none] [] M
noncomputable def eMo_codesTold (Lg d : Nat) (a : Int) (b : Int) (M : bz_M) : Option (bz_M) := bz_cV (bz_Pg Lg true) d 179 [.inr (.inr 319), .inl a, .inl b] M
noncomputable def eMo_codesTold_23 (Lg d : Nat) (x1 : Int) (M : bz_M) : Option (bz_M) := bz_X (bz_Pg Lg true) bz_kV d 179 23 [some (.inr (.inr 319)), some (.inl x1), none, none] [] M
noncomputable def eMo_codesTold_92 (Lg d : Nat) (x1 : Int) (x3 : Int) (M : bz_M) : Option (bz_M) := bz_X (bz_Pg Lg true) bz_kV d 179 92 [some (.inr (.inr 319)), some (.inl x1), none, some (.inl x3)] [] M
noncomputable def eMo_statementTold (Lg d : Nat)  (M : bz_M) : Option (bz_M) := bz_cV (bz_Pg Lg true) d 180 [.inr (.inr 319)] M
noncomputable def eMo_statementTold_153 (Lg d : Nat)  (M : bz_M) : Option (bz_M) := bz_X (bz_Pg Lg true) bz_kV d 180 153 [some (.inr (.inr 319)), none] [] M
noncomputable def eMo_valley (Lg d : Nat)  (M : bz_M) : Option (Int × bz_M) := bz_cI (bz_Pg Lg true) d 181 [.inr (.inr 319)] M
noncomputable def eMo_valley_64 (Lg d : Nat) (x1 : Int) (M : bz_M) : Option (Int × bz_M) := bz_X (bz_Pg Lg true) bz_kI d 181 64 [some (.inr (.inr 319)), some (.inl x1)] [] M
noncomputable def eMo_valley_85 (Lg d : Nat) (x1 : Int) (M : bz_M) : Option (Int × bz_M) := bz_X (bz_Pg Lg true) bz_kI d 181 85 [some (.inr (.inr 319)), some (.inl x1)] [] M
noncomputable def eMo_valley_120 (Lg d : Nat)  (M : bz_M) : Option (Int × bz_M) := bz_X (bz_Pg Lg true) bz_kI d 181 120 [some (.inr (.inr 319)), none] [] M
noncomputable def eMo_valley_142 (Lg d : Nat)  (M : bz_M) : Option (Int × bz_M) := bz_X (bz_Pg Lg true) bz_kI d 181 142 [some (.inr (.inr 319)), none] [] M
noncomputable def eMo_stands (Lg d : Nat)  (M : bz_M) : Option (bz_M) := bz_cV (bz_Pg Lg true) d 182 [.inr (.inr 319)] M
noncomputable def eMo_stands_23 (Lg d : Nat) (x1 : Int) (M : bz_M) : Option (bz_M) := bz_X (bz_Pg Lg true) bz_kV d 182 23 [some (.inr (.inr 319)), some (.inl x1)] [] M
noncomputable def eMo_stands_50 (Lg d : Nat) (x1 : Int) (M : bz_M) : Option (bz_M) := bz_X (bz_Pg Lg true) bz_kV d 182 50 [some (.inr (.inr 319)), some (.inl x1)] [] M
noncomputable def eMo_stands_91 (Lg d : Nat) (x1 : Int) (M : bz_M) : Option (bz_M) := bz_X (bz_Pg Lg true) bz_kV d 182 91 [some (.inr (.inr 319)), some (.inl x1)] [] M
noncomputable def eMo_stands_118 (Lg d : Nat) (x1 : Int) (M : bz_M) : Option (bz_M) := bz_X (bz_Pg Lg true) bz_kV d 182 118 [some (.inr (.inr 319)), some (.inl x1)] [] M
noncomputable def eMo_stands_147 (Lg d : Nat) (x1 : Int) (M : bz_M) : Option (bz_M) := bz_X (bz_Pg Lg true) bz_kV d 182 147 [some (.inr (.inr 319)), some (.inl x1)] [] M
noncomputable def eMo_stands_179 (Lg d : Nat) (x1 : Int) (M : bz_M) : Option (bz_M) := bz_X (bz_Pg Lg true) bz_kV d 182 179 [some (.inr (.inr 319)), some (.inl x1)] [] M
noncomputable def eMo_stands_201 (Lg d : Nat) (x1 : Int) (M : bz_M) : Option (bz_M) := bz_X (bz_Pg Lg true) bz_kV d 182 201 [some (.inr (.inr 319)), some (.inl x1)] [] M
noncomputable def eMo_stands_229 (Lg d : Nat) (x1 : Int) (M : bz_M) : Option (bz_M) := bz_X (bz_Pg Lg true) bz_kV d 182 229 [some (.inr (.inr 319)), some (.inl x1)] [] M
noncomputable def eMo_stands_273 (Lg d : Nat) (x1 : Int) (M : bz_M) : Option (bz_M) := bz_X (bz_Pg Lg true) bz_kV d 182 273 [some (.inr (.inr 319)), some (.inl x1)] [] M
noncomputable def eMo_fault (Lg d : Nat) (a : Int) (M : bz_M) : Option (Int × bz_M) := bz_cI (bz_Pg Lg true) d 183 [.inr (.inr 319), .inl a] M
noncomputable def eMo_columnMany (Lg d : Nat)  (M : bz_M) : Option (Int × bz_M) := bz_cI (bz_Pg Lg true) d 184 [.inr (.inr 319)] M
noncomputable def eMo_rowsMany (Lg d : Nat)  (M : bz_M) : Option (Int × bz_M) := bz_cI (bz_Pg Lg true) d 185 [.inr (.inr 319)] M
noncomputable def eMo_lordMany (Lg d : Nat)  (M : bz_M) : Option (Int × bz_M) := bz_cI (bz_Pg Lg true) d 186 [.inr (.inr 319)] M
noncomputable def eMo_isColumn (Lg d : Nat) (a : Int) (M : bz_M) : Option (Int × bz_M) := bz_cI (bz_Pg Lg true) d 187 [.inr (.inr 319), .inr (.inl a)] M
noncomputable def eMo_isCell (Lg d : Nat) (a : Int) (b : Int) (M : bz_M) : Option (Int × bz_M) := bz_cI (bz_Pg Lg true) d 188 [.inr (.inr 319), .inl a, .inl b] M
noncomputable def eMo_isLord (Lg d : Nat) (a : Int) (M : bz_M) : Option (Int × bz_M) := bz_cI (bz_Pg Lg true) d 189 [.inr (.inr 319), .inl a] M
noncomputable def eMo_isInner (Lg d : Nat) (a : Int) (M : bz_M) : Option (Int × bz_M) := bz_cI (bz_Pg Lg true) d 190 [.inr (.inr 319), .inl a] M
noncomputable def eMo_rowOf (Lg d : Nat) (a : Int) (M : bz_M) : Option (Int × bz_M) := bz_cI (bz_Pg Lg true) d 191 [.inr (.inr 319), .inl a] M
noncomputable def eMo_beforeOf (Lg d : Nat) (a : Int) (M : bz_M) : Option (Int × bz_M) := bz_cI (bz_Pg Lg true) d 192 [.inr (.inr 319), .inl a] M
noncomputable def eMo_behindOf (Lg d : Nat) (a : Int) (M : bz_M) : Option (Int × bz_M) := bz_cI (bz_Pg Lg true) d 193 [.inr (.inr 319), .inl a] M
noncomputable def eMo_turnBy (Lg d : Nat) (a : Int) (b : Int) (g : Int) (h : Int) (M : bz_M) : Option (Int × bz_M) := bz_cI (bz_Pg Lg true) d 194 [.inr (.inr 319), .inl a, .inl b, .inl g, .inl h] M
noncomputable def eMo_turnOf (Lg d : Nat) (a : Int) (M : bz_M) : Option (Int × bz_M) := bz_cI (bz_Pg Lg true) d 195 [.inr (.inr 319), .inl a] M
noncomputable def eMo_willowsAt (Lg d : Nat) (a : Int) (M : bz_M) : Option (Int × bz_M) := bz_cI (bz_Pg Lg true) d 196 [.inr (.inr 319), .inl a] M
noncomputable def eMo_everAt (Lg d : Nat) (a : Int) (M : bz_M) : Option (Int × bz_M) := bz_cI (bz_Pg Lg true) d 197 [.inr (.inr 319), .inl a] M
noncomputable def eMo_doesOffer (Lg d : Nat) (a : Int) (M : bz_M) : Option (Int × bz_M) := bz_cI (bz_Pg Lg true) d 198 [.inr (.inr 319), .inl a] M
noncomputable def eMo_purseOf (Lg d : Nat) (a : Int) (M : bz_M) : Option (Int × bz_M) := bz_cI (bz_Pg Lg true) d 199 [.inr (.inr 319), .inl a] M
noncomputable def eMo_offerOf (Lg d : Nat) (a : Int) (M : bz_M) : Option (Int × bz_M) := bz_cI (bz_Pg Lg true) d 200 [.inr (.inr 319), .inl a] M
noncomputable def eMo_isOf (Lg d : Nat) (a : Int) (b : Int) (M : bz_M) : Option (Int × bz_M) := bz_cI (bz_Pg Lg true) d 201 [.inr (.inr 319), .inl a, .inl b] M
noncomputable def eMo_payOf (Lg d : Nat) (a : Int) (M : bz_M) : Option (Int × bz_M) := bz_cI (bz_Pg Lg true) d 202 [.inr (.inr 319), .inl a] M
noncomputable def eMo_payOf_4 (Lg d : Nat) (x1 : Int) (x2 : Int) (x3 : Int) (M : bz_M) : Option (Int × bz_M) := bz_X (bz_Pg Lg true) bz_kI d 202 4 [some (.inr (.inr 319)), some (.inl x1), some (.inl x2), some (.inl x3)] [] M
noncomputable def eMo_codesTell (Lg d : Nat) (a : Int) (M : bz_M) : Option (Int × bz_M) := bz_cL (bz_Pg Lg true) d 203 [.inr (.inr 319), .inl a] M
noncomputable def eMo_codesTell_19 (Lg d : Nat) (x1 : Int) (x2 : Int) (M : bz_M) : Option (Int × bz_M) := bz_X (bz_Pg Lg true) bz_kL d 203 19 [some (.inr (.inr 319)), some (.inl x1), some (.inl x2), none] [] M
noncomputable def eMo_eatsOf (Lg d : Nat) (a : Int) (b : Int) (M : bz_M) : Option (Int × bz_M) := bz_cL (bz_Pg Lg true) d 204 [.inr (.inr 319), .inl a, .inl b] M
noncomputable def eMo_isBendBy (Lg d : Nat) (a : Int) (b : Int) (g : Int) (h : Int) (M : bz_M) : Option (Int × bz_M) := bz_cI (bz_Pg Lg true) d 205 [.inr (.inr 319), .inl a, .inl b, .inl g, .inl h] M
noncomputable def eMo_isBend (Lg d : Nat) (a : Int) (M : bz_M) : Option (Int × bz_M) := bz_cI (bz_Pg Lg true) d 206 [.inr (.inr 319), .inl a] M
noncomputable def eMo_bendsOf (Lg d : Nat) (a : Int) (M : bz_M) : Option (Int × bz_M) := bz_cI (bz_Pg Lg true) d 207 [.inr (.inr 319), .inl a] M
noncomputable def eMo_bendsOf_14 (Lg d : Nat) (x1 : Int) (x2 : Int) (x3 : Int) (M : bz_M) : Option (Int × bz_M) := bz_X (bz_Pg Lg true) bz_kI d 207 14 [some (.inr (.inr 319)), some (.inl x1), some (.inl x2), some (.inl x3)] [] M
noncomputable def eMo_bendMany (Lg d : Nat)  (M : bz_M) : Option (Int × bz_M) := bz_cI (bz_Pg Lg true) d 208 [.inr (.inr 319)] M
noncomputable def eMo_bendMany_4 (Lg d : Nat) (x1 : Int) (x2 : Int) (M : bz_M) : Option (Int × bz_M) := bz_X (bz_Pg Lg true) bz_kI d 208 4 [some (.inr (.inr 319)), some (.inl x1), some (.inl x2)] [] M
noncomputable def eMo_isKept (Lg d : Nat) (a : Int) (b : Int) (M : bz_M) : Option (bz_M) := bz_cV (bz_Pg Lg true) d 209 [.inr (.inr 319), .inl a, .inl b] M
noncomputable def eMo_isKept_25 (Lg d : Nat) (x1 : Int) (x2 : Int) (x3 : Int) (M : bz_M) : Option (bz_M) := bz_X (bz_Pg Lg true) bz_kV d 209 25 [some (.inr (.inr 319)), some (.inl x1), some (.inl x2), some (.inl x3)] [] M
noncomputable def eMo_isNear (Lg d : Nat) (a : Int) (b : Int) (M : bz_M) : Option (Int × bz_M) := bz_cI (bz_Pg Lg true) d 210 [.inr (.inr 319), .inl a, .inl b] M
noncomputable def eMo_isNear_44 (Lg d : Nat) (x1 : Int) (x4 : Int) (M : bz_M) : Option (Int × bz_M) := bz_X (bz_Pg Lg true) bz_kI d 210 44 [some (.inr (.inr 319)), some (.inl x1), none, none, some (.inl x4)] [] M
noncomputable def eMo_columnMoves (Lg d : Nat) (a : Int) (M : bz_M) : Option (bz_M) := bz_cV (bz_Pg Lg true) d 211 [.inr (.inr 319), .inl a] M
noncomputable def eMo_columnMoves_13 (Lg d : Nat) (x1 : Int) (x2 : Int) (x3 : Int) (x5 : Int) (M : bz_M) : Option (bz_M) := bz_X (bz_Pg Lg true) bz_kV d 211 13 [some (.inr (.inr 319)), some (.inl x1), some (.inl x2), some (.inr (.inl x3)), none, some (.inl x5), none, none] [] M
noncomputable def eMo_bendPaid (Lg d : Nat) (a : Int) (M : bz_M) : Option (Int × bz_M) := bz_cI (bz_Pg Lg true) d 212 [.inr (.inr 319), .inl a] M
noncomputable def eMo_bendPaid_4 (Lg d : Nat) (x1 : Int) (x2 : Int) (x3 : Int) (M : bz_M) : Option (Int × bz_M) := bz_X (bz_Pg Lg true) bz_kI d 212 4 [some (.inr (.inr 319)), some (.inl x1), some (.inl x2), some (.inl x3), none] [] M
noncomputable def eMo_seasonGoes (Lg d : Nat)  (M : bz_M) : Option (bz_M) := bz_cV (bz_Pg Lg true) d 213 [.inr (.inr 319)] M
noncomputable def eMo_seasonGoes_2 (Lg d : Nat) (x1 : Int) (M : bz_M) : Option (bz_M) := bz_X (bz_Pg Lg true) bz_kV d 213 2 [some (.inr (.inr 319)), some (.inl x1), none, none] [] M
noncomputable def eMo_seasonGoes_23 (Lg d : Nat) (x1 : Int) (M : bz_M) : Option (bz_M) := bz_X (bz_Pg Lg true) bz_kV d 213 23 [some (.inr (.inr 319)), some (.inl x1), none, none] [] M
noncomputable def eMo_seasonGoes_78 (Lg d : Nat) (x1 : Int) (x2 : Int) (x3 : Int) (M : bz_M) : Option (bz_M) := bz_X (bz_Pg Lg true) bz_kV d 213 78 [some (.inr (.inr 319)), some (.inl x1), some (.inl x2), some (.inl x3)] [] M
noncomputable def eMo_seasonsGo (Lg d : Nat) (a : Int) (M : bz_M) : Option (bz_M) := bz_cV (bz_Pg Lg true) d 214 [.inr (.inr 319), .inl a] M
noncomputable def eMo_seasonsGo_2 (Lg d : Nat) (x1 : Int) (x2 : Int) (M : bz_M) : Option (bz_M) := bz_X (bz_Pg Lg true) bz_kV d 214 2 [some (.inr (.inr 319)), some (.inl x1), some (.inl x2)] [] M
noncomputable def eMo_putsAside (Lg d : Nat)  (M : bz_M) : Option (bz_M) := bz_cV (bz_Pg Lg true) d 215 [.inr (.inr 319)] M
noncomputable def eMo_putsAside_7 (Lg d : Nat) (x1 : Int) (M : bz_M) : Option (bz_M) := bz_X (bz_Pg Lg true) bz_kV d 215 7 [some (.inr (.inr 319)), some (.inl x1)] [] M
noncomputable def eMo_triesAnew (Lg d : Nat)  (M : bz_M) : Option (bz_M) := bz_cV (bz_Pg Lg true) d 216 [.inr (.inr 319)] M
noncomputable def eMo_triesAnew_2 (Lg d : Nat) (x1 : Int) (M : bz_M) : Option (bz_M) := bz_X (bz_Pg Lg true) bz_kV d 216 2 [some (.inr (.inr 319)), some (.inl x1)] [] M
noncomputable def eMo_takesBack (Lg d : Nat)  (M : bz_M) : Option (bz_M) := bz_cV (bz_Pg Lg true) d 217 [.inr (.inr 319)] M
noncomputable def eMo_isAhead (Lg d : Nat) (a : Int) (b : Int) (g : Int) (M : bz_M) : Option (Int × bz_M) := bz_cI (bz_Pg Lg true) d 218 [.inr (.inr 319), .inl a, .inl b, .inl g] M
noncomputable def eMo_bits (Lg d : Nat) (a : Int) (M : bz_M) : Option (Int × bz_M) := bz_cI (bz_Pg Lg true) d 219 [.inl a] M
noncomputable def eMo_bits_4 (Lg d : Nat) (x1 : Int) (x2 : Int) (M : bz_M) : Option (Int × bz_M) := bz_X (bz_Pg Lg true) bz_kI d 219 4 [none, some (.inl x1), some (.inl x2)] [] M
noncomputable def eMo_willowAll (Lg d : Nat)  (M : bz_M) : Option (Int × bz_M) := bz_cI (bz_Pg Lg true) d 220 [.inr (.inr 319)] M
noncomputable def eMo_willowAll_4 (Lg d : Nat) (x1 : Int) (x2 : Int) (M : bz_M) : Option (Int × bz_M) := bz_X (bz_Pg Lg true) bz_kI d 220 4 [some (.inr (.inr 319)), some (.inl x1), some (.inl x2)] [] M
noncomputable def eMo_offerMany (Lg d : Nat)  (M : bz_M) : Option (Int × bz_M) := bz_cI (bz_Pg Lg true) d 221 [.inr (.inr 319)] M
noncomputable def eMo_offerMany_4 (Lg d : Nat) (x1 : Int) (x2 : Int) (M : bz_M) : Option (Int × bz_M) := bz_X (bz_Pg Lg true) bz_kI d 221 4 [some (.inr (.inr 319)), some (.inl x1), some (.inl x2)] [] M
noncomputable def eMo_purseAll (Lg d : Nat)  (M : bz_M) : Option (Int × bz_M) := bz_cI (bz_Pg Lg true) d 222 [.inr (.inr 319)] M
noncomputable def eMo_purseAll_4 (Lg d : Nat) (x1 : Int) (x2 : Int) (M : bz_M) : Option (Int × bz_M) := bz_X (bz_Pg Lg true) bz_kI d 222 4 [some (.inr (.inr 319)), some (.inl x1), some (.inl x2)] [] M
noncomputable def eMo_has (Lg d : Nat) (a : Int) (M : bz_M) : Option (Int × bz_M) := bz_cI (bz_Pg Lg true) d 223 [.inr (.inr 319), .inl a] M
noncomputable def eMo_letter (Lg d : Nat) (a : Int) (b : Int) (M : bz_M) : Option (Int × bz_M) := bz_cI (bz_Pg Lg true) d 224 [.inr (.inr 319), .inl a, .inl b] M
noncomputable def eMo_letter_37 (Lg d : Nat) (x2 : Int) (x3 : Int) (x5 : Int) (x6 : Int) (M : bz_M) : Option (Int × bz_M) := bz_X (bz_Pg Lg true) bz_kI d 224 37 [none, none, some (.inl x2), some (.inr (.inl x3)), none, some (.inl x5), some (.inr (.inl x6)), none] [] M
noncomputable def eMo_letter_72 (Lg d : Nat) (x2 : Int) (x3 : Int) (x6 : Int) (M : bz_M) : Option (Int × bz_M) := bz_X (bz_Pg Lg true) bz_kI d 224 72 [none, none, some (.inl x2), some (.inr (.inl x3)), none, none, some (.inl x6), none] [] M
noncomputable def eMo_column (Lg d : Nat) (a : Int) (b : Int) (M : bz_M) : Option (Int × bz_M) := bz_cI (bz_Pg Lg true) d 225 [.inr (.inr 319), .inl a, .inl b] M
noncomputable def eMo_cell (Lg d : Nat) (a : Int) (b : Int) (g : Int) (M : bz_M) : Option (Int × bz_M) := bz_cI (bz_Pg Lg true) d 226 [.inr (.inr 319), .inl a, .inl b, .inl g] M
noncomputable def eMo_eats (Lg d : Nat) (a : Int) (b : Int) (M : bz_M) : Option (Int × bz_M) := bz_cL (bz_Pg Lg true) d 227 [.inr (.inr 319), .inl a, .inl b] M
noncomputable def eMo_lord (Lg d : Nat) (a : Int) (b : Int) (M : bz_M) : Option (Int × bz_M) := bz_cI (bz_Pg Lg true) d 228 [.inr (.inr 319), .inl a, .inl b] M
noncomputable def eMo_kept (Lg d : Nat) (a : Int) (b : Int) (M : bz_M) : Option (Int × bz_M) := bz_cI (bz_Pg Lg true) d 229 [.inr (.inr 319), .inl a, .inl b] M
noncomputable def eMo_later (Lg d : Nat) (a : Int) (b : Int) (M : bz_M) : Option (Int × bz_M) := bz_cI (bz_Pg Lg true) d 230 [.inr (.inr 319), .inl a, .inl b] M
noncomputable def eMo_sums (Lg d : Nat) (a : Int) (b : Int) (M : bz_M) : Option (Int × bz_M) := bz_cI (bz_Pg Lg true) d 231 [.inr (.inr 319), .inl a, .inl b] M
noncomputable def eMo_straight (Lg d : Nat)  (M : bz_M) : Option (Int × bz_M) := bz_cI (bz_Pg Lg true) d 232 [.inr (.inr 319)] M
noncomputable def eMo_straight_15 (Lg d : Nat) (x1 : Int) (M : bz_M) : Option (Int × bz_M) := bz_X (bz_Pg Lg true) bz_kI d 232 15 [some (.inr (.inr 319)), some (.inl x1), none] [] M
noncomputable def eMo_straight_50 (Lg d : Nat) (x1 : Int) (M : bz_M) : Option (Int × bz_M) := bz_X (bz_Pg Lg true) bz_kI d 232 50 [some (.inr (.inr 319)), some (.inl x1), none] [] M
noncomputable def eMo_canSet (Lg d : Nat) (a : Int) (M : bz_M) : Option (Int × bz_M) := bz_cI (bz_Pg Lg true) d 233 [.inr (.inr 319), .inl a] M
noncomputable def eMo_doesRun (Lg d : Nat) (a : Int) (b : Int) (g : Int) (M : bz_M) : Option (Int × bz_M) := bz_cI (bz_Pg Lg true) d 234 [.inr (.inr 319), .inl a, .inl b, .inl g] M
noncomputable def eMo_isWorkOne (Lg d : Nat) (a : Int) (b : Int) (g : Int) (M : bz_M) : Option (Int × bz_M) := bz_cI (bz_Pg Lg true) d 235 [.inr (.inr 319), .inl a, .inl b, .inl g] M
noncomputable def eMo_isWorkOne_3 (Lg d : Nat) (x1 : Int) (x2 : Int) (x3 : Int) (x4 : Int) (M : bz_M) : Option (Int × bz_M) := bz_X (bz_Pg Lg true) bz_kI d 235 3 [some (.inr (.inr 319)), some (.inl x1), some (.inl x2), some (.inl x3), some (.inl x4)] [] M
noncomputable def eMo_isWorkTwo (Lg d : Nat) (a : Int) (b : Int) (g : Int) (M : bz_M) : Option (Int × bz_M) := bz_cI (bz_Pg Lg true) d 236 [.inr (.inr 319), .inl a, .inl b, .inl g] M
noncomputable def eMo_isWorkTwo_3 (Lg d : Nat) (x1 : Int) (x2 : Int) (x3 : Int) (x4 : Int) (M : bz_M) : Option (Int × bz_M) := bz_X (bz_Pg Lg true) bz_kI d 236 3 [some (.inr (.inr 319)), some (.inl x1), some (.inl x2), some (.inl x3), some (.inl x4), none, none] [] M
noncomputable def eMo_isWorkTwo_14 (Lg d : Nat) (x1 : Int) (x2 : Int) (x3 : Int) (x4 : Int) (x5 : Int) (M : bz_M) : Option (Int × bz_M) := bz_X (bz_Pg Lg true) bz_kI d 236 14 [some (.inr (.inr 319)), some (.inl x1), some (.inl x2), some (.inl x3), some (.inl x4), some (.inl x5), none] [] M
noncomputable def eMo_isWorkTwo_81 (Lg d : Nat) (x1 : Int) (x2 : Int) (x3 : Int) (x4 : Int) (x5 : Int) (y0 : Int) (M : bz_M) : Option (Int × bz_M) := bz_X (bz_Pg Lg true) bz_kI d 236 81 [some (.inr (.inr 319)), some (.inl x1), some (.inl x2), some (.inl x3), some (.inl x4), some (.inl x5), none] [.inl y0] M
noncomputable def eMo_works (Lg d : Nat) (a : Int) (b : Int) (g : Int) (h : Int) (M : bz_M) : Option (Int × bz_M) := bz_cI (bz_Pg Lg true) d 237 [.inr (.inr 319), .inl a, .inl b, .inl g, .inl h] M
noncomputable def eMo_works_82 (Lg d : Nat) (x4 : Int) (y0 : Int) (M : bz_M) : Option (Int × bz_M) := bz_X (bz_Pg Lg true) bz_kI d 237 82 [some (.inr (.inr 319)), none, none, none, some (.inl x4), none] [.inl y0] M
noncomputable def eMo_laysHavings (Lg d : Nat) (a : Int) (M : bz_M) : Option (bz_M) := bz_cV (bz_Pg Lg true) d 238 [.inr (.inr 319), .inl a] M
noncomputable def eMo_laysHavings_6 (Lg d : Nat) (x1 : Int) (x2 : Int) (M : bz_M) : Option (bz_M) := bz_X (bz_Pg Lg true) bz_kV d 238 6 [some (.inr (.inr 319)), some (.inl x1), some (.inl x2), none] [] M
noncomputable def eMo_laysHavings_18 (Lg d : Nat) (x1 : Int) (x2 : Int) (x3 : Int) (M : bz_M) : Option (bz_M) := bz_X (bz_Pg Lg true) bz_kV d 238 18 [some (.inr (.inr 319)), some (.inl x1), some (.inl x2), some (.inl x3)] [] M
noncomputable def eMo_laysHavings_63 (Lg d : Nat) (x1 : Int) (x2 : Int) (x3 : Int) (M : bz_M) : Option (bz_M) := bz_X (bz_Pg Lg true) bz_kV d 238 63 [some (.inr (.inr 319)), some (.inl x1), some (.inl x2), some (.inl x3)] [] M
noncomputable def eMo_isRest (Lg d : Nat) (a : Int) (M : bz_M) : Option (Int × bz_M) := bz_cI (bz_Pg Lg true) d 239 [.inr (.inr 319), .inl a] M
noncomputable def eMo_isRest_2 (Lg d : Nat) (x1 : Int) (x2 : Int) (M : bz_M) : Option (Int × bz_M) := bz_X (bz_Pg Lg true) bz_kI d 239 2 [some (.inr (.inr 319)), some (.inl x1), some (.inl x2)] [] M
noncomputable def eMo_rest (Lg d : Nat) (a : Int) (M : bz_M) : Option (Int × bz_M) := bz_cI (bz_Pg Lg true) d 240 [.inr (.inr 319), .inl a] M
noncomputable def eMo_rest_22 (Lg d : Nat) (x2 : Int) (x3 : Int) (M : bz_M) : Option (Int × bz_M) := bz_X (bz_Pg Lg true) bz_kI d 240 22 [some (.inr (.inr 319)), none, some (.inl x2), some (.inl x3)] [] M
noncomputable def eMo_barge (Lg d : Nat)  (M : bz_M) : Option (Int × bz_M) := bz_cI (bz_Pg Lg true) d 241 [.inr (.inr 319)] M
noncomputable def eMo_barge_16 (Lg d : Nat) (x1 : Int) (x2 : Int) (M : bz_M) : Option (Int × bz_M) := bz_X (bz_Pg Lg true) bz_kI d 241 16 [some (.inr (.inr 319)), some (.inl x1), some (.inl x2)] [] M
noncomputable def eMo_halfOf (Lg d : Nat) (a : Int) (M : bz_M) : Option (Int × bz_M) := bz_cI (bz_Pg Lg true) d 242 [.inr (.inr 319), .inl a] M
noncomputable def eMo_cuts (Lg d : Nat)  (M : bz_M) : Option (Int × bz_M) := bz_cI (bz_Pg Lg true) d 243 [.inr (.inr 319)] M
noncomputable def eMo_cuts_18 (Lg d : Nat) (x1 : Int) (x2 : Int) (x3 : Int) (M : bz_M) : Option (Int × bz_M) := bz_X (bz_Pg Lg true) bz_kI d 243 18 [some (.inr (.inr 319)), some (.inl x1), some (.inl x2), some (.inl x3), none, none] [] M
noncomputable def eMo_isReach (Lg d : Nat) (a : Int) (b : Int) (M : bz_M) : Option (Int × bz_M) := bz_cI (bz_Pg Lg true) d 244 [.inr (.inr 319), .inl a, .inl b] M
noncomputable def eMo_dreamsOf (Lg d : Nat) (a : Int) (b : Int) (g : Int) (M : bz_M) : Option (bz_M) := bz_cV (bz_Pg Lg true) d 245 [.inr (.inr 319), .inl a, .inl b, .inl g] M
noncomputable def eMo_dreamsOf_66 (Lg d : Nat) (x1 : Int) (x2 : Int) (x3 : Int) (x4 : Int) (x5 : Int) (x6 : Int) (M : bz_M) : Option (bz_M) := bz_X (bz_Pg Lg true) bz_kV d 245 66 [some (.inr (.inr 319)), some (.inl x1), some (.inl x2), some (.inl x3), some (.inl x4), some (.inl x5), some (.inl x6), none] [] M
noncomputable def eMo_dreamsOf_106 (Lg d : Nat) (x1 : Int) (x2 : Int) (x3 : Int) (x4 : Int) (x5 : Int) (x6 : Int) (y0 : Int) (M : bz_M) : Option (bz_M) := bz_X (bz_Pg Lg true) bz_kV d 245 106 [some (.inr (.inr 319)), some (.inl x1), some (.inl x2), some (.inl x3), some (.inl x4), some (.inl x5), some (.inl x6), none] [.inl y0] M
noncomputable def eMo_dreamPays (Lg d : Nat)  (M : bz_M) : Option (Int × bz_M) := bz_cI (bz_Pg Lg true) d 246 [.inr (.inr 319)] M
noncomputable def eMo_dreamPays_7 (Lg d : Nat) (x1 : Int) (M : bz_M) : Option (Int × bz_M) := bz_X (bz_Pg Lg true) bz_kI d 246 7 [some (.inr (.inr 319)), some (.inl x1), none, none, none, none] [] M
noncomputable def eMo_dreamPays_13 (Lg d : Nat) (x1 : Int) (x2 : Int) (M : bz_M) : Option (Int × bz_M) := bz_X (bz_Pg Lg true) bz_kI d 246 13 [some (.inr (.inr 319)), some (.inl x1), some (.inl x2), none, none, none] [] M
noncomputable def eMo_dreamPays_60 (Lg d : Nat) (x1 : Int) (x2 : Int) (M : bz_M) : Option (Int × bz_M) := bz_X (bz_Pg Lg true) bz_kI d 246 60 [some (.inr (.inr 319)), some (.inl x1), some (.inl x2), none, none, none] [] M
noncomputable def eMo_dreamPays_23 (Lg d : Nat) (x1 : Int) (x2 : Int) (x3 : Int) (M : bz_M) : Option (Int × bz_M) := bz_X (bz_Pg Lg true) bz_kI d 246 23 [some (.inr (.inr 319)), some (.inl x1), some (.inl x2), some (.inl x3), none, none] [] M
noncomputable def eMo_dreamPays_116 (Lg d : Nat) (x1 : Int) (x2 : Int) (x3 : Int) (x4 : Int) (M : bz_M) : Option (Int × bz_M) := bz_X (bz_Pg Lg true) bz_kI d 246 116 [some (.inr (.inr 319)), some (.inl x1), some (.inl x2), some (.inl x3), some (.inl x4), none] [] M
noncomputable def eMo_dream (Lg d : Nat) (a : Int) (M : bz_M) : Option (Int × bz_M) := bz_cI (bz_Pg Lg true) d 247 [.inr (.inr 319), .inl a] M
noncomputable def eMo_refuses (Lg d : Nat) (a : Int) (M : bz_M) : Option (Int × bz_M) := bz_cI (bz_Pg Lg true) d 248 [.inr (.inr 319), .inl a] M
noncomputable def eMo_see (Lg d : Nat)  (M : bz_M) : Option (Int × bz_M) := bz_cI (bz_Pg Lg true) d 249 [.inr (.inr 319)] M
noncomputable def eMo_see_43 (Lg d : Nat) (x1 : Int) (x2 : Int) (x3 : Int) (M : bz_M) : Option (Int × bz_M) := bz_X (bz_Pg Lg true) bz_kI d 249 43 [some (.inr (.inr 319)), some (.inl x1), some (.inl x2), some (.inl x3)] [] M
noncomputable def eMo_see_110 (Lg d : Nat) (x1 : Int) (x3 : Int) (M : bz_M) : Option (Int × bz_M) := bz_X (bz_Pg Lg true) bz_kI d 249 110 [some (.inr (.inr 319)), some (.inl x1), none, some (.inl x3)] [] M
noncomputable def eMo_isAsSeen (Lg d : Nat) (a : Int) (M : bz_M) : Option (Int × bz_M) := bz_cI (bz_Pg Lg true) d 250 [.inr (.inr 319), .inl a] M
noncomputable def eMo_isAsSeen_2 (Lg d : Nat) (x1 : Int) (x2 : Int) (M : bz_M) : Option (Int × bz_M) := bz_X (bz_Pg Lg true) bz_kI d 250 2 [some (.inr (.inr 319)), some (.inl x1), some (.inl x2)] [] M
noncomputable def eMo_laysFits (Lg d : Nat) (a : Int) (M : bz_M) : Option (bz_M) := bz_cV (bz_Pg Lg true) d 251 [.inr (.inr 319), .inl a] M
noncomputable def eMo_laysFits_11 (Lg d : Nat) (x1 : Int) (x2 : Int) (M : bz_M) : Option (bz_M) := bz_X (bz_Pg Lg true) bz_kV d 251 11 [some (.inr (.inr 319)), some (.inl x1), some (.inl x2), none, none] [] M
noncomputable def eMo_laysFits_33 (Lg d : Nat) (x1 : Int) (x2 : Int) (x3 : Int) (x4 : Int) (M : bz_M) : Option (bz_M) := bz_X (bz_Pg Lg true) bz_kV d 251 33 [some (.inr (.inr 319)), some (.inl x1), some (.inl x2), some (.inl x3), some (.inl x4)] [] M
noncomputable def eMo_laysFits_58 (Lg d : Nat) (x1 : Int) (x2 : Int) (x4 : Int) (y0 : Int) (M : bz_M) : Option (bz_M) := bz_X (bz_Pg Lg true) bz_kV d 251 58 [some (.inr (.inr 319)), some (.inl x1), some (.inl x2), none, some (.inl x4)] [.inl y0] M
noncomputable def eMo_ran (Lg d : Nat) (a : Int) (M : bz_M) : Option (Int × bz_M) := bz_cI (bz_Pg Lg true) d 252 [.inr (.inr 319), .inl a] M
noncomputable def eMo_ran_20 (Lg d : Nat) (x2 : Int) (x3 : Int) (M : bz_M) : Option (Int × bz_M) := bz_X (bz_Pg Lg true) bz_kI d 252 20 [some (.inr (.inr 319)), none, some (.inl x2), some (.inl x3)] [] M
noncomputable def eMo_mostAlike (Lg d : Nat) (a : Int) (M : bz_M) : Option (Int × bz_M) := bz_cI (bz_Pg Lg true) d 253 [.inr (.inr 319), .inl a] M
noncomputable def eMo_mostAlike_4 (Lg d : Nat) (x1 : Int) (x2 : Int) (x3 : Int) (M : bz_M) : Option (Int × bz_M) := bz_X (bz_Pg Lg true) bz_kI d 253 4 [some (.inr (.inr 319)), some (.inl x1), some (.inl x2), some (.inl x3), none, none] [] M
noncomputable def eMo_mostAlike_30 (Lg d : Nat) (x1 : Int) (x2 : Int) (x3 : Int) (x4 : Int) (x5 : Int) (M : bz_M) : Option (Int × bz_M) := bz_X (bz_Pg Lg true) bz_kI d 253 30 [some (.inr (.inr 319)), some (.inl x1), some (.inl x2), some (.inl x3), some (.inl x4), some (.inl x5)] [] M
noncomputable def eMo_tells (Lg d : Nat) (a : Int) (b : Int) (M : bz_M) : Option (Int × bz_M) := bz_cI (bz_Pg Lg true) d 254 [.inr (.inr 319), .inl a, .inl b] M
noncomputable def eMo_tells_34 (Lg d : Nat) (x2 : Int) (x3 : Int) (x4 : Int) (x5 : Int) (M : bz_M) : Option (Int × bz_M) := bz_X (bz_Pg Lg true) bz_kI d 254 34 [some (.inr (.inr 319)), none, some (.inl x2), some (.inl x3), some (.inl x4), some (.inl x5), none] [] M
noncomputable def eMo_keeps (Lg d : Nat)  (M : bz_M) : Option (bz_M) := bz_cV (bz_Pg Lg true) d 255 [.inr (.inr 319)] M
noncomputable def eMo_keeps_15 (Lg d : Nat) (x1 : Int) (M : bz_M) : Option (bz_M) := bz_X (bz_Pg Lg true) bz_kV d 255 15 [some (.inr (.inr 319)), some (.inl x1)] [] M
noncomputable def eMo_undo (Lg d : Nat)  (M : bz_M) : Option (Int × bz_M) := bz_cI (bz_Pg Lg true) d 256 [.inr (.inr 319)] M
noncomputable def eMo_undo_21 (Lg d : Nat) (x1 : Int) (M : bz_M) : Option (Int × bz_M) := bz_X (bz_Pg Lg true) bz_kI d 256 21 [some (.inr (.inr 319)), some (.inl x1)] [] M
noncomputable def eMo_isRefused (Lg d : Nat)  (M : bz_M) : Option (Int × bz_M) := bz_cI (bz_Pg Lg true) d 257 [.inr (.inr 319)] M
noncomputable def eMo_plant (Lg d : Nat) (a : Int) (b : Int) (M : bz_M) : Option (Int × bz_M) := bz_cI (bz_Pg Lg true) d 258 [.inr (.inr 319), .inl a, .inl b] M
noncomputable def eMo_offer (Lg d : Nat) (a : Int) (b : Int) (M : bz_M) : Option (Int × bz_M) := bz_cI (bz_Pg Lg true) d 259 [.inr (.inr 319), .inl a, .inl b] M
noncomputable def eMo_cut (Lg d : Nat) (a : Int) (M : bz_M) : Option (Int × bz_M) := bz_cI (bz_Pg Lg true) d 260 [.inr (.inr 319), .inl a] M
noncomputable def eMo_seasons (Lg d : Nat) (a : Int) (M : bz_M) : Option (Int × bz_M) := bz_cI (bz_Pg Lg true) d 261 [.inr (.inr 319), .inl a] M
noncomputable def eMo_seed (Lg d : Nat) (a : Int) (M : bz_M) : Option (Int × bz_M) := bz_cI (bz_Pg Lg true) d 262 [.inr (.inr 319), .inl a] M
noncomputable def eMo_drawOf (Lg d : Nat) (a : Int) (M : bz_M) : Option (Int × bz_M) := bz_cI (bz_Pg Lg true) d 263 [.inr (.inr 319), .inl a] M
noncomputable def eMo_chance (Lg d : Nat) (a : Int) (M : bz_M) : Option (Int × bz_M) := bz_cI (bz_Pg Lg true) d 264 [.inr (.inr 319), .inl a] M
noncomputable def eMo_chance_25 (Lg d : Nat) (x1 : Int) (x2 : Int) (x3 : Int) (M : bz_M) : Option (Int × bz_M) := bz_X (bz_Pg Lg true) bz_kI d 264 25 [some (.inr (.inr 319)), some (.inl x1), some (.inl x2), some (.inl x3), none, none] [] M
noncomputable def eMo_chance_72 (Lg d : Nat) (x1 : Int) (x2 : Int) (x3 : Int) (x4 : Int) (y0 : Int) (y1 : Int) (M : bz_M) : Option (Int × bz_M) := bz_X (bz_Pg Lg true) bz_kI d 264 72 [some (.inr (.inr 319)), some (.inl x1), some (.inl x2), some (.inl x3), some (.inl x4), none] [.inl y1, .inl y0] M
noncomputable def eMo_qCode (Lg d : Nat) (a : Int) (M : bz_M) : Option (bz_M) := bz_cV (bz_Pg Lg true) d 265 [.inr (.inr 319), .inl a] M
noncomputable def eMo_qOpens (Lg d : Nat) (a : Int) (b : Int) (M : bz_M) : Option (bz_M) := bz_cV (bz_Pg Lg true) d 266 [.inr (.inr 319), .inl a, .inl b] M
noncomputable def eMo_qIsOn (Lg d : Nat) (a : Int) (M : bz_M) : Option (Int × bz_M) := bz_cI (bz_Pg Lg true) d 267 [.inr (.inr 319), .inl a] M
noncomputable def eMo_qDrops (Lg d : Nat)  (M : bz_M) : Option (bz_M) := bz_cV (bz_Pg Lg true) d 268 [.inr (.inr 319)] M
noncomputable def eMo_qIsBracket (Lg d : Nat) (a : Int) (M : bz_M) : Option (Int × bz_M) := bz_cI (bz_Pg Lg true) d 269 [.inl a] M
noncomputable def eMo_qBracket (Lg d : Nat)  (M : bz_M) : Option (Int × bz_M) := bz_cI (bz_Pg Lg true) d 270 [.inr (.inr 319)] M
noncomputable def eMo_qBracket_7 (Lg d : Nat) (x1 : Int) (M : bz_M) : Option (Int × bz_M) := bz_X (bz_Pg Lg true) bz_kI d 270 7 [some (.inr (.inr 319)), some (.inl x1)] [] M
noncomputable def eMo_qDropsToBracket (Lg d : Nat)  (M : bz_M) : Option (bz_M) := bz_cV (bz_Pg Lg true) d 271 [.inr (.inr 319)] M
noncomputable def eMo_qDropsToBracket_0 (Lg d : Nat)  (M : bz_M) : Option (bz_M) := bz_X (bz_Pg Lg true) bz_kV d 271 0 [some (.inr (.inr 319))] [] M
noncomputable def eMo_qWordHere (Lg d : Nat)  (M : bz_M) : Option (Int × bz_M) := bz_cI (bz_Pg Lg true) d 272 [.inr (.inr 319)] M
noncomputable def eMo_qWordHere_55 (Lg d : Nat)  (M : bz_M) : Option (Int × bz_M) := bz_X (bz_Pg Lg true) bz_kI d 272 55 [some (.inr (.inr 319))] [] M
noncomputable def eMo_qWordOf (Lg d : Nat) (a : Int) (b : Int) (M : bz_M) : Option (Int × bz_M) := bz_cI (bz_Pg Lg true) d 273 [.inr (.inr 319), .inl a, .inl b] M
noncomputable def eMo_qAsksWord (Lg d : Nat) (a : Int) (M : bz_M) : Option (bz_M) := bz_cV (bz_Pg Lg true) d 274 [.inr (.inr 319), .inl a] M
noncomputable def eMo_qEndsPart (Lg d : Nat)  (M : bz_M) : Option (bz_M) := bz_cV (bz_Pg Lg true) d 275 [.inr (.inr 319)] M
noncomputable def eMo_qEndsPart_0 (Lg d : Nat)  (M : bz_M) : Option (bz_M) := bz_X (bz_Pg Lg true) bz_kV d 275 0 [some (.inr (.inr 319))] [] M
noncomputable def eMo_qPartTold (Lg d : Nat)  (M : bz_M) : Option (bz_M) := bz_cV (bz_Pg Lg true) d 276 [.inr (.inr 319)] M
noncomputable def eMo_qPartTold_2 (Lg d : Nat) (x1 : Int) (M : bz_M) : Option (bz_M) := bz_X (bz_Pg Lg true) bz_kV d 276 2 [some (.inr (.inr 319)), some (.inl x1), none, none, none, none] [] M
noncomputable def eMo_qPartTold_212 (Lg d : Nat) (x2 : Int) (M : bz_M) : Option (bz_M) := bz_X (bz_Pg Lg true) bz_kV d 276 212 [some (.inr (.inr 319)), none, some (.inl x2), none, none, none] [] M
noncomputable def eMo_qPartTold_78 (Lg d : Nat) (x1 : Int) (M : bz_M) : Option (bz_M) := bz_X (bz_Pg Lg true) bz_kV d 276 78 [some (.inr (.inr 319)), some (.inl x1), none, none, none, none] [] M
noncomputable def eMo_qPartTold_118 (Lg d : Nat) (x1 : Int) (x4 : Int) (y0 : Int) (M : bz_M) : Option (bz_M) := bz_X (bz_Pg Lg true) bz_kV d 276 118 [some (.inr (.inr 319)), some (.inl x1), none, none, some (.inl x4), none] [.inl y0] M
noncomputable def eMo_qGoesOn (Lg d : Nat)  (M : bz_M) : Option (Int × bz_M) := bz_cI (bz_Pg Lg true) d 277 [.inr (.inr 319)] M
noncomputable def eMo_qGoesOn_43 (Lg d : Nat)  (M : bz_M) : Option (Int × bz_M) := bz_X (bz_Pg Lg true) bz_kI d 277 43 [some (.inr (.inr 319)), none] [] M
noncomputable def eMo_qGoesOn_122 (Lg d : Nat)  (M : bz_M) : Option (Int × bz_M) := bz_X (bz_Pg Lg true) bz_kI d 277 122 [some (.inr (.inr 319)), none] [] M
noncomputable def eMo_qGoesOn_0 (Lg d : Nat)  (M : bz_M) : Option (Int × bz_M) := bz_X (bz_Pg Lg true) bz_kI d 277 0 [some (.inr (.inr 319)), none] [] M
noncomputable def eMo_qGoesOn_247 (Lg d : Nat) (x1 : Int) (M : bz_M) : Option (Int × bz_M) := bz_X (bz_Pg Lg true) bz_kI d 277 247 [some (.inr (.inr 319)), some (.inl x1)] [] M
noncomputable def eMo_qGoesOn_162 (Lg d : Nat) (x1 : Int) (M : bz_M) : Option (Int × bz_M) := bz_X (bz_Pg Lg true) bz_kI d 277 162 [some (.inr (.inr 319)), some (.inl x1)] [] M
noncomputable def eMo_qSums (Lg d : Nat)  (M : bz_M) : Option (bz_M) := bz_cV (bz_Pg Lg true) d 278 [.inr (.inr 319)] M
noncomputable def eMo_qSums_15 (Lg d : Nat) (x1 : Int) (x2 : Int) (M : bz_M) : Option (bz_M) := bz_X (bz_Pg Lg true) bz_kV d 278 15 [some (.inr (.inr 319)), some (.inl x1), some (.inl x2)] [] M
noncomputable def eMo_qSums_53 (Lg d : Nat) (x1 : Int) (M : bz_M) : Option (bz_M) := bz_X (bz_Pg Lg true) bz_kV d 278 53 [some (.inr (.inr 319)), some (.inl x1), none] [] M
noncomputable def eMo_qFact (Lg d : Nat)  (M : bz_M) : Option (bz_M) := bz_cV (bz_Pg Lg true) d 279 [.inr (.inr 319)] M
noncomputable def eMo_qFact_63 (Lg d : Nat) (x1 : Int) (M : bz_M) : Option (bz_M) := bz_X (bz_Pg Lg true) bz_kV d 279 63 [some (.inr (.inr 319)), some (.inl x1)] [] M
noncomputable def eMo_qHasSquare (Lg d : Nat)  (M : bz_M) : Option (Int × bz_M) := bz_cI (bz_Pg Lg true) d 280 [.inr (.inr 319)] M
noncomputable def eMo_qHasSquare_2 (Lg d : Nat) (x1 : Int) (M : bz_M) : Option (Int × bz_M) := bz_X (bz_Pg Lg true) bz_kI d 280 2 [some (.inr (.inr 319)), some (.inl x1)] [] M
noncomputable def eMo_qDropsNots (Lg d : Nat)  (M : bz_M) : Option (bz_M) := bz_cV (bz_Pg Lg true) d 281 [.inr (.inr 319)] M
noncomputable def eMo_qDropsNots_0 (Lg d : Nat)  (M : bz_M) : Option (bz_M) := bz_X (bz_Pg Lg true) bz_kV d 281 0 [some (.inr (.inr 319))] [] M
noncomputable def eMo_qTest (Lg d : Nat)  (M : bz_M) : Option (bz_M) := bz_cV (bz_Pg Lg true) d 282 [.inr (.inr 319)] M
noncomputable def eMo_qTest_2 (Lg d : Nat) (x1 : Int) (M : bz_M) : Option (bz_M) := bz_X (bz_Pg Lg true) bz_kV d 282 2 [some (.inr (.inr 319)), some (.inl x1), none] [] M
noncomputable def eMo_qTest_110 (Lg d : Nat)  (M : bz_M) : Option (bz_M) := bz_X (bz_Pg Lg true) bz_kV d 282 110 [some (.inr (.inr 319)), none, none] [] M
noncomputable def eMo_qGoesOnTest (Lg d : Nat)  (M : bz_M) : Option (Int × bz_M) := bz_cI (bz_Pg Lg true) d 283 [.inr (.inr 319)] M
noncomputable def eMo_qGoesOnTest_76 (Lg d : Nat)  (M : bz_M) : Option (Int × bz_M) := bz_X (bz_Pg Lg true) bz_kI d 283 76 [some (.inr (.inr 319))] [] M
noncomputable def eMo_qGoesOnTest_33 (Lg d : Nat)  (M : bz_M) : Option (Int × bz_M) := bz_X (bz_Pg Lg true) bz_kI d 283 33 [some (.inr (.inr 319))] [] M
noncomputable def eMo_qGoesOnTest_137 (Lg d : Nat)  (M : bz_M) : Option (Int × bz_M) := bz_X (bz_Pg Lg true) bz_kI d 283 137 [some (.inr (.inr 319))] [] M
noncomputable def eMo_qGoesOnTest_87 (Lg d : Nat)  (M : bz_M) : Option (Int × bz_M) := bz_X (bz_Pg Lg true) bz_kI d 283 87 [some (.inr (.inr 319))] [] M
noncomputable def eMo_qGoesOnTest_0 (Lg d : Nat)  (M : bz_M) : Option (Int × bz_M) := bz_X (bz_Pg Lg true) bz_kI d 283 0 [some (.inr (.inr 319))] [] M
noncomputable def eMo_qClip (Lg d : Nat) (a : Int) (M : bz_M) : Option (Int × bz_M) := bz_cL (bz_Pg Lg true) d 284 [.inr (.inl a)] M
noncomputable def eMo_qFloor (Lg d : Nat) (a : Int) (b : Int) (M : bz_M) : Option (Int × bz_M) := bz_cL (bz_Pg Lg true) d 285 [.inr (.inl a), .inr (.inl b)] M
noncomputable def eMo_qPuts (Lg d : Nat) (a : Int) (M : bz_M) : Option (bz_M) := bz_cV (bz_Pg Lg true) d 286 [.inr (.inr 319), .inr (.inl a)] M
noncomputable def eMo_qJoins (Lg d : Nat) (a : Int) (M : bz_M) : Option (bz_M) := bz_cV (bz_Pg Lg true) d 287 [.inr (.inr 319), .inl a] M
noncomputable def eMo_qPartOf (Lg d : Nat) (a : Int) (b : Int) (M : bz_M) : Option (Int × bz_M) := bz_cL (bz_Pg Lg true) d 288 [.inr (.inr 319), .inl a, .inl b] M
noncomputable def eMo_qOf (Lg d : Nat) (a : Int) (b : Int) (g : Int) (M : bz_M) : Option (Int × bz_M) := bz_cL (bz_Pg Lg true) d 289 [.inr (.inr 319), .inl a, .inr (.inl b), .inl g] M
noncomputable def eMo_qTold (Lg d : Nat) (a : Int) (M : bz_M) : Option (Int × bz_M) := bz_cL (bz_Pg Lg true) d 290 [.inr (.inr 319), .inl a] M
noncomputable def eMo_qTold_7 (Lg d : Nat) (x1 : Int) (x2 : Int) (M : bz_M) : Option (Int × bz_M) := bz_X (bz_Pg Lg true) bz_kL d 290 7 [some (.inr (.inr 319)), some (.inl x1), some (.inl x2), none] [] M
noncomputable def eMo_qKind (Lg d : Nat)  (M : bz_M) : Option (Int × bz_M) := bz_cI (bz_Pg Lg true) d 291 [.inr (.inr 319)] M
noncomputable def eMo_qKind_76 (Lg d : Nat) (y0 : Int) (M : bz_M) : Option (Int × bz_M) := bz_X (bz_Pg Lg true) bz_kI d 291 76 [some (.inr (.inr 319)), none] [.inl y0] M
noncomputable def eMo_qTakes (Lg d : Nat) (a : Int) (b : Int) (g : Int) (M : bz_M) : Option (bz_M) := bz_cV (bz_Pg Lg true) d 292 [.inr (.inr 319), .inl a, .inr (.inl b), .inl g] M
noncomputable def eMo_qTakes_16 (Lg d : Nat) (x1 : Int) (x2 : Int) (x4 : Int) (y0 : Int) (M : bz_M) : Option (bz_M) := bz_X (bz_Pg Lg true) bz_kV d 292 16 [some (.inr (.inr 319)), some (.inl x1), some (.inr (.inl x2)), none, some (.inl x4), none] [.inl y0] M
noncomputable def eMo_qTakes_55 (Lg d : Nat) (x1 : Int) (x2 : Int) (x5 : Int) (M : bz_M) : Option (bz_M) := bz_X (bz_Pg Lg true) bz_kV d 292 55 [some (.inr (.inr 319)), some (.inl x1), some (.inr (.inl x2)), none, none, some (.inl x5)] [] M
noncomputable def eMo_qTakes_90 (Lg d : Nat) (x1 : Int) (x2 : Int) (M : bz_M) : Option (bz_M) := bz_X (bz_Pg Lg true) bz_kV d 292 90 [some (.inr (.inr 319)), some (.inl x1), some (.inr (.inl x2)), none, none, none] [] M
noncomputable def eMo_ask (Lg d : Nat)  (M : bz_M) : Option (Int × bz_M) := bz_cL (bz_Pg Lg true) d 293 [.inr (.inr 319)] M
noncomputable def eMo_ask_109 (Lg d : Nat) (x1 : Int) (M : bz_M) : Option (Int × bz_M) := bz_X (bz_Pg Lg true) bz_kL d 293 109 [some (.inr (.inr 319)), some (.inl x1), none] [] M
noncomputable def eMo_ask_133 (Lg d : Nat) (x1 : Int) (M : bz_M) : Option (Int × bz_M) := bz_X (bz_Pg Lg true) bz_kL d 293 133 [some (.inr (.inr 319)), some (.inl x1), none] [] M
noncomputable def eMo_ask_183 (Lg d : Nat) (x1 : Int) (x2 : Int) (M : bz_M) : Option (Int × bz_M) := bz_X (bz_Pg Lg true) bz_kL d 293 183 [some (.inr (.inr 319)), some (.inl x1), some (.inl x2)] [] M
noncomputable def eMo_ask_215 (Lg d : Nat) (x1 : Int) (x2 : Int) (M : bz_M) : Option (Int × bz_M) := bz_X (bz_Pg Lg true) bz_kL d 293 215 [some (.inr (.inr 319)), some (.inl x1), some (.inl x2)] [] M
noncomputable def eMo_checked (Lg d : Nat) (a : Nat) (b : Int) (M : bz_M) : Option (Int × bz_M) := bz_cI (bz_Pg Lg true) d 294 [.inr (.inr a), .inl b] M
noncomputable def eMo_checked_6 (Lg d : Nat) (a : Nat) (x1 : Int) (x2 : Int) (x3 : Int) (M : bz_M) : Option (Int × bz_M) := bz_X (bz_Pg Lg true) bz_kI d 294 6 [some (.inr (.inr a)), some (.inl x1), some (.inl x2), some (.inl x3)] [] M
noncomputable def eMo_writes (Lg d : Nat) (a : Int) (M : bz_M) : Option (bz_M) := bz_cV (bz_Pg Lg true) d 295 [.inr (.inr 319), .inl a] M
noncomputable def eMo_writesTwo (Lg d : Nat) (a : Int) (M : bz_M) : Option (bz_M) := bz_cV (bz_Pg Lg true) d 296 [.inr (.inr 319), .inl a] M
noncomputable def eMo_image (Lg d : Nat)  (M : bz_M) : Option (Int × bz_M) := bz_cI (bz_Pg Lg true) d 297 [.inr (.inr 319)] M
noncomputable def eMo_image_45 (Lg d : Nat) (x1 : Int) (M : bz_M) : Option (Int × bz_M) := bz_X (bz_Pg Lg true) bz_kI d 297 45 [some (.inr (.inr 319)), some (.inl x1), none] [] M
noncomputable def eMo_image_70 (Lg d : Nat) (x1 : Int) (M : bz_M) : Option (Int × bz_M) := bz_X (bz_Pg Lg true) bz_kI d 297 70 [some (.inr (.inr 319)), some (.inl x1), none] [] M
noncomputable def eMo_image_80 (Lg d : Nat) (x1 : Int) (x2 : Int) (M : bz_M) : Option (Int × bz_M) := bz_X (bz_Pg Lg true) bz_kI d 297 80 [some (.inr (.inr 319)), some (.inl x1), some (.inl x2)] [] M
noncomputable def eMo_image_130 (Lg d : Nat) (x1 : Int) (M : bz_M) : Option (Int × bz_M) := bz_X (bz_Pg Lg true) bz_kI d 297 130 [some (.inr (.inr 319)), some (.inl x1), none] [] M
noncomputable def eMo_octet (Lg d : Nat) (a : Int) (M : bz_M) : Option (Int × bz_M) := bz_cI (bz_Pg Lg true) d 298 [.inr (.inr 319), .inl a] M
noncomputable def eMo_twoAt (Lg d : Nat) (a : Int) (M : bz_M) : Option (Int × bz_M) := bz_cI (bz_Pg Lg true) d 299 [.inr (.inr 319), .inl a] M
noncomputable def eMo_cellsFrom (Lg d : Nat)  (M : bz_M) : Option (Int × bz_M) := bz_cI (bz_Pg Lg true) d 300 [.inr (.inr 319)] M
noncomputable def eMo_lordsFrom (Lg d : Nat)  (M : bz_M) : Option (Int × bz_M) := bz_cI (bz_Pg Lg true) d 301 [.inr (.inr 319)] M
noncomputable def eMo_isImage (Lg d : Nat) (a : Int) (M : bz_M) : Option (Int × bz_M) := bz_cI (bz_Pg Lg true) d 302 [.inr (.inr 319), .inl a] M
noncomputable def eMo_isImage_82 (Lg d : Nat) (x1 : Int) (x2 : Int) (M : bz_M) : Option (Int × bz_M) := bz_X (bz_Pg Lg true) bz_kI d 302 82 [some (.inr (.inr 319)), some (.inl x1), some (.inl x2)] [] M
noncomputable def eMo_isImage_116 (Lg d : Nat) (x1 : Int) (x2 : Int) (M : bz_M) : Option (Int × bz_M) := bz_X (bz_Pg Lg true) bz_kI d 302 116 [some (.inr (.inr 319)), some (.inl x1), some (.inl x2)] [] M
noncomputable def eMo_isImage_161 (Lg d : Nat) (x1 : Int) (x2 : Int) (M : bz_M) : Option (Int × bz_M) := bz_X (bz_Pg Lg true) bz_kI d 302 161 [some (.inr (.inr 319)), some (.inl x1), some (.inl x2)] [] M
noncomputable def eMo_on (Lg d : Nat)  (M : bz_M) : Option (Int × bz_M) := bz_cI (bz_Pg Lg true) d 303 [.inr (.inr 319)] M
noncomputable def eMo_on_65 (Lg d : Nat) (x2 : Int) (M : bz_M) : Option (Int × bz_M) := bz_X (bz_Pg Lg true) bz_kI d 303 65 [some (.inr (.inr 319)), none, some (.inl x2), none, none] [] M
noncomputable def eMo_on_102 (Lg d : Nat) (x2 : Int) (x3 : Int) (M : bz_M) : Option (Int × bz_M) := bz_X (bz_Pg Lg true) bz_kI d 303 102 [some (.inr (.inr 319)), none, some (.inl x2), some (.inl x3), none] [] M
noncomputable def eMo_on_113 (Lg d : Nat) (x2 : Int) (x3 : Int) (x4 : Int) (M : bz_M) : Option (Int × bz_M) := bz_X (bz_Pg Lg true) bz_kI d 303 113 [some (.inr (.inr 319)), none, some (.inl x2), some (.inl x3), some (.inl x4)] [] M
noncomputable def eMo_on_183 (Lg d : Nat) (x2 : Int) (x3 : Int) (M : bz_M) : Option (Int × bz_M) := bz_X (bz_Pg Lg true) bz_kI d 303 183 [some (.inr (.inr 319)), none, some (.inl x2), some (.inl x3), none] [] M
noncomputable def eMo_status (Lg d : Nat) (a : Int) (M : bz_M) : Option (Int × bz_M) := bz_cI (bz_Pg Lg true) d 304 [.inr (.inr 319), .inl a] M
noncomputable def eJd_bitCount (Lg d : Nat) (a : Int) (M : bz_M) : Option (Int × bz_M) := bz_cI (bz_Pg Lg true) d 310 [.inl a] M
noncomputable def eJs_length (Lg d : Nat) (w : Nat) (M : bz_M) : Option (Int × bz_M) := bz_cI (bz_Pg Lg true) d 311 [.inr (.inr w)] M
noncomputable def eJs_charAt (Lg d : Nat) (w : Nat) (a : Int) (M : bz_M) : Option (Int × bz_M) := bz_cI (bz_Pg Lg true) d 312 [.inr (.inr w), .inl a] M
noncomputable def eJs_coder (Lg d : Nat) (w : Nat) (M : bz_M) : Option (Int × bz_M) := bz_cI (bz_Pg Lg true) d 313 [.inr (.inr w)] M
noncomputable def eJs_isLatin1 (Lg d : Nat) (w : Nat) (M : bz_M) : Option (Int × bz_M) := bz_cI (bz_Pg Lg true) d 314 [.inr (.inr w)] M
noncomputable def eJl_charAt (Lg d : Nat) (a : Nat) (b : Int) (M : bz_M) : Option (Int × bz_M) := bz_cI (bz_Pg Lg true) d 315 [.inr (.inr a), .inl b] M
theorem bz_r2 {Lg i pc : Nat} {e : bz_E} (h : bz_t2[i]? = some (pc, e)) : (bz_Pg Lg true).2.2.2.1 2 pc = some e := bz_tab_at (m := 2) (q := (pc, e)) (by decide) (List.mem_of_getElem? (l := bz_t2) h)
theorem bz_q2 {Lg a b : Nat} : ∀ q ∈ (bz_t2.drop a).take b, (bz_Pg Lg true).2.2.2.1 2 q.1 = some q.2 := fun q hq => bz_tab_at (m := 2) (q := q) (by decide) (List.mem_of_mem_drop (l := bz_t2) (List.mem_of_mem_take hq))
theorem bz_r3 {Lg i pc : Nat} {e : bz_E} (h : bz_t3[i]? = some (pc, e)) : (bz_Pg Lg true).2.2.2.1 3 pc = some e := bz_tab_at (m := 3) (q := (pc, e)) (by decide) (List.mem_of_getElem? (l := bz_t3) h)
theorem bz_q3 {Lg a b : Nat} : ∀ q ∈ (bz_t3.drop a).take b, (bz_Pg Lg true).2.2.2.1 3 q.1 = some q.2 := fun q hq => bz_tab_at (m := 3) (q := q) (by decide) (List.mem_of_mem_drop (l := bz_t3) (List.mem_of_mem_take hq))
theorem bz_r4 {Lg i pc : Nat} {e : bz_E} (h : bz_t4[i]? = some (pc, e)) : (bz_Pg Lg true).2.2.2.1 4 pc = some e := bz_tab_at (m := 4) (q := (pc, e)) (by decide) (List.mem_of_getElem? (l := bz_t4) h)
theorem bz_q4 {Lg a b : Nat} : ∀ q ∈ (bz_t4.drop a).take b, (bz_Pg Lg true).2.2.2.1 4 q.1 = some q.2 := fun q hq => bz_tab_at (m := 4) (q := q) (by decide) (List.mem_of_mem_drop (l := bz_t4) (List.mem_of_mem_take hq))
theorem bz_r5 {Lg i pc : Nat} {e : bz_E} (h : bz_t5[i]? = some (pc, e)) : (bz_Pg Lg true).2.2.2.1 5 pc = some e := bz_tab_at (m := 5) (q := (pc, e)) (by decide) (List.mem_of_getElem? (l := bz_t5) h)
theorem bz_q5 {Lg a b : Nat} : ∀ q ∈ (bz_t5.drop a).take b, (bz_Pg Lg true).2.2.2.1 5 q.1 = some q.2 := fun q hq => bz_tab_at (m := 5) (q := q) (by decide) (List.mem_of_mem_drop (l := bz_t5) (List.mem_of_mem_take hq))
theorem bz_r6 {Lg i pc : Nat} {e : bz_E} (h : bz_t6[i]? = some (pc, e)) : (bz_Pg Lg true).2.2.2.1 6 pc = some e := bz_tab_at (m := 6) (q := (pc, e)) (by decide) (List.mem_of_getElem? (l := bz_t6) h)
theorem bz_q6 {Lg a b : Nat} : ∀ q ∈ (bz_t6.drop a).take b, (bz_Pg Lg true).2.2.2.1 6 q.1 = some q.2 := fun q hq => bz_tab_at (m := 6) (q := q) (by decide) (List.mem_of_mem_drop (l := bz_t6) (List.mem_of_mem_take hq))
theorem bz_r7 {Lg i pc : Nat} {e : bz_E} (h : bz_t7[i]? = some (pc, e)) : (bz_Pg Lg true).2.2.2.1 7 pc = some e := bz_tab_at (m := 7) (q := (pc, e)) (by decide) (List.mem_of_getElem? (l := bz_t7) h)
theorem bz_q7 {Lg a b : Nat} : ∀ q ∈ (bz_t7.drop a).take b, (bz_Pg Lg true).2.2.2.1 7 q.1 = some q.2 := fun q hq => bz_tab_at (m := 7) (q := q) (by decide) (List.mem_of_mem_drop (l := bz_t7) (List.mem_of_mem_take hq))
theorem bz_r8 {Lg i pc : Nat} {e : bz_E} (h : bz_t8[i]? = some (pc, e)) : (bz_Pg Lg true).2.2.2.1 8 pc = some e := bz_tab_at (m := 8) (q := (pc, e)) (by decide) (List.mem_of_getElem? (l := bz_t8) h)
theorem bz_q8 {Lg a b : Nat} : ∀ q ∈ (bz_t8.drop a).take b, (bz_Pg Lg true).2.2.2.1 8 q.1 = some q.2 := fun q hq => bz_tab_at (m := 8) (q := q) (by decide) (List.mem_of_mem_drop (l := bz_t8) (List.mem_of_mem_take hq))
theorem bz_r10 {Lg i pc : Nat} {e : bz_E} (h : bz_t10[i]? = some (pc, e)) : (bz_Pg Lg true).2.2.2.1 10 pc = some e := bz_tab_at (m := 10) (q := (pc, e)) (by decide) (List.mem_of_getElem? (l := bz_t10) h)
theorem bz_q10 {Lg a b : Nat} : ∀ q ∈ (bz_t10.drop a).take b, (bz_Pg Lg true).2.2.2.1 10 q.1 = some q.2 := fun q hq => bz_tab_at (m := 10) (q := q) (by decide) (List.mem_of_mem_drop (l := bz_t10) (List.mem_of_mem_take hq))
theorem bz_r11 {Lg i pc : Nat} {e : bz_E} (h : bz_t11[i]? = some (pc, e)) : (bz_Pg Lg true).2.2.2.1 11 pc = some e := bz_tab_at (m := 11) (q := (pc, e)) (by decide) (List.mem_of_getElem? (l := bz_t11) h)
theorem bz_q11 {Lg a b : Nat} : ∀ q ∈ (bz_t11.drop a).take b, (bz_Pg Lg true).2.2.2.1 11 q.1 = some q.2 := fun q hq => bz_tab_at (m := 11) (q := q) (by decide) (List.mem_of_mem_drop (l := bz_t11) (List.mem_of_mem_take hq))
theorem bz_r12 {Lg i pc : Nat} {e : bz_E} (h : bz_t12[i]? = some (pc, e)) : (bz_Pg Lg true).2.2.2.1 12 pc = some e := bz_tab_at (m := 12) (q := (pc, e)) (by decide) (List.mem_of_getElem? (l := bz_t12) h)
theorem bz_q12 {Lg a b : Nat} : ∀ q ∈ (bz_t12.drop a).take b, (bz_Pg Lg true).2.2.2.1 12 q.1 = some q.2 := fun q hq => bz_tab_at (m := 12) (q := q) (by decide) (List.mem_of_mem_drop (l := bz_t12) (List.mem_of_mem_take hq))
theorem bz_r14 {Lg i pc : Nat} {e : bz_E} (h : bz_t14[i]? = some (pc, e)) : (bz_Pg Lg true).2.2.2.1 14 pc = some e := bz_tab_at (m := 14) (q := (pc, e)) (by decide) (List.mem_of_getElem? (l := bz_t14) h)
theorem bz_q14 {Lg a b : Nat} : ∀ q ∈ (bz_t14.drop a).take b, (bz_Pg Lg true).2.2.2.1 14 q.1 = some q.2 := fun q hq => bz_tab_at (m := 14) (q := q) (by decide) (List.mem_of_mem_drop (l := bz_t14) (List.mem_of_mem_take hq))
theorem bz_r15 {Lg i pc : Nat} {e : bz_E} (h : bz_t15[i]? = some (pc, e)) : (bz_Pg Lg true).2.2.2.1 15 pc = some e := bz_tab_at (m := 15) (q := (pc, e)) (by decide) (List.mem_of_getElem? (l := bz_t15) h)
theorem bz_q15 {Lg a b : Nat} : ∀ q ∈ (bz_t15.drop a).take b, (bz_Pg Lg true).2.2.2.1 15 q.1 = some q.2 := fun q hq => bz_tab_at (m := 15) (q := q) (by decide) (List.mem_of_mem_drop (l := bz_t15) (List.mem_of_mem_take hq))
theorem bz_r16 {Lg i pc : Nat} {e : bz_E} (h : bz_t16[i]? = some (pc, e)) : (bz_Pg Lg true).2.2.2.1 16 pc = some e := bz_tab_at (m := 16) (q := (pc, e)) (by decide) (List.mem_of_getElem? (l := bz_t16) h)
theorem bz_q16 {Lg a b : Nat} : ∀ q ∈ (bz_t16.drop a).take b, (bz_Pg Lg true).2.2.2.1 16 q.1 = some q.2 := fun q hq => bz_tab_at (m := 16) (q := q) (by decide) (List.mem_of_mem_drop (l := bz_t16) (List.mem_of_mem_take hq))
theorem bz_r17 {Lg i pc : Nat} {e : bz_E} (h : bz_t17[i]? = some (pc, e)) : (bz_Pg Lg true).2.2.2.1 17 pc = some e := bz_tab_at (m := 17) (q := (pc, e)) (by decide) (List.mem_of_getElem? (l := bz_t17) h)
theorem bz_q17 {Lg a b : Nat} : ∀ q ∈ (bz_t17.drop a).take b, (bz_Pg Lg true).2.2.2.1 17 q.1 = some q.2 := fun q hq => bz_tab_at (m := 17) (q := q) (by decide) (List.mem_of_mem_drop (l := bz_t17) (List.mem_of_mem_take hq))
theorem bz_r18 {Lg i pc : Nat} {e : bz_E} (h : bz_t18[i]? = some (pc, e)) : (bz_Pg Lg true).2.2.2.1 18 pc = some e := bz_tab_at (m := 18) (q := (pc, e)) (by decide) (List.mem_of_getElem? (l := bz_t18) h)
theorem bz_q18 {Lg a b : Nat} : ∀ q ∈ (bz_t18.drop a).take b, (bz_Pg Lg true).2.2.2.1 18 q.1 = some q.2 := fun q hq => bz_tab_at (m := 18) (q := q) (by decide) (List.mem_of_mem_drop (l := bz_t18) (List.mem_of_mem_take hq))
theorem bz_r19 {Lg i pc : Nat} {e : bz_E} (h : bz_t19[i]? = some (pc, e)) : (bz_Pg Lg true).2.2.2.1 19 pc = some e := bz_tab_at (m := 19) (q := (pc, e)) (by decide) (List.mem_of_getElem? (l := bz_t19) h)
theorem bz_q19 {Lg a b : Nat} : ∀ q ∈ (bz_t19.drop a).take b, (bz_Pg Lg true).2.2.2.1 19 q.1 = some q.2 := fun q hq => bz_tab_at (m := 19) (q := q) (by decide) (List.mem_of_mem_drop (l := bz_t19) (List.mem_of_mem_take hq))
theorem bz_r20 {Lg i pc : Nat} {e : bz_E} (h : bz_t20[i]? = some (pc, e)) : (bz_Pg Lg true).2.2.2.1 20 pc = some e := bz_tab_at (m := 20) (q := (pc, e)) (by decide) (List.mem_of_getElem? (l := bz_t20) h)
theorem bz_q20 {Lg a b : Nat} : ∀ q ∈ (bz_t20.drop a).take b, (bz_Pg Lg true).2.2.2.1 20 q.1 = some q.2 := fun q hq => bz_tab_at (m := 20) (q := q) (by decide) (List.mem_of_mem_drop (l := bz_t20) (List.mem_of_mem_take hq))
theorem bz_r21 {Lg i pc : Nat} {e : bz_E} (h : bz_t21[i]? = some (pc, e)) : (bz_Pg Lg true).2.2.2.1 21 pc = some e := bz_tab_at (m := 21) (q := (pc, e)) (by decide) (List.mem_of_getElem? (l := bz_t21) h)
theorem bz_q21 {Lg a b : Nat} : ∀ q ∈ (bz_t21.drop a).take b, (bz_Pg Lg true).2.2.2.1 21 q.1 = some q.2 := fun q hq => bz_tab_at (m := 21) (q := q) (by decide) (List.mem_of_mem_drop (l := bz_t21) (List.mem_of_mem_take hq))
theorem bz_r22 {Lg i pc : Nat} {e : bz_E} (h : bz_t22[i]? = some (pc, e)) : (bz_Pg Lg true).2.2.2.1 22 pc = some e := bz_tab_at (m := 22) (q := (pc, e)) (by decide) (List.mem_of_getElem? (l := bz_t22) h)
theorem bz_q22 {Lg a b : Nat} : ∀ q ∈ (bz_t22.drop a).take b, (bz_Pg Lg true).2.2.2.1 22 q.1 = some q.2 := fun q hq => bz_tab_at (m := 22) (q := q) (by decide) (List.mem_of_mem_drop (l := bz_t22) (List.mem_of_mem_take hq))
theorem bz_r23 {Lg i pc : Nat} {e : bz_E} (h : bz_t23[i]? = some (pc, e)) : (bz_Pg Lg true).2.2.2.1 23 pc = some e := bz_tab_at (m := 23) (q := (pc, e)) (by decide) (List.mem_of_getElem? (l := bz_t23) h)
theorem bz_q23 {Lg a b : Nat} : ∀ q ∈ (bz_t23.drop a).take b, (bz_Pg Lg true).2.2.2.1 23 q.1 = some q.2 := fun q hq => bz_tab_at (m := 23) (q := q) (by decide) (List.mem_of_mem_drop (l := bz_t23) (List.mem_of_mem_take hq))
theorem bz_r24 {Lg i pc : Nat} {e : bz_E} (h : bz_t24[i]? = some (pc, e)) : (bz_Pg Lg true).2.2.2.1 24 pc = some e := bz_tab_at (m := 24) (q := (pc, e)) (by decide) (List.mem_of_getElem? (l := bz_t24) h)
theorem bz_q24 {Lg a b : Nat} : ∀ q ∈ (bz_t24.drop a).take b, (bz_Pg Lg true).2.2.2.1 24 q.1 = some q.2 := fun q hq => bz_tab_at (m := 24) (q := q) (by decide) (List.mem_of_mem_drop (l := bz_t24) (List.mem_of_mem_take hq))
theorem bz_r25 {Lg i pc : Nat} {e : bz_E} (h : bz_t25[i]? = some (pc, e)) : (bz_Pg Lg true).2.2.2.1 25 pc = some e := bz_tab_at (m := 25) (q := (pc, e)) (by decide) (List.mem_of_getElem? (l := bz_t25) h)
theorem bz_q25 {Lg a b : Nat} : ∀ q ∈ (bz_t25.drop a).take b, (bz_Pg Lg true).2.2.2.1 25 q.1 = some q.2 := fun q hq => bz_tab_at (m := 25) (q := q) (by decide) (List.mem_of_mem_drop (l := bz_t25) (List.mem_of_mem_take hq))
theorem bz_r26 {Lg i pc : Nat} {e : bz_E} (h : bz_t26[i]? = some (pc, e)) : (bz_Pg Lg true).2.2.2.1 26 pc = some e := bz_tab_at (m := 26) (q := (pc, e)) (by decide) (List.mem_of_getElem? (l := bz_t26) h)
theorem bz_q26 {Lg a b : Nat} : ∀ q ∈ (bz_t26.drop a).take b, (bz_Pg Lg true).2.2.2.1 26 q.1 = some q.2 := fun q hq => bz_tab_at (m := 26) (q := q) (by decide) (List.mem_of_mem_drop (l := bz_t26) (List.mem_of_mem_take hq))
theorem bz_r27 {Lg i pc : Nat} {e : bz_E} (h : bz_t27[i]? = some (pc, e)) : (bz_Pg Lg true).2.2.2.1 27 pc = some e := bz_tab_at (m := 27) (q := (pc, e)) (by decide) (List.mem_of_getElem? (l := bz_t27) h)
theorem bz_q27 {Lg a b : Nat} : ∀ q ∈ (bz_t27.drop a).take b, (bz_Pg Lg true).2.2.2.1 27 q.1 = some q.2 := fun q hq => bz_tab_at (m := 27) (q := q) (by decide) (List.mem_of_mem_drop (l := bz_t27) (List.mem_of_mem_take hq))
theorem bz_r28 {Lg i pc : Nat} {e : bz_E} (h : bz_t28[i]? = some (pc, e)) : (bz_Pg Lg true).2.2.2.1 28 pc = some e := bz_tab_at (m := 28) (q := (pc, e)) (by decide) (List.mem_of_getElem? (l := bz_t28) h)
theorem bz_q28 {Lg a b : Nat} : ∀ q ∈ (bz_t28.drop a).take b, (bz_Pg Lg true).2.2.2.1 28 q.1 = some q.2 := fun q hq => bz_tab_at (m := 28) (q := q) (by decide) (List.mem_of_mem_drop (l := bz_t28) (List.mem_of_mem_take hq))
theorem bz_r29 {Lg i pc : Nat} {e : bz_E} (h : bz_t29[i]? = some (pc, e)) : (bz_Pg Lg true).2.2.2.1 29 pc = some e := bz_tab_at (m := 29) (q := (pc, e)) (by decide) (List.mem_of_getElem? (l := bz_t29) h)
theorem bz_q29 {Lg a b : Nat} : ∀ q ∈ (bz_t29.drop a).take b, (bz_Pg Lg true).2.2.2.1 29 q.1 = some q.2 := fun q hq => bz_tab_at (m := 29) (q := q) (by decide) (List.mem_of_mem_drop (l := bz_t29) (List.mem_of_mem_take hq))
theorem bz_r30 {Lg i pc : Nat} {e : bz_E} (h : bz_t30[i]? = some (pc, e)) : (bz_Pg Lg true).2.2.2.1 30 pc = some e := bz_tab_at (m := 30) (q := (pc, e)) (by decide) (List.mem_of_getElem? (l := bz_t30) h)
theorem bz_q30 {Lg a b : Nat} : ∀ q ∈ (bz_t30.drop a).take b, (bz_Pg Lg true).2.2.2.1 30 q.1 = some q.2 := fun q hq => bz_tab_at (m := 30) (q := q) (by decide) (List.mem_of_mem_drop (l := bz_t30) (List.mem_of_mem_take hq))
theorem bz_r32 {Lg i pc : Nat} {e : bz_E} (h : bz_t32[i]? = some (pc, e)) : (bz_Pg Lg true).2.2.2.1 32 pc = some e := bz_tab_at (m := 32) (q := (pc, e)) (by decide) (List.mem_of_getElem? (l := bz_t32) h)
theorem bz_q32 {Lg a b : Nat} : ∀ q ∈ (bz_t32.drop a).take b, (bz_Pg Lg true).2.2.2.1 32 q.1 = some q.2 := fun q hq => bz_tab_at (m := 32) (q := q) (by decide) (List.mem_of_mem_drop (l := bz_t32) (List.mem_of_mem_take hq))
theorem bz_r33 {Lg i pc : Nat} {e : bz_E} (h : bz_t33[i]? = some (pc, e)) : (bz_Pg Lg true).2.2.2.1 33 pc = some e := bz_tab_at (m := 33) (q := (pc, e)) (by decide) (List.mem_of_getElem? (l := bz_t33) h)
theorem bz_q33 {Lg a b : Nat} : ∀ q ∈ (bz_t33.drop a).take b, (bz_Pg Lg true).2.2.2.1 33 q.1 = some q.2 := fun q hq => bz_tab_at (m := 33) (q := q) (by decide) (List.mem_of_mem_drop (l := bz_t33) (List.mem_of_mem_take hq))
theorem bz_r34 {Lg i pc : Nat} {e : bz_E} (h : bz_t34[i]? = some (pc, e)) : (bz_Pg Lg true).2.2.2.1 34 pc = some e := bz_tab_at (m := 34) (q := (pc, e)) (by decide) (List.mem_of_getElem? (l := bz_t34) h)
theorem bz_q34 {Lg a b : Nat} : ∀ q ∈ (bz_t34.drop a).take b, (bz_Pg Lg true).2.2.2.1 34 q.1 = some q.2 := fun q hq => bz_tab_at (m := 34) (q := q) (by decide) (List.mem_of_mem_drop (l := bz_t34) (List.mem_of_mem_take hq))
theorem bz_r35 {Lg i pc : Nat} {e : bz_E} (h : bz_t35[i]? = some (pc, e)) : (bz_Pg Lg true).2.2.2.1 35 pc = some e := bz_tab_at (m := 35) (q := (pc, e)) (by decide) (List.mem_of_getElem? (l := bz_t35) h)
theorem bz_q35 {Lg a b : Nat} : ∀ q ∈ (bz_t35.drop a).take b, (bz_Pg Lg true).2.2.2.1 35 q.1 = some q.2 := fun q hq => bz_tab_at (m := 35) (q := q) (by decide) (List.mem_of_mem_drop (l := bz_t35) (List.mem_of_mem_take hq))
theorem bz_r36 {Lg i pc : Nat} {e : bz_E} (h : bz_t36[i]? = some (pc, e)) : (bz_Pg Lg true).2.2.2.1 36 pc = some e := bz_tab_at (m := 36) (q := (pc, e)) (by decide) (List.mem_of_getElem? (l := bz_t36) h)
theorem bz_q36 {Lg a b : Nat} : ∀ q ∈ (bz_t36.drop a).take b, (bz_Pg Lg true).2.2.2.1 36 q.1 = some q.2 := fun q hq => bz_tab_at (m := 36) (q := q) (by decide) (List.mem_of_mem_drop (l := bz_t36) (List.mem_of_mem_take hq))
theorem bz_r37 {Lg i pc : Nat} {e : bz_E} (h : bz_t37[i]? = some (pc, e)) : (bz_Pg Lg true).2.2.2.1 37 pc = some e := bz_tab_at (m := 37) (q := (pc, e)) (by decide) (List.mem_of_getElem? (l := bz_t37) h)
theorem bz_q37 {Lg a b : Nat} : ∀ q ∈ (bz_t37.drop a).take b, (bz_Pg Lg true).2.2.2.1 37 q.1 = some q.2 := fun q hq => bz_tab_at (m := 37) (q := q) (by decide) (List.mem_of_mem_drop (l := bz_t37) (List.mem_of_mem_take hq))
theorem bz_r38 {Lg i pc : Nat} {e : bz_E} (h : bz_t38[i]? = some (pc, e)) : (bz_Pg Lg true).2.2.2.1 38 pc = some e := bz_tab_at (m := 38) (q := (pc, e)) (by decide) (List.mem_of_getElem? (l := bz_t38) h)
theorem bz_q38 {Lg a b : Nat} : ∀ q ∈ (bz_t38.drop a).take b, (bz_Pg Lg true).2.2.2.1 38 q.1 = some q.2 := fun q hq => bz_tab_at (m := 38) (q := q) (by decide) (List.mem_of_mem_drop (l := bz_t38) (List.mem_of_mem_take hq))
theorem bz_r39 {Lg i pc : Nat} {e : bz_E} (h : bz_t39[i]? = some (pc, e)) : (bz_Pg Lg true).2.2.2.1 39 pc = some e := bz_tab_at (m := 39) (q := (pc, e)) (by decide) (List.mem_of_getElem? (l := bz_t39) h)
theorem bz_q39 {Lg a b : Nat} : ∀ q ∈ (bz_t39.drop a).take b, (bz_Pg Lg true).2.2.2.1 39 q.1 = some q.2 := fun q hq => bz_tab_at (m := 39) (q := q) (by decide) (List.mem_of_mem_drop (l := bz_t39) (List.mem_of_mem_take hq))
theorem bz_r40 {Lg i pc : Nat} {e : bz_E} (h : bz_t40[i]? = some (pc, e)) : (bz_Pg Lg true).2.2.2.1 40 pc = some e := bz_tab_at (m := 40) (q := (pc, e)) (by decide) (List.mem_of_getElem? (l := bz_t40) h)
theorem bz_q40 {Lg a b : Nat} : ∀ q ∈ (bz_t40.drop a).take b, (bz_Pg Lg true).2.2.2.1 40 q.1 = some q.2 := fun q hq => bz_tab_at (m := 40) (q := q) (by decide) (List.mem_of_mem_drop (l := bz_t40) (List.mem_of_mem_take hq))
theorem bz_r41 {Lg i pc : Nat} {e : bz_E} (h : bz_t41[i]? = some (pc, e)) : (bz_Pg Lg true).2.2.2.1 41 pc = some e := bz_tab_at (m := 41) (q := (pc, e)) (by decide) (List.mem_of_getElem? (l := bz_t41) h)
theorem bz_q41 {Lg a b : Nat} : ∀ q ∈ (bz_t41.drop a).take b, (bz_Pg Lg true).2.2.2.1 41 q.1 = some q.2 := fun q hq => bz_tab_at (m := 41) (q := q) (by decide) (List.mem_of_mem_drop (l := bz_t41) (List.mem_of_mem_take hq))
theorem bz_r42 {Lg i pc : Nat} {e : bz_E} (h : bz_t42[i]? = some (pc, e)) : (bz_Pg Lg true).2.2.2.1 42 pc = some e := bz_tab_at (m := 42) (q := (pc, e)) (by decide) (List.mem_of_getElem? (l := bz_t42) h)
theorem bz_q42 {Lg a b : Nat} : ∀ q ∈ (bz_t42.drop a).take b, (bz_Pg Lg true).2.2.2.1 42 q.1 = some q.2 := fun q hq => bz_tab_at (m := 42) (q := q) (by decide) (List.mem_of_mem_drop (l := bz_t42) (List.mem_of_mem_take hq))
theorem bz_r43 {Lg i pc : Nat} {e : bz_E} (h : bz_t43[i]? = some (pc, e)) : (bz_Pg Lg true).2.2.2.1 43 pc = some e := bz_tab_at (m := 43) (q := (pc, e)) (by decide) (List.mem_of_getElem? (l := bz_t43) h)
theorem bz_q43 {Lg a b : Nat} : ∀ q ∈ (bz_t43.drop a).take b, (bz_Pg Lg true).2.2.2.1 43 q.1 = some q.2 := fun q hq => bz_tab_at (m := 43) (q := q) (by decide) (List.mem_of_mem_drop (l := bz_t43) (List.mem_of_mem_take hq))
theorem bz_r45 {Lg i pc : Nat} {e : bz_E} (h : bz_t45[i]? = some (pc, e)) : (bz_Pg Lg true).2.2.2.1 45 pc = some e := bz_tab_at (m := 45) (q := (pc, e)) (by decide) (List.mem_of_getElem? (l := bz_t45) h)
theorem bz_q45 {Lg a b : Nat} : ∀ q ∈ (bz_t45.drop a).take b, (bz_Pg Lg true).2.2.2.1 45 q.1 = some q.2 := fun q hq => bz_tab_at (m := 45) (q := q) (by decide) (List.mem_of_mem_drop (l := bz_t45) (List.mem_of_mem_take hq))
theorem bz_r46 {Lg i pc : Nat} {e : bz_E} (h : bz_t46[i]? = some (pc, e)) : (bz_Pg Lg true).2.2.2.1 46 pc = some e := bz_tab_at (m := 46) (q := (pc, e)) (by decide) (List.mem_of_getElem? (l := bz_t46) h)
theorem bz_q46 {Lg a b : Nat} : ∀ q ∈ (bz_t46.drop a).take b, (bz_Pg Lg true).2.2.2.1 46 q.1 = some q.2 := fun q hq => bz_tab_at (m := 46) (q := q) (by decide) (List.mem_of_mem_drop (l := bz_t46) (List.mem_of_mem_take hq))
theorem bz_r47 {Lg i pc : Nat} {e : bz_E} (h : bz_t47[i]? = some (pc, e)) : (bz_Pg Lg true).2.2.2.1 47 pc = some e := bz_tab_at (m := 47) (q := (pc, e)) (by decide) (List.mem_of_getElem? (l := bz_t47) h)
theorem bz_q47 {Lg a b : Nat} : ∀ q ∈ (bz_t47.drop a).take b, (bz_Pg Lg true).2.2.2.1 47 q.1 = some q.2 := fun q hq => bz_tab_at (m := 47) (q := q) (by decide) (List.mem_of_mem_drop (l := bz_t47) (List.mem_of_mem_take hq))
theorem bz_r49 {Lg i pc : Nat} {e : bz_E} (h : bz_t49[i]? = some (pc, e)) : (bz_Pg Lg true).2.2.2.1 49 pc = some e := bz_tab_at (m := 49) (q := (pc, e)) (by decide) (List.mem_of_getElem? (l := bz_t49) h)
theorem bz_q49 {Lg a b : Nat} : ∀ q ∈ (bz_t49.drop a).take b, (bz_Pg Lg true).2.2.2.1 49 q.1 = some q.2 := fun q hq => bz_tab_at (m := 49) (q := q) (by decide) (List.mem_of_mem_drop (l := bz_t49) (List.mem_of_mem_take hq))
theorem bz_r50 {Lg i pc : Nat} {e : bz_E} (h : bz_t50[i]? = some (pc, e)) : (bz_Pg Lg true).2.2.2.1 50 pc = some e := bz_tab_at (m := 50) (q := (pc, e)) (by decide) (List.mem_of_getElem? (l := bz_t50) h)
theorem bz_q50 {Lg a b : Nat} : ∀ q ∈ (bz_t50.drop a).take b, (bz_Pg Lg true).2.2.2.1 50 q.1 = some q.2 := fun q hq => bz_tab_at (m := 50) (q := q) (by decide) (List.mem_of_mem_drop (l := bz_t50) (List.mem_of_mem_take hq))
theorem bz_r51 {Lg i pc : Nat} {e : bz_E} (h : bz_t51[i]? = some (pc, e)) : (bz_Pg Lg true).2.2.2.1 51 pc = some e := bz_tab_at (m := 51) (q := (pc, e)) (by decide) (List.mem_of_getElem? (l := bz_t51) h)
theorem bz_q51 {Lg a b : Nat} : ∀ q ∈ (bz_t51.drop a).take b, (bz_Pg Lg true).2.2.2.1 51 q.1 = some q.2 := fun q hq => bz_tab_at (m := 51) (q := q) (by decide) (List.mem_of_mem_drop (l := bz_t51) (List.mem_of_mem_take hq))
theorem bz_r52 {Lg i pc : Nat} {e : bz_E} (h : bz_t52[i]? = some (pc, e)) : (bz_Pg Lg true).2.2.2.1 52 pc = some e := bz_tab_at (m := 52) (q := (pc, e)) (by decide) (List.mem_of_getElem? (l := bz_t52) h)
theorem bz_q52 {Lg a b : Nat} : ∀ q ∈ (bz_t52.drop a).take b, (bz_Pg Lg true).2.2.2.1 52 q.1 = some q.2 := fun q hq => bz_tab_at (m := 52) (q := q) (by decide) (List.mem_of_mem_drop (l := bz_t52) (List.mem_of_mem_take hq))
theorem bz_r54 {Lg i pc : Nat} {e : bz_E} (h : bz_t54[i]? = some (pc, e)) : (bz_Pg Lg true).2.2.2.1 54 pc = some e := bz_tab_at (m := 54) (q := (pc, e)) (by decide) (List.mem_of_getElem? (l := bz_t54) h)
theorem bz_q54 {Lg a b : Nat} : ∀ q ∈ (bz_t54.drop a).take b, (bz_Pg Lg true).2.2.2.1 54 q.1 = some q.2 := fun q hq => bz_tab_at (m := 54) (q := q) (by decide) (List.mem_of_mem_drop (l := bz_t54) (List.mem_of_mem_take hq))
theorem bz_r55 {Lg i pc : Nat} {e : bz_E} (h : bz_t55[i]? = some (pc, e)) : (bz_Pg Lg true).2.2.2.1 55 pc = some e := bz_tab_at (m := 55) (q := (pc, e)) (by decide) (List.mem_of_getElem? (l := bz_t55) h)
theorem bz_q55 {Lg a b : Nat} : ∀ q ∈ (bz_t55.drop a).take b, (bz_Pg Lg true).2.2.2.1 55 q.1 = some q.2 := fun q hq => bz_tab_at (m := 55) (q := q) (by decide) (List.mem_of_mem_drop (l := bz_t55) (List.mem_of_mem_take hq))
theorem bz_r56 {Lg i pc : Nat} {e : bz_E} (h : bz_t56[i]? = some (pc, e)) : (bz_Pg Lg true).2.2.2.1 56 pc = some e := bz_tab_at (m := 56) (q := (pc, e)) (by decide) (List.mem_of_getElem? (l := bz_t56) h)
theorem bz_q56 {Lg a b : Nat} : ∀ q ∈ (bz_t56.drop a).take b, (bz_Pg Lg true).2.2.2.1 56 q.1 = some q.2 := fun q hq => bz_tab_at (m := 56) (q := q) (by decide) (List.mem_of_mem_drop (l := bz_t56) (List.mem_of_mem_take hq))
theorem bz_r57 {Lg i pc : Nat} {e : bz_E} (h : bz_t57[i]? = some (pc, e)) : (bz_Pg Lg true).2.2.2.1 57 pc = some e := bz_tab_at (m := 57) (q := (pc, e)) (by decide) (List.mem_of_getElem? (l := bz_t57) h)
theorem bz_q57 {Lg a b : Nat} : ∀ q ∈ (bz_t57.drop a).take b, (bz_Pg Lg true).2.2.2.1 57 q.1 = some q.2 := fun q hq => bz_tab_at (m := 57) (q := q) (by decide) (List.mem_of_mem_drop (l := bz_t57) (List.mem_of_mem_take hq))
theorem bz_r58 {Lg i pc : Nat} {e : bz_E} (h : bz_t58[i]? = some (pc, e)) : (bz_Pg Lg true).2.2.2.1 58 pc = some e := bz_tab_at (m := 58) (q := (pc, e)) (by decide) (List.mem_of_getElem? (l := bz_t58) h)
theorem bz_q58 {Lg a b : Nat} : ∀ q ∈ (bz_t58.drop a).take b, (bz_Pg Lg true).2.2.2.1 58 q.1 = some q.2 := fun q hq => bz_tab_at (m := 58) (q := q) (by decide) (List.mem_of_mem_drop (l := bz_t58) (List.mem_of_mem_take hq))
theorem bz_r59 {Lg i pc : Nat} {e : bz_E} (h : bz_t59[i]? = some (pc, e)) : (bz_Pg Lg true).2.2.2.1 59 pc = some e := bz_tab_at (m := 59) (q := (pc, e)) (by decide) (List.mem_of_getElem? (l := bz_t59) h)
theorem bz_q59 {Lg a b : Nat} : ∀ q ∈ (bz_t59.drop a).take b, (bz_Pg Lg true).2.2.2.1 59 q.1 = some q.2 := fun q hq => bz_tab_at (m := 59) (q := q) (by decide) (List.mem_of_mem_drop (l := bz_t59) (List.mem_of_mem_take hq))
theorem bz_r60 {Lg i pc : Nat} {e : bz_E} (h : bz_t60[i]? = some (pc, e)) : (bz_Pg Lg true).2.2.2.1 60 pc = some e := bz_tab_at (m := 60) (q := (pc, e)) (by decide) (List.mem_of_getElem? (l := bz_t60) h)
theorem bz_q60 {Lg a b : Nat} : ∀ q ∈ (bz_t60.drop a).take b, (bz_Pg Lg true).2.2.2.1 60 q.1 = some q.2 := fun q hq => bz_tab_at (m := 60) (q := q) (by decide) (List.mem_of_mem_drop (l := bz_t60) (List.mem_of_mem_take hq))
theorem bz_r61 {Lg i pc : Nat} {e : bz_E} (h : bz_t61[i]? = some (pc, e)) : (bz_Pg Lg true).2.2.2.1 61 pc = some e := bz_tab_at (m := 61) (q := (pc, e)) (by decide) (List.mem_of_getElem? (l := bz_t61) h)
theorem bz_q61 {Lg a b : Nat} : ∀ q ∈ (bz_t61.drop a).take b, (bz_Pg Lg true).2.2.2.1 61 q.1 = some q.2 := fun q hq => bz_tab_at (m := 61) (q := q) (by decide) (List.mem_of_mem_drop (l := bz_t61) (List.mem_of_mem_take hq))
theorem bz_r62 {Lg i pc : Nat} {e : bz_E} (h : bz_t62[i]? = some (pc, e)) : (bz_Pg Lg true).2.2.2.1 62 pc = some e := bz_tab_at (m := 62) (q := (pc, e)) (by decide) (List.mem_of_getElem? (l := bz_t62) h)
theorem bz_q62 {Lg a b : Nat} : ∀ q ∈ (bz_t62.drop a).take b, (bz_Pg Lg true).2.2.2.1 62 q.1 = some q.2 := fun q hq => bz_tab_at (m := 62) (q := q) (by decide) (List.mem_of_mem_drop (l := bz_t62) (List.mem_of_mem_take hq))
theorem bz_r63 {Lg i pc : Nat} {e : bz_E} (h : bz_t63[i]? = some (pc, e)) : (bz_Pg Lg true).2.2.2.1 63 pc = some e := bz_tab_at (m := 63) (q := (pc, e)) (by decide) (List.mem_of_getElem? (l := bz_t63) h)
theorem bz_q63 {Lg a b : Nat} : ∀ q ∈ (bz_t63.drop a).take b, (bz_Pg Lg true).2.2.2.1 63 q.1 = some q.2 := fun q hq => bz_tab_at (m := 63) (q := q) (by decide) (List.mem_of_mem_drop (l := bz_t63) (List.mem_of_mem_take hq))
theorem bz_r64 {Lg i pc : Nat} {e : bz_E} (h : bz_t64[i]? = some (pc, e)) : (bz_Pg Lg true).2.2.2.1 64 pc = some e := bz_tab_at (m := 64) (q := (pc, e)) (by decide) (List.mem_of_getElem? (l := bz_t64) h)
theorem bz_q64 {Lg a b : Nat} : ∀ q ∈ (bz_t64.drop a).take b, (bz_Pg Lg true).2.2.2.1 64 q.1 = some q.2 := fun q hq => bz_tab_at (m := 64) (q := q) (by decide) (List.mem_of_mem_drop (l := bz_t64) (List.mem_of_mem_take hq))
theorem bz_r65 {Lg i pc : Nat} {e : bz_E} (h : bz_t65[i]? = some (pc, e)) : (bz_Pg Lg true).2.2.2.1 65 pc = some e := bz_tab_at (m := 65) (q := (pc, e)) (by decide) (List.mem_of_getElem? (l := bz_t65) h)
theorem bz_q65 {Lg a b : Nat} : ∀ q ∈ (bz_t65.drop a).take b, (bz_Pg Lg true).2.2.2.1 65 q.1 = some q.2 := fun q hq => bz_tab_at (m := 65) (q := q) (by decide) (List.mem_of_mem_drop (l := bz_t65) (List.mem_of_mem_take hq))
theorem bz_r66 {Lg i pc : Nat} {e : bz_E} (h : bz_t66[i]? = some (pc, e)) : (bz_Pg Lg true).2.2.2.1 66 pc = some e := bz_tab_at (m := 66) (q := (pc, e)) (by decide) (List.mem_of_getElem? (l := bz_t66) h)
theorem bz_q66 {Lg a b : Nat} : ∀ q ∈ (bz_t66.drop a).take b, (bz_Pg Lg true).2.2.2.1 66 q.1 = some q.2 := fun q hq => bz_tab_at (m := 66) (q := q) (by decide) (List.mem_of_mem_drop (l := bz_t66) (List.mem_of_mem_take hq))
theorem bz_r67 {Lg i pc : Nat} {e : bz_E} (h : bz_t67[i]? = some (pc, e)) : (bz_Pg Lg true).2.2.2.1 67 pc = some e := bz_tab_at (m := 67) (q := (pc, e)) (by decide) (List.mem_of_getElem? (l := bz_t67) h)
theorem bz_q67 {Lg a b : Nat} : ∀ q ∈ (bz_t67.drop a).take b, (bz_Pg Lg true).2.2.2.1 67 q.1 = some q.2 := fun q hq => bz_tab_at (m := 67) (q := q) (by decide) (List.mem_of_mem_drop (l := bz_t67) (List.mem_of_mem_take hq))
theorem bz_r68 {Lg i pc : Nat} {e : bz_E} (h : bz_t68[i]? = some (pc, e)) : (bz_Pg Lg true).2.2.2.1 68 pc = some e := bz_tab_at (m := 68) (q := (pc, e)) (by decide) (List.mem_of_getElem? (l := bz_t68) h)
theorem bz_q68 {Lg a b : Nat} : ∀ q ∈ (bz_t68.drop a).take b, (bz_Pg Lg true).2.2.2.1 68 q.1 = some q.2 := fun q hq => bz_tab_at (m := 68) (q := q) (by decide) (List.mem_of_mem_drop (l := bz_t68) (List.mem_of_mem_take hq))
theorem bz_r69 {Lg i pc : Nat} {e : bz_E} (h : bz_t69[i]? = some (pc, e)) : (bz_Pg Lg true).2.2.2.1 69 pc = some e := bz_tab_at (m := 69) (q := (pc, e)) (by decide) (List.mem_of_getElem? (l := bz_t69) h)
theorem bz_q69 {Lg a b : Nat} : ∀ q ∈ (bz_t69.drop a).take b, (bz_Pg Lg true).2.2.2.1 69 q.1 = some q.2 := fun q hq => bz_tab_at (m := 69) (q := q) (by decide) (List.mem_of_mem_drop (l := bz_t69) (List.mem_of_mem_take hq))
theorem bz_r70 {Lg i pc : Nat} {e : bz_E} (h : bz_t70[i]? = some (pc, e)) : (bz_Pg Lg true).2.2.2.1 70 pc = some e := bz_tab_at (m := 70) (q := (pc, e)) (by decide) (List.mem_of_getElem? (l := bz_t70) h)
theorem bz_q70 {Lg a b : Nat} : ∀ q ∈ (bz_t70.drop a).take b, (bz_Pg Lg true).2.2.2.1 70 q.1 = some q.2 := fun q hq => bz_tab_at (m := 70) (q := q) (by decide) (List.mem_of_mem_drop (l := bz_t70) (List.mem_of_mem_take hq))
theorem bz_r71 {Lg i pc : Nat} {e : bz_E} (h : bz_t71[i]? = some (pc, e)) : (bz_Pg Lg true).2.2.2.1 71 pc = some e := bz_tab_at (m := 71) (q := (pc, e)) (by decide) (List.mem_of_getElem? (l := bz_t71) h)
theorem bz_q71 {Lg a b : Nat} : ∀ q ∈ (bz_t71.drop a).take b, (bz_Pg Lg true).2.2.2.1 71 q.1 = some q.2 := fun q hq => bz_tab_at (m := 71) (q := q) (by decide) (List.mem_of_mem_drop (l := bz_t71) (List.mem_of_mem_take hq))
theorem bz_r72 {Lg i pc : Nat} {e : bz_E} (h : bz_t72[i]? = some (pc, e)) : (bz_Pg Lg true).2.2.2.1 72 pc = some e := bz_tab_at (m := 72) (q := (pc, e)) (by decide) (List.mem_of_getElem? (l := bz_t72) h)
theorem bz_q72 {Lg a b : Nat} : ∀ q ∈ (bz_t72.drop a).take b, (bz_Pg Lg true).2.2.2.1 72 q.1 = some q.2 := fun q hq => bz_tab_at (m := 72) (q := q) (by decide) (List.mem_of_mem_drop (l := bz_t72) (List.mem_of_mem_take hq))
theorem bz_r74 {Lg i pc : Nat} {e : bz_E} (h : bz_t74[i]? = some (pc, e)) : (bz_Pg Lg true).2.2.2.1 74 pc = some e := bz_tab_at (m := 74) (q := (pc, e)) (by decide) (List.mem_of_getElem? (l := bz_t74) h)
theorem bz_q74 {Lg a b : Nat} : ∀ q ∈ (bz_t74.drop a).take b, (bz_Pg Lg true).2.2.2.1 74 q.1 = some q.2 := fun q hq => bz_tab_at (m := 74) (q := q) (by decide) (List.mem_of_mem_drop (l := bz_t74) (List.mem_of_mem_take hq))
theorem bz_r75 {Lg i pc : Nat} {e : bz_E} (h : bz_t75[i]? = some (pc, e)) : (bz_Pg Lg true).2.2.2.1 75 pc = some e := bz_tab_at (m := 75) (q := (pc, e)) (by decide) (List.mem_of_getElem? (l := bz_t75) h)
theorem bz_q75 {Lg a b : Nat} : ∀ q ∈ (bz_t75.drop a).take b, (bz_Pg Lg true).2.2.2.1 75 q.1 = some q.2 := fun q hq => bz_tab_at (m := 75) (q := q) (by decide) (List.mem_of_mem_drop (l := bz_t75) (List.mem_of_mem_take hq))
theorem bz_r76 {Lg i pc : Nat} {e : bz_E} (h : bz_t76[i]? = some (pc, e)) : (bz_Pg Lg true).2.2.2.1 76 pc = some e := bz_tab_at (m := 76) (q := (pc, e)) (by decide) (List.mem_of_getElem? (l := bz_t76) h)
theorem bz_q76 {Lg a b : Nat} : ∀ q ∈ (bz_t76.drop a).take b, (bz_Pg Lg true).2.2.2.1 76 q.1 = some q.2 := fun q hq => bz_tab_at (m := 76) (q := q) (by decide) (List.mem_of_mem_drop (l := bz_t76) (List.mem_of_mem_take hq))
theorem bz_r77 {Lg i pc : Nat} {e : bz_E} (h : bz_t77[i]? = some (pc, e)) : (bz_Pg Lg true).2.2.2.1 77 pc = some e := bz_tab_at (m := 77) (q := (pc, e)) (by decide) (List.mem_of_getElem? (l := bz_t77) h)
theorem bz_q77 {Lg a b : Nat} : ∀ q ∈ (bz_t77.drop a).take b, (bz_Pg Lg true).2.2.2.1 77 q.1 = some q.2 := fun q hq => bz_tab_at (m := 77) (q := q) (by decide) (List.mem_of_mem_drop (l := bz_t77) (List.mem_of_mem_take hq))
theorem bz_r78 {Lg i pc : Nat} {e : bz_E} (h : bz_t78[i]? = some (pc, e)) : (bz_Pg Lg true).2.2.2.1 78 pc = some e := bz_tab_at (m := 78) (q := (pc, e)) (by decide) (List.mem_of_getElem? (l := bz_t78) h)
theorem bz_q78 {Lg a b : Nat} : ∀ q ∈ (bz_t78.drop a).take b, (bz_Pg Lg true).2.2.2.1 78 q.1 = some q.2 := fun q hq => bz_tab_at (m := 78) (q := q) (by decide) (List.mem_of_mem_drop (l := bz_t78) (List.mem_of_mem_take hq))
theorem bz_r79 {Lg i pc : Nat} {e : bz_E} (h : bz_t79[i]? = some (pc, e)) : (bz_Pg Lg true).2.2.2.1 79 pc = some e := bz_tab_at (m := 79) (q := (pc, e)) (by decide) (List.mem_of_getElem? (l := bz_t79) h)
theorem bz_q79 {Lg a b : Nat} : ∀ q ∈ (bz_t79.drop a).take b, (bz_Pg Lg true).2.2.2.1 79 q.1 = some q.2 := fun q hq => bz_tab_at (m := 79) (q := q) (by decide) (List.mem_of_mem_drop (l := bz_t79) (List.mem_of_mem_take hq))
theorem bz_r80 {Lg i pc : Nat} {e : bz_E} (h : bz_t80[i]? = some (pc, e)) : (bz_Pg Lg true).2.2.2.1 80 pc = some e := bz_tab_at (m := 80) (q := (pc, e)) (by decide) (List.mem_of_getElem? (l := bz_t80) h)
theorem bz_q80 {Lg a b : Nat} : ∀ q ∈ (bz_t80.drop a).take b, (bz_Pg Lg true).2.2.2.1 80 q.1 = some q.2 := fun q hq => bz_tab_at (m := 80) (q := q) (by decide) (List.mem_of_mem_drop (l := bz_t80) (List.mem_of_mem_take hq))
theorem bz_r81 {Lg i pc : Nat} {e : bz_E} (h : bz_t81[i]? = some (pc, e)) : (bz_Pg Lg true).2.2.2.1 81 pc = some e := bz_tab_at (m := 81) (q := (pc, e)) (by decide) (List.mem_of_getElem? (l := bz_t81) h)
theorem bz_q81 {Lg a b : Nat} : ∀ q ∈ (bz_t81.drop a).take b, (bz_Pg Lg true).2.2.2.1 81 q.1 = some q.2 := fun q hq => bz_tab_at (m := 81) (q := q) (by decide) (List.mem_of_mem_drop (l := bz_t81) (List.mem_of_mem_take hq))
theorem bz_r82 {Lg i pc : Nat} {e : bz_E} (h : bz_t82[i]? = some (pc, e)) : (bz_Pg Lg true).2.2.2.1 82 pc = some e := bz_tab_at (m := 82) (q := (pc, e)) (by decide) (List.mem_of_getElem? (l := bz_t82) h)
theorem bz_q82 {Lg a b : Nat} : ∀ q ∈ (bz_t82.drop a).take b, (bz_Pg Lg true).2.2.2.1 82 q.1 = some q.2 := fun q hq => bz_tab_at (m := 82) (q := q) (by decide) (List.mem_of_mem_drop (l := bz_t82) (List.mem_of_mem_take hq))
theorem bz_r83 {Lg i pc : Nat} {e : bz_E} (h : bz_t83[i]? = some (pc, e)) : (bz_Pg Lg true).2.2.2.1 83 pc = some e := bz_tab_at (m := 83) (q := (pc, e)) (by decide) (List.mem_of_getElem? (l := bz_t83) h)
theorem bz_q83 {Lg a b : Nat} : ∀ q ∈ (bz_t83.drop a).take b, (bz_Pg Lg true).2.2.2.1 83 q.1 = some q.2 := fun q hq => bz_tab_at (m := 83) (q := q) (by decide) (List.mem_of_mem_drop (l := bz_t83) (List.mem_of_mem_take hq))
theorem bz_r85 {Lg i pc : Nat} {e : bz_E} (h : bz_t85[i]? = some (pc, e)) : (bz_Pg Lg true).2.2.2.1 85 pc = some e := bz_tab_at (m := 85) (q := (pc, e)) (by decide) (List.mem_of_getElem? (l := bz_t85) h)
theorem bz_q85 {Lg a b : Nat} : ∀ q ∈ (bz_t85.drop a).take b, (bz_Pg Lg true).2.2.2.1 85 q.1 = some q.2 := fun q hq => bz_tab_at (m := 85) (q := q) (by decide) (List.mem_of_mem_drop (l := bz_t85) (List.mem_of_mem_take hq))
theorem bz_r86 {Lg i pc : Nat} {e : bz_E} (h : bz_t86[i]? = some (pc, e)) : (bz_Pg Lg true).2.2.2.1 86 pc = some e := bz_tab_at (m := 86) (q := (pc, e)) (by decide) (List.mem_of_getElem? (l := bz_t86) h)
theorem bz_q86 {Lg a b : Nat} : ∀ q ∈ (bz_t86.drop a).take b, (bz_Pg Lg true).2.2.2.1 86 q.1 = some q.2 := fun q hq => bz_tab_at (m := 86) (q := q) (by decide) (List.mem_of_mem_drop (l := bz_t86) (List.mem_of_mem_take hq))
theorem bz_r87 {Lg i pc : Nat} {e : bz_E} (h : bz_t87[i]? = some (pc, e)) : (bz_Pg Lg true).2.2.2.1 87 pc = some e := bz_tab_at (m := 87) (q := (pc, e)) (by decide) (List.mem_of_getElem? (l := bz_t87) h)
theorem bz_q87 {Lg a b : Nat} : ∀ q ∈ (bz_t87.drop a).take b, (bz_Pg Lg true).2.2.2.1 87 q.1 = some q.2 := fun q hq => bz_tab_at (m := 87) (q := q) (by decide) (List.mem_of_mem_drop (l := bz_t87) (List.mem_of_mem_take hq))
theorem bz_r88 {Lg i pc : Nat} {e : bz_E} (h : bz_t88[i]? = some (pc, e)) : (bz_Pg Lg true).2.2.2.1 88 pc = some e := bz_tab_at (m := 88) (q := (pc, e)) (by decide) (List.mem_of_getElem? (l := bz_t88) h)
theorem bz_q88 {Lg a b : Nat} : ∀ q ∈ (bz_t88.drop a).take b, (bz_Pg Lg true).2.2.2.1 88 q.1 = some q.2 := fun q hq => bz_tab_at (m := 88) (q := q) (by decide) (List.mem_of_mem_drop (l := bz_t88) (List.mem_of_mem_take hq))
theorem bz_r89 {Lg i pc : Nat} {e : bz_E} (h : bz_t89[i]? = some (pc, e)) : (bz_Pg Lg true).2.2.2.1 89 pc = some e := bz_tab_at (m := 89) (q := (pc, e)) (by decide) (List.mem_of_getElem? (l := bz_t89) h)
theorem bz_q89 {Lg a b : Nat} : ∀ q ∈ (bz_t89.drop a).take b, (bz_Pg Lg true).2.2.2.1 89 q.1 = some q.2 := fun q hq => bz_tab_at (m := 89) (q := q) (by decide) (List.mem_of_mem_drop (l := bz_t89) (List.mem_of_mem_take hq))
theorem bz_r90 {Lg i pc : Nat} {e : bz_E} (h : bz_t90[i]? = some (pc, e)) : (bz_Pg Lg true).2.2.2.1 90 pc = some e := bz_tab_at (m := 90) (q := (pc, e)) (by decide) (List.mem_of_getElem? (l := bz_t90) h)
theorem bz_q90 {Lg a b : Nat} : ∀ q ∈ (bz_t90.drop a).take b, (bz_Pg Lg true).2.2.2.1 90 q.1 = some q.2 := fun q hq => bz_tab_at (m := 90) (q := q) (by decide) (List.mem_of_mem_drop (l := bz_t90) (List.mem_of_mem_take hq))
theorem bz_r91 {Lg i pc : Nat} {e : bz_E} (h : bz_t91[i]? = some (pc, e)) : (bz_Pg Lg true).2.2.2.1 91 pc = some e := bz_tab_at (m := 91) (q := (pc, e)) (by decide) (List.mem_of_getElem? (l := bz_t91) h)
theorem bz_q91 {Lg a b : Nat} : ∀ q ∈ (bz_t91.drop a).take b, (bz_Pg Lg true).2.2.2.1 91 q.1 = some q.2 := fun q hq => bz_tab_at (m := 91) (q := q) (by decide) (List.mem_of_mem_drop (l := bz_t91) (List.mem_of_mem_take hq))
theorem bz_r92 {Lg i pc : Nat} {e : bz_E} (h : bz_t92[i]? = some (pc, e)) : (bz_Pg Lg true).2.2.2.1 92 pc = some e := bz_tab_at (m := 92) (q := (pc, e)) (by decide) (List.mem_of_getElem? (l := bz_t92) h)
theorem bz_q92 {Lg a b : Nat} : ∀ q ∈ (bz_t92.drop a).take b, (bz_Pg Lg true).2.2.2.1 92 q.1 = some q.2 := fun q hq => bz_tab_at (m := 92) (q := q) (by decide) (List.mem_of_mem_drop (l := bz_t92) (List.mem_of_mem_take hq))
theorem bz_r93 {Lg i pc : Nat} {e : bz_E} (h : bz_t93[i]? = some (pc, e)) : (bz_Pg Lg true).2.2.2.1 93 pc = some e := bz_tab_at (m := 93) (q := (pc, e)) (by decide) (List.mem_of_getElem? (l := bz_t93) h)
theorem bz_q93 {Lg a b : Nat} : ∀ q ∈ (bz_t93.drop a).take b, (bz_Pg Lg true).2.2.2.1 93 q.1 = some q.2 := fun q hq => bz_tab_at (m := 93) (q := q) (by decide) (List.mem_of_mem_drop (l := bz_t93) (List.mem_of_mem_take hq))
theorem bz_r94 {Lg i pc : Nat} {e : bz_E} (h : bz_t94[i]? = some (pc, e)) : (bz_Pg Lg true).2.2.2.1 94 pc = some e := bz_tab_at (m := 94) (q := (pc, e)) (by decide) (List.mem_of_getElem? (l := bz_t94) h)
theorem bz_q94 {Lg a b : Nat} : ∀ q ∈ (bz_t94.drop a).take b, (bz_Pg Lg true).2.2.2.1 94 q.1 = some q.2 := fun q hq => bz_tab_at (m := 94) (q := q) (by decide) (List.mem_of_mem_drop (l := bz_t94) (List.mem_of_mem_take hq))
theorem bz_r95 {Lg i pc : Nat} {e : bz_E} (h : bz_t95[i]? = some (pc, e)) : (bz_Pg Lg true).2.2.2.1 95 pc = some e := bz_tab_at (m := 95) (q := (pc, e)) (by decide) (List.mem_of_getElem? (l := bz_t95) h)
theorem bz_q95 {Lg a b : Nat} : ∀ q ∈ (bz_t95.drop a).take b, (bz_Pg Lg true).2.2.2.1 95 q.1 = some q.2 := fun q hq => bz_tab_at (m := 95) (q := q) (by decide) (List.mem_of_mem_drop (l := bz_t95) (List.mem_of_mem_take hq))
theorem bz_r96 {Lg i pc : Nat} {e : bz_E} (h : bz_t96[i]? = some (pc, e)) : (bz_Pg Lg true).2.2.2.1 96 pc = some e := bz_tab_at (m := 96) (q := (pc, e)) (by decide) (List.mem_of_getElem? (l := bz_t96) h)
theorem bz_q96 {Lg a b : Nat} : ∀ q ∈ (bz_t96.drop a).take b, (bz_Pg Lg true).2.2.2.1 96 q.1 = some q.2 := fun q hq => bz_tab_at (m := 96) (q := q) (by decide) (List.mem_of_mem_drop (l := bz_t96) (List.mem_of_mem_take hq))
theorem bz_r97 {Lg i pc : Nat} {e : bz_E} (h : bz_t97[i]? = some (pc, e)) : (bz_Pg Lg true).2.2.2.1 97 pc = some e := bz_tab_at (m := 97) (q := (pc, e)) (by decide) (List.mem_of_getElem? (l := bz_t97) h)
theorem bz_q97 {Lg a b : Nat} : ∀ q ∈ (bz_t97.drop a).take b, (bz_Pg Lg true).2.2.2.1 97 q.1 = some q.2 := fun q hq => bz_tab_at (m := 97) (q := q) (by decide) (List.mem_of_mem_drop (l := bz_t97) (List.mem_of_mem_take hq))
theorem bz_r99 {Lg i pc : Nat} {e : bz_E} (h : bz_t99[i]? = some (pc, e)) : (bz_Pg Lg true).2.2.2.1 99 pc = some e := bz_tab_at (m := 99) (q := (pc, e)) (by decide) (List.mem_of_getElem? (l := bz_t99) h)
theorem bz_q99 {Lg a b : Nat} : ∀ q ∈ (bz_t99.drop a).take b, (bz_Pg Lg true).2.2.2.1 99 q.1 = some q.2 := fun q hq => bz_tab_at (m := 99) (q := q) (by decide) (List.mem_of_mem_drop (l := bz_t99) (List.mem_of_mem_take hq))
theorem bz_r100 {Lg i pc : Nat} {e : bz_E} (h : bz_t100[i]? = some (pc, e)) : (bz_Pg Lg true).2.2.2.1 100 pc = some e := bz_tab_at (m := 100) (q := (pc, e)) (by decide) (List.mem_of_getElem? (l := bz_t100) h)
theorem bz_q100 {Lg a b : Nat} : ∀ q ∈ (bz_t100.drop a).take b, (bz_Pg Lg true).2.2.2.1 100 q.1 = some q.2 := fun q hq => bz_tab_at (m := 100) (q := q) (by decide) (List.mem_of_mem_drop (l := bz_t100) (List.mem_of_mem_take hq))
theorem bz_r101 {Lg i pc : Nat} {e : bz_E} (h : bz_t101[i]? = some (pc, e)) : (bz_Pg Lg true).2.2.2.1 101 pc = some e := bz_tab_at (m := 101) (q := (pc, e)) (by decide) (List.mem_of_getElem? (l := bz_t101) h)
theorem bz_q101 {Lg a b : Nat} : ∀ q ∈ (bz_t101.drop a).take b, (bz_Pg Lg true).2.2.2.1 101 q.1 = some q.2 := fun q hq => bz_tab_at (m := 101) (q := q) (by decide) (List.mem_of_mem_drop (l := bz_t101) (List.mem_of_mem_take hq))
theorem bz_r102 {Lg i pc : Nat} {e : bz_E} (h : bz_t102[i]? = some (pc, e)) : (bz_Pg Lg true).2.2.2.1 102 pc = some e := bz_tab_at (m := 102) (q := (pc, e)) (by decide) (List.mem_of_getElem? (l := bz_t102) h)
theorem bz_q102 {Lg a b : Nat} : ∀ q ∈ (bz_t102.drop a).take b, (bz_Pg Lg true).2.2.2.1 102 q.1 = some q.2 := fun q hq => bz_tab_at (m := 102) (q := q) (by decide) (List.mem_of_mem_drop (l := bz_t102) (List.mem_of_mem_take hq))
theorem bz_r103 {Lg i pc : Nat} {e : bz_E} (h : bz_t103[i]? = some (pc, e)) : (bz_Pg Lg true).2.2.2.1 103 pc = some e := bz_tab_at (m := 103) (q := (pc, e)) (by decide) (List.mem_of_getElem? (l := bz_t103) h)
theorem bz_q103 {Lg a b : Nat} : ∀ q ∈ (bz_t103.drop a).take b, (bz_Pg Lg true).2.2.2.1 103 q.1 = some q.2 := fun q hq => bz_tab_at (m := 103) (q := q) (by decide) (List.mem_of_mem_drop (l := bz_t103) (List.mem_of_mem_take hq))
theorem bz_r104 {Lg i pc : Nat} {e : bz_E} (h : bz_t104[i]? = some (pc, e)) : (bz_Pg Lg true).2.2.2.1 104 pc = some e := bz_tab_at (m := 104) (q := (pc, e)) (by decide) (List.mem_of_getElem? (l := bz_t104) h)
theorem bz_q104 {Lg a b : Nat} : ∀ q ∈ (bz_t104.drop a).take b, (bz_Pg Lg true).2.2.2.1 104 q.1 = some q.2 := fun q hq => bz_tab_at (m := 104) (q := q) (by decide) (List.mem_of_mem_drop (l := bz_t104) (List.mem_of_mem_take hq))
theorem bz_r105 {Lg i pc : Nat} {e : bz_E} (h : bz_t105[i]? = some (pc, e)) : (bz_Pg Lg true).2.2.2.1 105 pc = some e := bz_tab_at (m := 105) (q := (pc, e)) (by decide) (List.mem_of_getElem? (l := bz_t105) h)
theorem bz_q105 {Lg a b : Nat} : ∀ q ∈ (bz_t105.drop a).take b, (bz_Pg Lg true).2.2.2.1 105 q.1 = some q.2 := fun q hq => bz_tab_at (m := 105) (q := q) (by decide) (List.mem_of_mem_drop (l := bz_t105) (List.mem_of_mem_take hq))
theorem bz_r106 {Lg i pc : Nat} {e : bz_E} (h : bz_t106[i]? = some (pc, e)) : (bz_Pg Lg true).2.2.2.1 106 pc = some e := bz_tab_at (m := 106) (q := (pc, e)) (by decide) (List.mem_of_getElem? (l := bz_t106) h)
theorem bz_q106 {Lg a b : Nat} : ∀ q ∈ (bz_t106.drop a).take b, (bz_Pg Lg true).2.2.2.1 106 q.1 = some q.2 := fun q hq => bz_tab_at (m := 106) (q := q) (by decide) (List.mem_of_mem_drop (l := bz_t106) (List.mem_of_mem_take hq))
theorem bz_r107 {Lg i pc : Nat} {e : bz_E} (h : bz_t107[i]? = some (pc, e)) : (bz_Pg Lg true).2.2.2.1 107 pc = some e := bz_tab_at (m := 107) (q := (pc, e)) (by decide) (List.mem_of_getElem? (l := bz_t107) h)
theorem bz_q107 {Lg a b : Nat} : ∀ q ∈ (bz_t107.drop a).take b, (bz_Pg Lg true).2.2.2.1 107 q.1 = some q.2 := fun q hq => bz_tab_at (m := 107) (q := q) (by decide) (List.mem_of_mem_drop (l := bz_t107) (List.mem_of_mem_take hq))
theorem bz_r108 {Lg i pc : Nat} {e : bz_E} (h : bz_t108[i]? = some (pc, e)) : (bz_Pg Lg true).2.2.2.1 108 pc = some e := bz_tab_at (m := 108) (q := (pc, e)) (by decide) (List.mem_of_getElem? (l := bz_t108) h)
theorem bz_q108 {Lg a b : Nat} : ∀ q ∈ (bz_t108.drop a).take b, (bz_Pg Lg true).2.2.2.1 108 q.1 = some q.2 := fun q hq => bz_tab_at (m := 108) (q := q) (by decide) (List.mem_of_mem_drop (l := bz_t108) (List.mem_of_mem_take hq))
theorem bz_r110 {Lg i pc : Nat} {e : bz_E} (h : bz_t110[i]? = some (pc, e)) : (bz_Pg Lg true).2.2.2.1 110 pc = some e := bz_tab_at (m := 110) (q := (pc, e)) (by decide) (List.mem_of_getElem? (l := bz_t110) h)
theorem bz_q110 {Lg a b : Nat} : ∀ q ∈ (bz_t110.drop a).take b, (bz_Pg Lg true).2.2.2.1 110 q.1 = some q.2 := fun q hq => bz_tab_at (m := 110) (q := q) (by decide) (List.mem_of_mem_drop (l := bz_t110) (List.mem_of_mem_take hq))
theorem bz_r111 {Lg i pc : Nat} {e : bz_E} (h : bz_t111[i]? = some (pc, e)) : (bz_Pg Lg true).2.2.2.1 111 pc = some e := bz_tab_at (m := 111) (q := (pc, e)) (by decide) (List.mem_of_getElem? (l := bz_t111) h)
theorem bz_q111 {Lg a b : Nat} : ∀ q ∈ (bz_t111.drop a).take b, (bz_Pg Lg true).2.2.2.1 111 q.1 = some q.2 := fun q hq => bz_tab_at (m := 111) (q := q) (by decide) (List.mem_of_mem_drop (l := bz_t111) (List.mem_of_mem_take hq))
theorem bz_r112 {Lg i pc : Nat} {e : bz_E} (h : bz_t112[i]? = some (pc, e)) : (bz_Pg Lg true).2.2.2.1 112 pc = some e := bz_tab_at (m := 112) (q := (pc, e)) (by decide) (List.mem_of_getElem? (l := bz_t112) h)
theorem bz_q112 {Lg a b : Nat} : ∀ q ∈ (bz_t112.drop a).take b, (bz_Pg Lg true).2.2.2.1 112 q.1 = some q.2 := fun q hq => bz_tab_at (m := 112) (q := q) (by decide) (List.mem_of_mem_drop (l := bz_t112) (List.mem_of_mem_take hq))
theorem bz_r113 {Lg i pc : Nat} {e : bz_E} (h : bz_t113[i]? = some (pc, e)) : (bz_Pg Lg true).2.2.2.1 113 pc = some e := bz_tab_at (m := 113) (q := (pc, e)) (by decide) (List.mem_of_getElem? (l := bz_t113) h)
theorem bz_q113 {Lg a b : Nat} : ∀ q ∈ (bz_t113.drop a).take b, (bz_Pg Lg true).2.2.2.1 113 q.1 = some q.2 := fun q hq => bz_tab_at (m := 113) (q := q) (by decide) (List.mem_of_mem_drop (l := bz_t113) (List.mem_of_mem_take hq))
theorem bz_r114 {Lg i pc : Nat} {e : bz_E} (h : bz_t114[i]? = some (pc, e)) : (bz_Pg Lg true).2.2.2.1 114 pc = some e := bz_tab_at (m := 114) (q := (pc, e)) (by decide) (List.mem_of_getElem? (l := bz_t114) h)
theorem bz_q114 {Lg a b : Nat} : ∀ q ∈ (bz_t114.drop a).take b, (bz_Pg Lg true).2.2.2.1 114 q.1 = some q.2 := fun q hq => bz_tab_at (m := 114) (q := q) (by decide) (List.mem_of_mem_drop (l := bz_t114) (List.mem_of_mem_take hq))
theorem bz_r115 {Lg i pc : Nat} {e : bz_E} (h : bz_t115[i]? = some (pc, e)) : (bz_Pg Lg true).2.2.2.1 115 pc = some e := bz_tab_at (m := 115) (q := (pc, e)) (by decide) (List.mem_of_getElem? (l := bz_t115) h)
theorem bz_q115 {Lg a b : Nat} : ∀ q ∈ (bz_t115.drop a).take b, (bz_Pg Lg true).2.2.2.1 115 q.1 = some q.2 := fun q hq => bz_tab_at (m := 115) (q := q) (by decide) (List.mem_of_mem_drop (l := bz_t115) (List.mem_of_mem_take hq))
theorem bz_r116 {Lg i pc : Nat} {e : bz_E} (h : bz_t116[i]? = some (pc, e)) : (bz_Pg Lg true).2.2.2.1 116 pc = some e := bz_tab_at (m := 116) (q := (pc, e)) (by decide) (List.mem_of_getElem? (l := bz_t116) h)
theorem bz_q116 {Lg a b : Nat} : ∀ q ∈ (bz_t116.drop a).take b, (bz_Pg Lg true).2.2.2.1 116 q.1 = some q.2 := fun q hq => bz_tab_at (m := 116) (q := q) (by decide) (List.mem_of_mem_drop (l := bz_t116) (List.mem_of_mem_take hq))
theorem bz_r117 {Lg i pc : Nat} {e : bz_E} (h : bz_t117[i]? = some (pc, e)) : (bz_Pg Lg true).2.2.2.1 117 pc = some e := bz_tab_at (m := 117) (q := (pc, e)) (by decide) (List.mem_of_getElem? (l := bz_t117) h)
theorem bz_q117 {Lg a b : Nat} : ∀ q ∈ (bz_t117.drop a).take b, (bz_Pg Lg true).2.2.2.1 117 q.1 = some q.2 := fun q hq => bz_tab_at (m := 117) (q := q) (by decide) (List.mem_of_mem_drop (l := bz_t117) (List.mem_of_mem_take hq))
theorem bz_r118 {Lg i pc : Nat} {e : bz_E} (h : bz_t118[i]? = some (pc, e)) : (bz_Pg Lg true).2.2.2.1 118 pc = some e := bz_tab_at (m := 118) (q := (pc, e)) (by decide) (List.mem_of_getElem? (l := bz_t118) h)
theorem bz_q118 {Lg a b : Nat} : ∀ q ∈ (bz_t118.drop a).take b, (bz_Pg Lg true).2.2.2.1 118 q.1 = some q.2 := fun q hq => bz_tab_at (m := 118) (q := q) (by decide) (List.mem_of_mem_drop (l := bz_t118) (List.mem_of_mem_take hq))
theorem bz_r119 {Lg i pc : Nat} {e : bz_E} (h : bz_t119[i]? = some (pc, e)) : (bz_Pg Lg true).2.2.2.1 119 pc = some e := bz_tab_at (m := 119) (q := (pc, e)) (by decide) (List.mem_of_getElem? (l := bz_t119) h)
theorem bz_q119 {Lg a b : Nat} : ∀ q ∈ (bz_t119.drop a).take b, (bz_Pg Lg true).2.2.2.1 119 q.1 = some q.2 := fun q hq => bz_tab_at (m := 119) (q := q) (by decide) (List.mem_of_mem_drop (l := bz_t119) (List.mem_of_mem_take hq))
theorem bz_r120 {Lg i pc : Nat} {e : bz_E} (h : bz_t120[i]? = some (pc, e)) : (bz_Pg Lg true).2.2.2.1 120 pc = some e := bz_tab_at (m := 120) (q := (pc, e)) (by decide) (List.mem_of_getElem? (l := bz_t120) h)
theorem bz_q120 {Lg a b : Nat} : ∀ q ∈ (bz_t120.drop a).take b, (bz_Pg Lg true).2.2.2.1 120 q.1 = some q.2 := fun q hq => bz_tab_at (m := 120) (q := q) (by decide) (List.mem_of_mem_drop (l := bz_t120) (List.mem_of_mem_take hq))
theorem bz_r121 {Lg i pc : Nat} {e : bz_E} (h : bz_t121[i]? = some (pc, e)) : (bz_Pg Lg true).2.2.2.1 121 pc = some e := bz_tab_at (m := 121) (q := (pc, e)) (by decide) (List.mem_of_getElem? (l := bz_t121) h)
theorem bz_q121 {Lg a b : Nat} : ∀ q ∈ (bz_t121.drop a).take b, (bz_Pg Lg true).2.2.2.1 121 q.1 = some q.2 := fun q hq => bz_tab_at (m := 121) (q := q) (by decide) (List.mem_of_mem_drop (l := bz_t121) (List.mem_of_mem_take hq))
theorem bz_r122 {Lg i pc : Nat} {e : bz_E} (h : bz_t122[i]? = some (pc, e)) : (bz_Pg Lg true).2.2.2.1 122 pc = some e := bz_tab_at (m := 122) (q := (pc, e)) (by decide) (List.mem_of_getElem? (l := bz_t122) h)
theorem bz_q122 {Lg a b : Nat} : ∀ q ∈ (bz_t122.drop a).take b, (bz_Pg Lg true).2.2.2.1 122 q.1 = some q.2 := fun q hq => bz_tab_at (m := 122) (q := q) (by decide) (List.mem_of_mem_drop (l := bz_t122) (List.mem_of_mem_take hq))
theorem bz_r123 {Lg i pc : Nat} {e : bz_E} (h : bz_t123[i]? = some (pc, e)) : (bz_Pg Lg true).2.2.2.1 123 pc = some e := bz_tab_at (m := 123) (q := (pc, e)) (by decide) (List.mem_of_getElem? (l := bz_t123) h)
theorem bz_q123 {Lg a b : Nat} : ∀ q ∈ (bz_t123.drop a).take b, (bz_Pg Lg true).2.2.2.1 123 q.1 = some q.2 := fun q hq => bz_tab_at (m := 123) (q := q) (by decide) (List.mem_of_mem_drop (l := bz_t123) (List.mem_of_mem_take hq))
theorem bz_r124 {Lg i pc : Nat} {e : bz_E} (h : bz_t124[i]? = some (pc, e)) : (bz_Pg Lg true).2.2.2.1 124 pc = some e := bz_tab_at (m := 124) (q := (pc, e)) (by decide) (List.mem_of_getElem? (l := bz_t124) h)
theorem bz_q124 {Lg a b : Nat} : ∀ q ∈ (bz_t124.drop a).take b, (bz_Pg Lg true).2.2.2.1 124 q.1 = some q.2 := fun q hq => bz_tab_at (m := 124) (q := q) (by decide) (List.mem_of_mem_drop (l := bz_t124) (List.mem_of_mem_take hq))
theorem bz_r125 {Lg i pc : Nat} {e : bz_E} (h : bz_t125[i]? = some (pc, e)) : (bz_Pg Lg true).2.2.2.1 125 pc = some e := bz_tab_at (m := 125) (q := (pc, e)) (by decide) (List.mem_of_getElem? (l := bz_t125) h)
theorem bz_q125 {Lg a b : Nat} : ∀ q ∈ (bz_t125.drop a).take b, (bz_Pg Lg true).2.2.2.1 125 q.1 = some q.2 := fun q hq => bz_tab_at (m := 125) (q := q) (by decide) (List.mem_of_mem_drop (l := bz_t125) (List.mem_of_mem_take hq))
theorem bz_r126 {Lg i pc : Nat} {e : bz_E} (h : bz_t126[i]? = some (pc, e)) : (bz_Pg Lg true).2.2.2.1 126 pc = some e := bz_tab_at (m := 126) (q := (pc, e)) (by decide) (List.mem_of_getElem? (l := bz_t126) h)
theorem bz_q126 {Lg a b : Nat} : ∀ q ∈ (bz_t126.drop a).take b, (bz_Pg Lg true).2.2.2.1 126 q.1 = some q.2 := fun q hq => bz_tab_at (m := 126) (q := q) (by decide) (List.mem_of_mem_drop (l := bz_t126) (List.mem_of_mem_take hq))
theorem bz_r127 {Lg i pc : Nat} {e : bz_E} (h : bz_t127[i]? = some (pc, e)) : (bz_Pg Lg true).2.2.2.1 127 pc = some e := bz_tab_at (m := 127) (q := (pc, e)) (by decide) (List.mem_of_getElem? (l := bz_t127) h)
theorem bz_q127 {Lg a b : Nat} : ∀ q ∈ (bz_t127.drop a).take b, (bz_Pg Lg true).2.2.2.1 127 q.1 = some q.2 := fun q hq => bz_tab_at (m := 127) (q := q) (by decide) (List.mem_of_mem_drop (l := bz_t127) (List.mem_of_mem_take hq))
theorem bz_r128 {Lg i pc : Nat} {e : bz_E} (h : bz_t128[i]? = some (pc, e)) : (bz_Pg Lg true).2.2.2.1 128 pc = some e := bz_tab_at (m := 128) (q := (pc, e)) (by decide) (List.mem_of_getElem? (l := bz_t128) h)
theorem bz_q128 {Lg a b : Nat} : ∀ q ∈ (bz_t128.drop a).take b, (bz_Pg Lg true).2.2.2.1 128 q.1 = some q.2 := fun q hq => bz_tab_at (m := 128) (q := q) (by decide) (List.mem_of_mem_drop (l := bz_t128) (List.mem_of_mem_take hq))
theorem bz_r129 {Lg i pc : Nat} {e : bz_E} (h : bz_t129[i]? = some (pc, e)) : (bz_Pg Lg true).2.2.2.1 129 pc = some e := bz_tab_at (m := 129) (q := (pc, e)) (by decide) (List.mem_of_getElem? (l := bz_t129) h)
theorem bz_q129 {Lg a b : Nat} : ∀ q ∈ (bz_t129.drop a).take b, (bz_Pg Lg true).2.2.2.1 129 q.1 = some q.2 := fun q hq => bz_tab_at (m := 129) (q := q) (by decide) (List.mem_of_mem_drop (l := bz_t129) (List.mem_of_mem_take hq))
theorem bz_r130 {Lg i pc : Nat} {e : bz_E} (h : bz_t130[i]? = some (pc, e)) : (bz_Pg Lg true).2.2.2.1 130 pc = some e := bz_tab_at (m := 130) (q := (pc, e)) (by decide) (List.mem_of_getElem? (l := bz_t130) h)
theorem bz_q130 {Lg a b : Nat} : ∀ q ∈ (bz_t130.drop a).take b, (bz_Pg Lg true).2.2.2.1 130 q.1 = some q.2 := fun q hq => bz_tab_at (m := 130) (q := q) (by decide) (List.mem_of_mem_drop (l := bz_t130) (List.mem_of_mem_take hq))
theorem bz_r131 {Lg i pc : Nat} {e : bz_E} (h : bz_t131[i]? = some (pc, e)) : (bz_Pg Lg true).2.2.2.1 131 pc = some e := bz_tab_at (m := 131) (q := (pc, e)) (by decide) (List.mem_of_getElem? (l := bz_t131) h)
theorem bz_q131 {Lg a b : Nat} : ∀ q ∈ (bz_t131.drop a).take b, (bz_Pg Lg true).2.2.2.1 131 q.1 = some q.2 := fun q hq => bz_tab_at (m := 131) (q := q) (by decide) (List.mem_of_mem_drop (l := bz_t131) (List.mem_of_mem_take hq))
theorem bz_r132 {Lg i pc : Nat} {e : bz_E} (h : bz_t132[i]? = some (pc, e)) : (bz_Pg Lg true).2.2.2.1 132 pc = some e := bz_tab_at (m := 132) (q := (pc, e)) (by decide) (List.mem_of_getElem? (l := bz_t132) h)
theorem bz_q132 {Lg a b : Nat} : ∀ q ∈ (bz_t132.drop a).take b, (bz_Pg Lg true).2.2.2.1 132 q.1 = some q.2 := fun q hq => bz_tab_at (m := 132) (q := q) (by decide) (List.mem_of_mem_drop (l := bz_t132) (List.mem_of_mem_take hq))
theorem bz_r133 {Lg i pc : Nat} {e : bz_E} (h : bz_t133[i]? = some (pc, e)) : (bz_Pg Lg true).2.2.2.1 133 pc = some e := bz_tab_at (m := 133) (q := (pc, e)) (by decide) (List.mem_of_getElem? (l := bz_t133) h)
theorem bz_q133 {Lg a b : Nat} : ∀ q ∈ (bz_t133.drop a).take b, (bz_Pg Lg true).2.2.2.1 133 q.1 = some q.2 := fun q hq => bz_tab_at (m := 133) (q := q) (by decide) (List.mem_of_mem_drop (l := bz_t133) (List.mem_of_mem_take hq))
theorem bz_r134 {Lg i pc : Nat} {e : bz_E} (h : bz_t134[i]? = some (pc, e)) : (bz_Pg Lg true).2.2.2.1 134 pc = some e := bz_tab_at (m := 134) (q := (pc, e)) (by decide) (List.mem_of_getElem? (l := bz_t134) h)
theorem bz_q134 {Lg a b : Nat} : ∀ q ∈ (bz_t134.drop a).take b, (bz_Pg Lg true).2.2.2.1 134 q.1 = some q.2 := fun q hq => bz_tab_at (m := 134) (q := q) (by decide) (List.mem_of_mem_drop (l := bz_t134) (List.mem_of_mem_take hq))
theorem bz_r135 {Lg i pc : Nat} {e : bz_E} (h : bz_t135[i]? = some (pc, e)) : (bz_Pg Lg true).2.2.2.1 135 pc = some e := bz_tab_at (m := 135) (q := (pc, e)) (by decide) (List.mem_of_getElem? (l := bz_t135) h)
theorem bz_q135 {Lg a b : Nat} : ∀ q ∈ (bz_t135.drop a).take b, (bz_Pg Lg true).2.2.2.1 135 q.1 = some q.2 := fun q hq => bz_tab_at (m := 135) (q := q) (by decide) (List.mem_of_mem_drop (l := bz_t135) (List.mem_of_mem_take hq))
theorem bz_r136 {Lg i pc : Nat} {e : bz_E} (h : bz_t136[i]? = some (pc, e)) : (bz_Pg Lg true).2.2.2.1 136 pc = some e := bz_tab_at (m := 136) (q := (pc, e)) (by decide) (List.mem_of_getElem? (l := bz_t136) h)
theorem bz_q136 {Lg a b : Nat} : ∀ q ∈ (bz_t136.drop a).take b, (bz_Pg Lg true).2.2.2.1 136 q.1 = some q.2 := fun q hq => bz_tab_at (m := 136) (q := q) (by decide) (List.mem_of_mem_drop (l := bz_t136) (List.mem_of_mem_take hq))
theorem bz_r137 {Lg i pc : Nat} {e : bz_E} (h : bz_t137[i]? = some (pc, e)) : (bz_Pg Lg true).2.2.2.1 137 pc = some e := bz_tab_at (m := 137) (q := (pc, e)) (by decide) (List.mem_of_getElem? (l := bz_t137) h)
theorem bz_q137 {Lg a b : Nat} : ∀ q ∈ (bz_t137.drop a).take b, (bz_Pg Lg true).2.2.2.1 137 q.1 = some q.2 := fun q hq => bz_tab_at (m := 137) (q := q) (by decide) (List.mem_of_mem_drop (l := bz_t137) (List.mem_of_mem_take hq))
theorem bz_r138 {Lg i pc : Nat} {e : bz_E} (h : bz_t138[i]? = some (pc, e)) : (bz_Pg Lg true).2.2.2.1 138 pc = some e := bz_tab_at (m := 138) (q := (pc, e)) (by decide) (List.mem_of_getElem? (l := bz_t138) h)
theorem bz_q138 {Lg a b : Nat} : ∀ q ∈ (bz_t138.drop a).take b, (bz_Pg Lg true).2.2.2.1 138 q.1 = some q.2 := fun q hq => bz_tab_at (m := 138) (q := q) (by decide) (List.mem_of_mem_drop (l := bz_t138) (List.mem_of_mem_take hq))
theorem bz_r139 {Lg i pc : Nat} {e : bz_E} (h : bz_t139[i]? = some (pc, e)) : (bz_Pg Lg true).2.2.2.1 139 pc = some e := bz_tab_at (m := 139) (q := (pc, e)) (by decide) (List.mem_of_getElem? (l := bz_t139) h)
theorem bz_q139 {Lg a b : Nat} : ∀ q ∈ (bz_t139.drop a).take b, (bz_Pg Lg true).2.2.2.1 139 q.1 = some q.2 := fun q hq => bz_tab_at (m := 139) (q := q) (by decide) (List.mem_of_mem_drop (l := bz_t139) (List.mem_of_mem_take hq))
theorem bz_r140 {Lg i pc : Nat} {e : bz_E} (h : bz_t140[i]? = some (pc, e)) : (bz_Pg Lg true).2.2.2.1 140 pc = some e := bz_tab_at (m := 140) (q := (pc, e)) (by decide) (List.mem_of_getElem? (l := bz_t140) h)
theorem bz_q140 {Lg a b : Nat} : ∀ q ∈ (bz_t140.drop a).take b, (bz_Pg Lg true).2.2.2.1 140 q.1 = some q.2 := fun q hq => bz_tab_at (m := 140) (q := q) (by decide) (List.mem_of_mem_drop (l := bz_t140) (List.mem_of_mem_take hq))
theorem bz_r141 {Lg i pc : Nat} {e : bz_E} (h : bz_t141[i]? = some (pc, e)) : (bz_Pg Lg true).2.2.2.1 141 pc = some e := bz_tab_at (m := 141) (q := (pc, e)) (by decide) (List.mem_of_getElem? (l := bz_t141) h)
theorem bz_q141 {Lg a b : Nat} : ∀ q ∈ (bz_t141.drop a).take b, (bz_Pg Lg true).2.2.2.1 141 q.1 = some q.2 := fun q hq => bz_tab_at (m := 141) (q := q) (by decide) (List.mem_of_mem_drop (l := bz_t141) (List.mem_of_mem_take hq))
theorem bz_r142 {Lg i pc : Nat} {e : bz_E} (h : bz_t142[i]? = some (pc, e)) : (bz_Pg Lg true).2.2.2.1 142 pc = some e := bz_tab_at (m := 142) (q := (pc, e)) (by decide) (List.mem_of_getElem? (l := bz_t142) h)
theorem bz_q142 {Lg a b : Nat} : ∀ q ∈ (bz_t142.drop a).take b, (bz_Pg Lg true).2.2.2.1 142 q.1 = some q.2 := fun q hq => bz_tab_at (m := 142) (q := q) (by decide) (List.mem_of_mem_drop (l := bz_t142) (List.mem_of_mem_take hq))
theorem bz_r143 {Lg i pc : Nat} {e : bz_E} (h : bz_t143[i]? = some (pc, e)) : (bz_Pg Lg true).2.2.2.1 143 pc = some e := bz_tab_at (m := 143) (q := (pc, e)) (by decide) (List.mem_of_getElem? (l := bz_t143) h)
theorem bz_q143 {Lg a b : Nat} : ∀ q ∈ (bz_t143.drop a).take b, (bz_Pg Lg true).2.2.2.1 143 q.1 = some q.2 := fun q hq => bz_tab_at (m := 143) (q := q) (by decide) (List.mem_of_mem_drop (l := bz_t143) (List.mem_of_mem_take hq))
theorem bz_r144 {Lg i pc : Nat} {e : bz_E} (h : bz_t144[i]? = some (pc, e)) : (bz_Pg Lg true).2.2.2.1 144 pc = some e := bz_tab_at (m := 144) (q := (pc, e)) (by decide) (List.mem_of_getElem? (l := bz_t144) h)
theorem bz_q144 {Lg a b : Nat} : ∀ q ∈ (bz_t144.drop a).take b, (bz_Pg Lg true).2.2.2.1 144 q.1 = some q.2 := fun q hq => bz_tab_at (m := 144) (q := q) (by decide) (List.mem_of_mem_drop (l := bz_t144) (List.mem_of_mem_take hq))
theorem bz_r145 {Lg i pc : Nat} {e : bz_E} (h : bz_t145[i]? = some (pc, e)) : (bz_Pg Lg true).2.2.2.1 145 pc = some e := bz_tab_at (m := 145) (q := (pc, e)) (by decide) (List.mem_of_getElem? (l := bz_t145) h)
theorem bz_q145 {Lg a b : Nat} : ∀ q ∈ (bz_t145.drop a).take b, (bz_Pg Lg true).2.2.2.1 145 q.1 = some q.2 := fun q hq => bz_tab_at (m := 145) (q := q) (by decide) (List.mem_of_mem_drop (l := bz_t145) (List.mem_of_mem_take hq))
theorem bz_r146 {Lg i pc : Nat} {e : bz_E} (h : bz_t146[i]? = some (pc, e)) : (bz_Pg Lg true).2.2.2.1 146 pc = some e := bz_tab_at (m := 146) (q := (pc, e)) (by decide) (List.mem_of_getElem? (l := bz_t146) h)
theorem bz_q146 {Lg a b : Nat} : ∀ q ∈ (bz_t146.drop a).take b, (bz_Pg Lg true).2.2.2.1 146 q.1 = some q.2 := fun q hq => bz_tab_at (m := 146) (q := q) (by decide) (List.mem_of_mem_drop (l := bz_t146) (List.mem_of_mem_take hq))
theorem bz_r147 {Lg i pc : Nat} {e : bz_E} (h : bz_t147[i]? = some (pc, e)) : (bz_Pg Lg true).2.2.2.1 147 pc = some e := bz_tab_at (m := 147) (q := (pc, e)) (by decide) (List.mem_of_getElem? (l := bz_t147) h)
theorem bz_q147 {Lg a b : Nat} : ∀ q ∈ (bz_t147.drop a).take b, (bz_Pg Lg true).2.2.2.1 147 q.1 = some q.2 := fun q hq => bz_tab_at (m := 147) (q := q) (by decide) (List.mem_of_mem_drop (l := bz_t147) (List.mem_of_mem_take hq))
theorem bz_r148 {Lg i pc : Nat} {e : bz_E} (h : bz_t148[i]? = some (pc, e)) : (bz_Pg Lg true).2.2.2.1 148 pc = some e := bz_tab_at (m := 148) (q := (pc, e)) (by decide) (List.mem_of_getElem? (l := bz_t148) h)
theorem bz_q148 {Lg a b : Nat} : ∀ q ∈ (bz_t148.drop a).take b, (bz_Pg Lg true).2.2.2.1 148 q.1 = some q.2 := fun q hq => bz_tab_at (m := 148) (q := q) (by decide) (List.mem_of_mem_drop (l := bz_t148) (List.mem_of_mem_take hq))
theorem bz_r149 {Lg i pc : Nat} {e : bz_E} (h : bz_t149[i]? = some (pc, e)) : (bz_Pg Lg true).2.2.2.1 149 pc = some e := bz_tab_at (m := 149) (q := (pc, e)) (by decide) (List.mem_of_getElem? (l := bz_t149) h)
theorem bz_q149 {Lg a b : Nat} : ∀ q ∈ (bz_t149.drop a).take b, (bz_Pg Lg true).2.2.2.1 149 q.1 = some q.2 := fun q hq => bz_tab_at (m := 149) (q := q) (by decide) (List.mem_of_mem_drop (l := bz_t149) (List.mem_of_mem_take hq))
theorem bz_r150 {Lg i pc : Nat} {e : bz_E} (h : bz_t150[i]? = some (pc, e)) : (bz_Pg Lg true).2.2.2.1 150 pc = some e := bz_tab_at (m := 150) (q := (pc, e)) (by decide) (List.mem_of_getElem? (l := bz_t150) h)
theorem bz_q150 {Lg a b : Nat} : ∀ q ∈ (bz_t150.drop a).take b, (bz_Pg Lg true).2.2.2.1 150 q.1 = some q.2 := fun q hq => bz_tab_at (m := 150) (q := q) (by decide) (List.mem_of_mem_drop (l := bz_t150) (List.mem_of_mem_take hq))
theorem bz_r151 {Lg i pc : Nat} {e : bz_E} (h : bz_t151[i]? = some (pc, e)) : (bz_Pg Lg true).2.2.2.1 151 pc = some e := bz_tab_at (m := 151) (q := (pc, e)) (by decide) (List.mem_of_getElem? (l := bz_t151) h)
theorem bz_q151 {Lg a b : Nat} : ∀ q ∈ (bz_t151.drop a).take b, (bz_Pg Lg true).2.2.2.1 151 q.1 = some q.2 := fun q hq => bz_tab_at (m := 151) (q := q) (by decide) (List.mem_of_mem_drop (l := bz_t151) (List.mem_of_mem_take hq))
theorem bz_r152 {Lg i pc : Nat} {e : bz_E} (h : bz_t152[i]? = some (pc, e)) : (bz_Pg Lg true).2.2.2.1 152 pc = some e := bz_tab_at (m := 152) (q := (pc, e)) (by decide) (List.mem_of_getElem? (l := bz_t152) h)
theorem bz_q152 {Lg a b : Nat} : ∀ q ∈ (bz_t152.drop a).take b, (bz_Pg Lg true).2.2.2.1 152 q.1 = some q.2 := fun q hq => bz_tab_at (m := 152) (q := q) (by decide) (List.mem_of_mem_drop (l := bz_t152) (List.mem_of_mem_take hq))
theorem bz_r153 {Lg i pc : Nat} {e : bz_E} (h : bz_t153[i]? = some (pc, e)) : (bz_Pg Lg true).2.2.2.1 153 pc = some e := bz_tab_at (m := 153) (q := (pc, e)) (by decide) (List.mem_of_getElem? (l := bz_t153) h)
theorem bz_q153 {Lg a b : Nat} : ∀ q ∈ (bz_t153.drop a).take b, (bz_Pg Lg true).2.2.2.1 153 q.1 = some q.2 := fun q hq => bz_tab_at (m := 153) (q := q) (by decide) (List.mem_of_mem_drop (l := bz_t153) (List.mem_of_mem_take hq))
theorem bz_r154 {Lg i pc : Nat} {e : bz_E} (h : bz_t154[i]? = some (pc, e)) : (bz_Pg Lg true).2.2.2.1 154 pc = some e := bz_tab_at (m := 154) (q := (pc, e)) (by decide) (List.mem_of_getElem? (l := bz_t154) h)
theorem bz_q154 {Lg a b : Nat} : ∀ q ∈ (bz_t154.drop a).take b, (bz_Pg Lg true).2.2.2.1 154 q.1 = some q.2 := fun q hq => bz_tab_at (m := 154) (q := q) (by decide) (List.mem_of_mem_drop (l := bz_t154) (List.mem_of_mem_take hq))
theorem bz_r156 {Lg i pc : Nat} {e : bz_E} (h : bz_t156[i]? = some (pc, e)) : (bz_Pg Lg true).2.2.2.1 156 pc = some e := bz_tab_at (m := 156) (q := (pc, e)) (by decide) (List.mem_of_getElem? (l := bz_t156) h)
theorem bz_q156 {Lg a b : Nat} : ∀ q ∈ (bz_t156.drop a).take b, (bz_Pg Lg true).2.2.2.1 156 q.1 = some q.2 := fun q hq => bz_tab_at (m := 156) (q := q) (by decide) (List.mem_of_mem_drop (l := bz_t156) (List.mem_of_mem_take hq))
theorem bz_r157 {Lg i pc : Nat} {e : bz_E} (h : bz_t157[i]? = some (pc, e)) : (bz_Pg Lg true).2.2.2.1 157 pc = some e := bz_tab_at (m := 157) (q := (pc, e)) (by decide) (List.mem_of_getElem? (l := bz_t157) h)
theorem bz_q157 {Lg a b : Nat} : ∀ q ∈ (bz_t157.drop a).take b, (bz_Pg Lg true).2.2.2.1 157 q.1 = some q.2 := fun q hq => bz_tab_at (m := 157) (q := q) (by decide) (List.mem_of_mem_drop (l := bz_t157) (List.mem_of_mem_take hq))
theorem bz_r158 {Lg i pc : Nat} {e : bz_E} (h : bz_t158[i]? = some (pc, e)) : (bz_Pg Lg true).2.2.2.1 158 pc = some e := bz_tab_at (m := 158) (q := (pc, e)) (by decide) (List.mem_of_getElem? (l := bz_t158) h)
theorem bz_q158 {Lg a b : Nat} : ∀ q ∈ (bz_t158.drop a).take b, (bz_Pg Lg true).2.2.2.1 158 q.1 = some q.2 := fun q hq => bz_tab_at (m := 158) (q := q) (by decide) (List.mem_of_mem_drop (l := bz_t158) (List.mem_of_mem_take hq))
theorem bz_r159 {Lg i pc : Nat} {e : bz_E} (h : bz_t159[i]? = some (pc, e)) : (bz_Pg Lg true).2.2.2.1 159 pc = some e := bz_tab_at (m := 159) (q := (pc, e)) (by decide) (List.mem_of_getElem? (l := bz_t159) h)
theorem bz_q159 {Lg a b : Nat} : ∀ q ∈ (bz_t159.drop a).take b, (bz_Pg Lg true).2.2.2.1 159 q.1 = some q.2 := fun q hq => bz_tab_at (m := 159) (q := q) (by decide) (List.mem_of_mem_drop (l := bz_t159) (List.mem_of_mem_take hq))
theorem bz_r160 {Lg i pc : Nat} {e : bz_E} (h : bz_t160[i]? = some (pc, e)) : (bz_Pg Lg true).2.2.2.1 160 pc = some e := bz_tab_at (m := 160) (q := (pc, e)) (by decide) (List.mem_of_getElem? (l := bz_t160) h)
theorem bz_q160 {Lg a b : Nat} : ∀ q ∈ (bz_t160.drop a).take b, (bz_Pg Lg true).2.2.2.1 160 q.1 = some q.2 := fun q hq => bz_tab_at (m := 160) (q := q) (by decide) (List.mem_of_mem_drop (l := bz_t160) (List.mem_of_mem_take hq))
theorem bz_r161 {Lg i pc : Nat} {e : bz_E} (h : bz_t161[i]? = some (pc, e)) : (bz_Pg Lg true).2.2.2.1 161 pc = some e := bz_tab_at (m := 161) (q := (pc, e)) (by decide) (List.mem_of_getElem? (l := bz_t161) h)
theorem bz_q161 {Lg a b : Nat} : ∀ q ∈ (bz_t161.drop a).take b, (bz_Pg Lg true).2.2.2.1 161 q.1 = some q.2 := fun q hq => bz_tab_at (m := 161) (q := q) (by decide) (List.mem_of_mem_drop (l := bz_t161) (List.mem_of_mem_take hq))
theorem bz_r162 {Lg i pc : Nat} {e : bz_E} (h : bz_t162[i]? = some (pc, e)) : (bz_Pg Lg true).2.2.2.1 162 pc = some e := bz_tab_at (m := 162) (q := (pc, e)) (by decide) (List.mem_of_getElem? (l := bz_t162) h)
theorem bz_q162 {Lg a b : Nat} : ∀ q ∈ (bz_t162.drop a).take b, (bz_Pg Lg true).2.2.2.1 162 q.1 = some q.2 := fun q hq => bz_tab_at (m := 162) (q := q) (by decide) (List.mem_of_mem_drop (l := bz_t162) (List.mem_of_mem_take hq))
theorem bz_r163 {Lg i pc : Nat} {e : bz_E} (h : bz_t163[i]? = some (pc, e)) : (bz_Pg Lg true).2.2.2.1 163 pc = some e := bz_tab_at (m := 163) (q := (pc, e)) (by decide) (List.mem_of_getElem? (l := bz_t163) h)
theorem bz_q163 {Lg a b : Nat} : ∀ q ∈ (bz_t163.drop a).take b, (bz_Pg Lg true).2.2.2.1 163 q.1 = some q.2 := fun q hq => bz_tab_at (m := 163) (q := q) (by decide) (List.mem_of_mem_drop (l := bz_t163) (List.mem_of_mem_take hq))
theorem bz_r164 {Lg i pc : Nat} {e : bz_E} (h : bz_t164[i]? = some (pc, e)) : (bz_Pg Lg true).2.2.2.1 164 pc = some e := bz_tab_at (m := 164) (q := (pc, e)) (by decide) (List.mem_of_getElem? (l := bz_t164) h)
theorem bz_q164 {Lg a b : Nat} : ∀ q ∈ (bz_t164.drop a).take b, (bz_Pg Lg true).2.2.2.1 164 q.1 = some q.2 := fun q hq => bz_tab_at (m := 164) (q := q) (by decide) (List.mem_of_mem_drop (l := bz_t164) (List.mem_of_mem_take hq))
theorem bz_r165 {Lg i pc : Nat} {e : bz_E} (h : bz_t165[i]? = some (pc, e)) : (bz_Pg Lg true).2.2.2.1 165 pc = some e := bz_tab_at (m := 165) (q := (pc, e)) (by decide) (List.mem_of_getElem? (l := bz_t165) h)
theorem bz_q165 {Lg a b : Nat} : ∀ q ∈ (bz_t165.drop a).take b, (bz_Pg Lg true).2.2.2.1 165 q.1 = some q.2 := fun q hq => bz_tab_at (m := 165) (q := q) (by decide) (List.mem_of_mem_drop (l := bz_t165) (List.mem_of_mem_take hq))
theorem bz_r166 {Lg i pc : Nat} {e : bz_E} (h : bz_t166[i]? = some (pc, e)) : (bz_Pg Lg true).2.2.2.1 166 pc = some e := bz_tab_at (m := 166) (q := (pc, e)) (by decide) (List.mem_of_getElem? (l := bz_t166) h)
theorem bz_q166 {Lg a b : Nat} : ∀ q ∈ (bz_t166.drop a).take b, (bz_Pg Lg true).2.2.2.1 166 q.1 = some q.2 := fun q hq => bz_tab_at (m := 166) (q := q) (by decide) (List.mem_of_mem_drop (l := bz_t166) (List.mem_of_mem_take hq))
theorem bz_r167 {Lg i pc : Nat} {e : bz_E} (h : bz_t167[i]? = some (pc, e)) : (bz_Pg Lg true).2.2.2.1 167 pc = some e := bz_tab_at (m := 167) (q := (pc, e)) (by decide) (List.mem_of_getElem? (l := bz_t167) h)
theorem bz_q167 {Lg a b : Nat} : ∀ q ∈ (bz_t167.drop a).take b, (bz_Pg Lg true).2.2.2.1 167 q.1 = some q.2 := fun q hq => bz_tab_at (m := 167) (q := q) (by decide) (List.mem_of_mem_drop (l := bz_t167) (List.mem_of_mem_take hq))
theorem bz_r168 {Lg i pc : Nat} {e : bz_E} (h : bz_t168[i]? = some (pc, e)) : (bz_Pg Lg true).2.2.2.1 168 pc = some e := bz_tab_at (m := 168) (q := (pc, e)) (by decide) (List.mem_of_getElem? (l := bz_t168) h)
theorem bz_q168 {Lg a b : Nat} : ∀ q ∈ (bz_t168.drop a).take b, (bz_Pg Lg true).2.2.2.1 168 q.1 = some q.2 := fun q hq => bz_tab_at (m := 168) (q := q) (by decide) (List.mem_of_mem_drop (l := bz_t168) (List.mem_of_mem_take hq))
theorem bz_r169 {Lg i pc : Nat} {e : bz_E} (h : bz_t169[i]? = some (pc, e)) : (bz_Pg Lg true).2.2.2.1 169 pc = some e := bz_tab_at (m := 169) (q := (pc, e)) (by decide) (List.mem_of_getElem? (l := bz_t169) h)
theorem bz_q169 {Lg a b : Nat} : ∀ q ∈ (bz_t169.drop a).take b, (bz_Pg Lg true).2.2.2.1 169 q.1 = some q.2 := fun q hq => bz_tab_at (m := 169) (q := q) (by decide) (List.mem_of_mem_drop (l := bz_t169) (List.mem_of_mem_take hq))
theorem bz_r170 {Lg i pc : Nat} {e : bz_E} (h : bz_t170[i]? = some (pc, e)) : (bz_Pg Lg true).2.2.2.1 170 pc = some e := bz_tab_at (m := 170) (q := (pc, e)) (by decide) (List.mem_of_getElem? (l := bz_t170) h)
theorem bz_q170 {Lg a b : Nat} : ∀ q ∈ (bz_t170.drop a).take b, (bz_Pg Lg true).2.2.2.1 170 q.1 = some q.2 := fun q hq => bz_tab_at (m := 170) (q := q) (by decide) (List.mem_of_mem_drop (l := bz_t170) (List.mem_of_mem_take hq))
theorem bz_r171 {Lg i pc : Nat} {e : bz_E} (h : bz_t171[i]? = some (pc, e)) : (bz_Pg Lg true).2.2.2.1 171 pc = some e := bz_tab_at (m := 171) (q := (pc, e)) (by decide) (List.mem_of_getElem? (l := bz_t171) h)
theorem bz_q171 {Lg a b : Nat} : ∀ q ∈ (bz_t171.drop a).take b, (bz_Pg Lg true).2.2.2.1 171 q.1 = some q.2 := fun q hq => bz_tab_at (m := 171) (q := q) (by decide) (List.mem_of_mem_drop (l := bz_t171) (List.mem_of_mem_take hq))
theorem bz_r172 {Lg i pc : Nat} {e : bz_E} (h : bz_t172[i]? = some (pc, e)) : (bz_Pg Lg true).2.2.2.1 172 pc = some e := bz_tab_at (m := 172) (q := (pc, e)) (by decide) (List.mem_of_getElem? (l := bz_t172) h)
theorem bz_q172 {Lg a b : Nat} : ∀ q ∈ (bz_t172.drop a).take b, (bz_Pg Lg true).2.2.2.1 172 q.1 = some q.2 := fun q hq => bz_tab_at (m := 172) (q := q) (by decide) (List.mem_of_mem_drop (l := bz_t172) (List.mem_of_mem_take hq))
theorem bz_r173 {Lg i pc : Nat} {e : bz_E} (h : bz_t173[i]? = some (pc, e)) : (bz_Pg Lg true).2.2.2.1 173 pc = some e := bz_tab_at (m := 173) (q := (pc, e)) (by decide) (List.mem_of_getElem? (l := bz_t173) h)
theorem bz_q173 {Lg a b : Nat} : ∀ q ∈ (bz_t173.drop a).take b, (bz_Pg Lg true).2.2.2.1 173 q.1 = some q.2 := fun q hq => bz_tab_at (m := 173) (q := q) (by decide) (List.mem_of_mem_drop (l := bz_t173) (List.mem_of_mem_take hq))
theorem bz_r174 {Lg i pc : Nat} {e : bz_E} (h : bz_t174[i]? = some (pc, e)) : (bz_Pg Lg true).2.2.2.1 174 pc = some e := bz_tab_at (m := 174) (q := (pc, e)) (by decide) (List.mem_of_getElem? (l := bz_t174) h)
theorem bz_q174 {Lg a b : Nat} : ∀ q ∈ (bz_t174.drop a).take b, (bz_Pg Lg true).2.2.2.1 174 q.1 = some q.2 := fun q hq => bz_tab_at (m := 174) (q := q) (by decide) (List.mem_of_mem_drop (l := bz_t174) (List.mem_of_mem_take hq))
theorem bz_r175 {Lg i pc : Nat} {e : bz_E} (h : bz_t175[i]? = some (pc, e)) : (bz_Pg Lg true).2.2.2.1 175 pc = some e := bz_tab_at (m := 175) (q := (pc, e)) (by decide) (List.mem_of_getElem? (l := bz_t175) h)
theorem bz_q175 {Lg a b : Nat} : ∀ q ∈ (bz_t175.drop a).take b, (bz_Pg Lg true).2.2.2.1 175 q.1 = some q.2 := fun q hq => bz_tab_at (m := 175) (q := q) (by decide) (List.mem_of_mem_drop (l := bz_t175) (List.mem_of_mem_take hq))
theorem bz_r176 {Lg i pc : Nat} {e : bz_E} (h : bz_t176[i]? = some (pc, e)) : (bz_Pg Lg true).2.2.2.1 176 pc = some e := bz_tab_at (m := 176) (q := (pc, e)) (by decide) (List.mem_of_getElem? (l := bz_t176) h)
theorem bz_q176 {Lg a b : Nat} : ∀ q ∈ (bz_t176.drop a).take b, (bz_Pg Lg true).2.2.2.1 176 q.1 = some q.2 := fun q hq => bz_tab_at (m := 176) (q := q) (by decide) (List.mem_of_mem_drop (l := bz_t176) (List.mem_of_mem_take hq))
theorem bz_r177 {Lg i pc : Nat} {e : bz_E} (h : bz_t177[i]? = some (pc, e)) : (bz_Pg Lg true).2.2.2.1 177 pc = some e := bz_tab_at (m := 177) (q := (pc, e)) (by decide) (List.mem_of_getElem? (l := bz_t177) h)
theorem bz_q177 {Lg a b : Nat} : ∀ q ∈ (bz_t177.drop a).take b, (bz_Pg Lg true).2.2.2.1 177 q.1 = some q.2 := fun q hq => bz_tab_at (m := 177) (q := q) (by decide) (List.mem_of_mem_drop (l := bz_t177) (List.mem_of_mem_take hq))
theorem bz_r178 {Lg i pc : Nat} {e : bz_E} (h : bz_t178[i]? = some (pc, e)) : (bz_Pg Lg true).2.2.2.1 178 pc = some e := bz_tab_at (m := 178) (q := (pc, e)) (by decide) (List.mem_of_getElem? (l := bz_t178) h)
theorem bz_q178 {Lg a b : Nat} : ∀ q ∈ (bz_t178.drop a).take b, (bz_Pg Lg true).2.2.2.1 178 q.1 = some q.2 := fun q hq => bz_tab_at (m := 178) (q := q) (by decide) (List.mem_of_mem_drop (l := bz_t178) (List.mem_of_mem_take hq))
theorem bz_r179 {Lg i pc : Nat} {e : bz_E} (h : bz_t179[i]? = some (pc, e)) : (bz_Pg Lg true).2.2.2.1 179 pc = some e := bz_tab_at (m := 179) (q := (pc, e)) (by decide) (List.mem_of_getElem? (l := bz_t179) h)
theorem bz_q179 {Lg a b : Nat} : ∀ q ∈ (bz_t179.drop a).take b, (bz_Pg Lg true).2.2.2.1 179 q.1 = some q.2 := fun q hq => bz_tab_at (m := 179) (q := q) (by decide) (List.mem_of_mem_drop (l := bz_t179) (List.mem_of_mem_take hq))
theorem bz_r180 {Lg i pc : Nat} {e : bz_E} (h : bz_t180[i]? = some (pc, e)) : (bz_Pg Lg true).2.2.2.1 180 pc = some e := bz_tab_at (m := 180) (q := (pc, e)) (by decide) (List.mem_of_getElem? (l := bz_t180) h)
theorem bz_q180 {Lg a b : Nat} : ∀ q ∈ (bz_t180.drop a).take b, (bz_Pg Lg true).2.2.2.1 180 q.1 = some q.2 := fun q hq => bz_tab_at (m := 180) (q := q) (by decide) (List.mem_of_mem_drop (l := bz_t180) (List.mem_of_mem_take hq))
theorem bz_r181 {Lg i pc : Nat} {e : bz_E} (h : bz_t181[i]? = some (pc, e)) : (bz_Pg Lg true).2.2.2.1 181 pc = some e := bz_tab_at (m := 181) (q := (pc, e)) (by decide) (List.mem_of_getElem? (l := bz_t181) h)
theorem bz_q181 {Lg a b : Nat} : ∀ q ∈ (bz_t181.drop a).take b, (bz_Pg Lg true).2.2.2.1 181 q.1 = some q.2 := fun q hq => bz_tab_at (m := 181) (q := q) (by decide) (List.mem_of_mem_drop (l := bz_t181) (List.mem_of_mem_take hq))
theorem bz_r182 {Lg i pc : Nat} {e : bz_E} (h : bz_t182[i]? = some (pc, e)) : (bz_Pg Lg true).2.2.2.1 182 pc = some e := bz_tab_at (m := 182) (q := (pc, e)) (by decide) (List.mem_of_getElem? (l := bz_t182) h)
theorem bz_q182 {Lg a b : Nat} : ∀ q ∈ (bz_t182.drop a).take b, (bz_Pg Lg true).2.2.2.1 182 q.1 = some q.2 := fun q hq => bz_tab_at (m := 182) (q := q) (by decide) (List.mem_of_mem_drop (l := bz_t182) (List.mem_of_mem_take hq))
theorem bz_r183 {Lg i pc : Nat} {e : bz_E} (h : bz_t183[i]? = some (pc, e)) : (bz_Pg Lg true).2.2.2.1 183 pc = some e := bz_tab_at (m := 183) (q := (pc, e)) (by decide) (List.mem_of_getElem? (l := bz_t183) h)
theorem bz_q183 {Lg a b : Nat} : ∀ q ∈ (bz_t183.drop a).take b, (bz_Pg Lg true).2.2.2.1 183 q.1 = some q.2 := fun q hq => bz_tab_at (m := 183) (q := q) (by decide) (List.mem_of_mem_drop (l := bz_t183) (List.mem_of_mem_take hq))
theorem bz_r184 {Lg i pc : Nat} {e : bz_E} (h : bz_t184[i]? = some (pc, e)) : (bz_Pg Lg true).2.2.2.1 184 pc = some e := bz_tab_at (m := 184) (q := (pc, e)) (by decide) (List.mem_of_getElem? (l := bz_t184) h)
theorem bz_q184 {Lg a b : Nat} : ∀ q ∈ (bz_t184.drop a).take b, (bz_Pg Lg true).2.2.2.1 184 q.1 = some q.2 := fun q hq => bz_tab_at (m := 184) (q := q) (by decide) (List.mem_of_mem_drop (l := bz_t184) (List.mem_of_mem_take hq))
theorem bz_r185 {Lg i pc : Nat} {e : bz_E} (h : bz_t185[i]? = some (pc, e)) : (bz_Pg Lg true).2.2.2.1 185 pc = some e := bz_tab_at (m := 185) (q := (pc, e)) (by decide) (List.mem_of_getElem? (l := bz_t185) h)
theorem bz_q185 {Lg a b : Nat} : ∀ q ∈ (bz_t185.drop a).take b, (bz_Pg Lg true).2.2.2.1 185 q.1 = some q.2 := fun q hq => bz_tab_at (m := 185) (q := q) (by decide) (List.mem_of_mem_drop (l := bz_t185) (List.mem_of_mem_take hq))
theorem bz_r186 {Lg i pc : Nat} {e : bz_E} (h : bz_t186[i]? = some (pc, e)) : (bz_Pg Lg true).2.2.2.1 186 pc = some e := bz_tab_at (m := 186) (q := (pc, e)) (by decide) (List.mem_of_getElem? (l := bz_t186) h)
theorem bz_q186 {Lg a b : Nat} : ∀ q ∈ (bz_t186.drop a).take b, (bz_Pg Lg true).2.2.2.1 186 q.1 = some q.2 := fun q hq => bz_tab_at (m := 186) (q := q) (by decide) (List.mem_of_mem_drop (l := bz_t186) (List.mem_of_mem_take hq))
theorem bz_r187 {Lg i pc : Nat} {e : bz_E} (h : bz_t187[i]? = some (pc, e)) : (bz_Pg Lg true).2.2.2.1 187 pc = some e := bz_tab_at (m := 187) (q := (pc, e)) (by decide) (List.mem_of_getElem? (l := bz_t187) h)
theorem bz_q187 {Lg a b : Nat} : ∀ q ∈ (bz_t187.drop a).take b, (bz_Pg Lg true).2.2.2.1 187 q.1 = some q.2 := fun q hq => bz_tab_at (m := 187) (q := q) (by decide) (List.mem_of_mem_drop (l := bz_t187) (List.mem_of_mem_take hq))
theorem bz_r188 {Lg i pc : Nat} {e : bz_E} (h : bz_t188[i]? = some (pc, e)) : (bz_Pg Lg true).2.2.2.1 188 pc = some e := bz_tab_at (m := 188) (q := (pc, e)) (by decide) (List.mem_of_getElem? (l := bz_t188) h)
theorem bz_q188 {Lg a b : Nat} : ∀ q ∈ (bz_t188.drop a).take b, (bz_Pg Lg true).2.2.2.1 188 q.1 = some q.2 := fun q hq => bz_tab_at (m := 188) (q := q) (by decide) (List.mem_of_mem_drop (l := bz_t188) (List.mem_of_mem_take hq))
theorem bz_r189 {Lg i pc : Nat} {e : bz_E} (h : bz_t189[i]? = some (pc, e)) : (bz_Pg Lg true).2.2.2.1 189 pc = some e := bz_tab_at (m := 189) (q := (pc, e)) (by decide) (List.mem_of_getElem? (l := bz_t189) h)
theorem bz_q189 {Lg a b : Nat} : ∀ q ∈ (bz_t189.drop a).take b, (bz_Pg Lg true).2.2.2.1 189 q.1 = some q.2 := fun q hq => bz_tab_at (m := 189) (q := q) (by decide) (List.mem_of_mem_drop (l := bz_t189) (List.mem_of_mem_take hq))
theorem bz_r190 {Lg i pc : Nat} {e : bz_E} (h : bz_t190[i]? = some (pc, e)) : (bz_Pg Lg true).2.2.2.1 190 pc = some e := bz_tab_at (m := 190) (q := (pc, e)) (by decide) (List.mem_of_getElem? (l := bz_t190) h)
theorem bz_q190 {Lg a b : Nat} : ∀ q ∈ (bz_t190.drop a).take b, (bz_Pg Lg true).2.2.2.1 190 q.1 = some q.2 := fun q hq => bz_tab_at (m := 190) (q := q) (by decide) (List.mem_of_mem_drop (l := bz_t190) (List.mem_of_mem_take hq))
theorem bz_r191 {Lg i pc : Nat} {e : bz_E} (h : bz_t191[i]? = some (pc, e)) : (bz_Pg Lg true).2.2.2.1 191 pc = some e := bz_tab_at (m := 191) (q := (pc, e)) (by decide) (List.mem_of_getElem? (l := bz_t191) h)
theorem bz_q191 {Lg a b : Nat} : ∀ q ∈ (bz_t191.drop a).take b, (bz_Pg Lg true).2.2.2.1 191 q.1 = some q.2 := fun q hq => bz_tab_at (m := 191) (q := q) (by decide) (List.mem_of_mem_drop (l := bz_t191) (List.mem_of_mem_take hq))
theorem bz_r192 {Lg i pc : Nat} {e : bz_E} (h : bz_t192[i]? = some (pc, e)) : (bz_Pg Lg true).2.2.2.1 192 pc = some e := bz_tab_at (m := 192) (q := (pc, e)) (by decide) (List.mem_of_getElem? (l := bz_t192) h)
theorem bz_q192 {Lg a b : Nat} : ∀ q ∈ (bz_t192.drop a).take b, (bz_Pg Lg true).2.2.2.1 192 q.1 = some q.2 := fun q hq => bz_tab_at (m := 192) (q := q) (by decide) (List.mem_of_mem_drop (l := bz_t192) (List.mem_of_mem_take hq))
theorem bz_r193 {Lg i pc : Nat} {e : bz_E} (h : bz_t193[i]? = some (pc, e)) : (bz_Pg Lg true).2.2.2.1 193 pc = some e := bz_tab_at (m := 193) (q := (pc, e)) (by decide) (List.mem_of_getElem? (l := bz_t193) h)
theorem bz_q193 {Lg a b : Nat} : ∀ q ∈ (bz_t193.drop a).take b, (bz_Pg Lg true).2.2.2.1 193 q.1 = some q.2 := fun q hq => bz_tab_at (m := 193) (q := q) (by decide) (List.mem_of_mem_drop (l := bz_t193) (List.mem_of_mem_take hq))
theorem bz_r194 {Lg i pc : Nat} {e : bz_E} (h : bz_t194[i]? = some (pc, e)) : (bz_Pg Lg true).2.2.2.1 194 pc = some e := bz_tab_at (m := 194) (q := (pc, e)) (by decide) (List.mem_of_getElem? (l := bz_t194) h)
theorem bz_q194 {Lg a b : Nat} : ∀ q ∈ (bz_t194.drop a).take b, (bz_Pg Lg true).2.2.2.1 194 q.1 = some q.2 := fun q hq => bz_tab_at (m := 194) (q := q) (by decide) (List.mem_of_mem_drop (l := bz_t194) (List.mem_of_mem_take hq))
theorem bz_r195 {Lg i pc : Nat} {e : bz_E} (h : bz_t195[i]? = some (pc, e)) : (bz_Pg Lg true).2.2.2.1 195 pc = some e := bz_tab_at (m := 195) (q := (pc, e)) (by decide) (List.mem_of_getElem? (l := bz_t195) h)
theorem bz_q195 {Lg a b : Nat} : ∀ q ∈ (bz_t195.drop a).take b, (bz_Pg Lg true).2.2.2.1 195 q.1 = some q.2 := fun q hq => bz_tab_at (m := 195) (q := q) (by decide) (List.mem_of_mem_drop (l := bz_t195) (List.mem_of_mem_take hq))
theorem bz_r196 {Lg i pc : Nat} {e : bz_E} (h : bz_t196[i]? = some (pc, e)) : (bz_Pg Lg true).2.2.2.1 196 pc = some e := bz_tab_at (m := 196) (q := (pc, e)) (by decide) (List.mem_of_getElem? (l := bz_t196) h)
theorem bz_q196 {Lg a b : Nat} : ∀ q ∈ (bz_t196.drop a).take b, (bz_Pg Lg true).2.2.2.1 196 q.1 = some q.2 := fun q hq => bz_tab_at (m := 196) (q := q) (by decide) (List.mem_of_mem_drop (l := bz_t196) (List.mem_of_mem_take hq))
theorem bz_r197 {Lg i pc : Nat} {e : bz_E} (h : bz_t197[i]? = some (pc, e)) : (bz_Pg Lg true).2.2.2.1 197 pc = some e := bz_tab_at (m := 197) (q := (pc, e)) (by decide) (List.mem_of_getElem? (l := bz_t197) h)
theorem bz_q197 {Lg a b : Nat} : ∀ q ∈ (bz_t197.drop a).take b, (bz_Pg Lg true).2.2.2.1 197 q.1 = some q.2 := fun q hq => bz_tab_at (m := 197) (q := q) (by decide) (List.mem_of_mem_drop (l := bz_t197) (List.mem_of_mem_take hq))
theorem bz_r198 {Lg i pc : Nat} {e : bz_E} (h : bz_t198[i]? = some (pc, e)) : (bz_Pg Lg true).2.2.2.1 198 pc = some e := bz_tab_at (m := 198) (q := (pc, e)) (by decide) (List.mem_of_getElem? (l := bz_t198) h)
theorem bz_q198 {Lg a b : Nat} : ∀ q ∈ (bz_t198.drop a).take b, (bz_Pg Lg true).2.2.2.1 198 q.1 = some q.2 := fun q hq => bz_tab_at (m := 198) (q := q) (by decide) (List.mem_of_mem_drop (l := bz_t198) (List.mem_of_mem_take hq))
theorem bz_r199 {Lg i pc : Nat} {e : bz_E} (h : bz_t199[i]? = some (pc, e)) : (bz_Pg Lg true).2.2.2.1 199 pc = some e := bz_tab_at (m := 199) (q := (pc, e)) (by decide) (List.mem_of_getElem? (l := bz_t199) h)
theorem bz_q199 {Lg a b : Nat} : ∀ q ∈ (bz_t199.drop a).take b, (bz_Pg Lg true).2.2.2.1 199 q.1 = some q.2 := fun q hq => bz_tab_at (m := 199) (q := q) (by decide) (List.mem_of_mem_drop (l := bz_t199) (List.mem_of_mem_take hq))
theorem bz_r200 {Lg i pc : Nat} {e : bz_E} (h : bz_t200[i]? = some (pc, e)) : (bz_Pg Lg true).2.2.2.1 200 pc = some e := bz_tab_at (m := 200) (q := (pc, e)) (by decide) (List.mem_of_getElem? (l := bz_t200) h)
theorem bz_q200 {Lg a b : Nat} : ∀ q ∈ (bz_t200.drop a).take b, (bz_Pg Lg true).2.2.2.1 200 q.1 = some q.2 := fun q hq => bz_tab_at (m := 200) (q := q) (by decide) (List.mem_of_mem_drop (l := bz_t200) (List.mem_of_mem_take hq))
theorem bz_r201 {Lg i pc : Nat} {e : bz_E} (h : bz_t201[i]? = some (pc, e)) : (bz_Pg Lg true).2.2.2.1 201 pc = some e := bz_tab_at (m := 201) (q := (pc, e)) (by decide) (List.mem_of_getElem? (l := bz_t201) h)
theorem bz_q201 {Lg a b : Nat} : ∀ q ∈ (bz_t201.drop a).take b, (bz_Pg Lg true).2.2.2.1 201 q.1 = some q.2 := fun q hq => bz_tab_at (m := 201) (q := q) (by decide) (List.mem_of_mem_drop (l := bz_t201) (List.mem_of_mem_take hq))
theorem bz_r202 {Lg i pc : Nat} {e : bz_E} (h : bz_t202[i]? = some (pc, e)) : (bz_Pg Lg true).2.2.2.1 202 pc = some e := bz_tab_at (m := 202) (q := (pc, e)) (by decide) (List.mem_of_getElem? (l := bz_t202) h)
theorem bz_q202 {Lg a b : Nat} : ∀ q ∈ (bz_t202.drop a).take b, (bz_Pg Lg true).2.2.2.1 202 q.1 = some q.2 := fun q hq => bz_tab_at (m := 202) (q := q) (by decide) (List.mem_of_mem_drop (l := bz_t202) (List.mem_of_mem_take hq))
theorem bz_r203 {Lg i pc : Nat} {e : bz_E} (h : bz_t203[i]? = some (pc, e)) : (bz_Pg Lg true).2.2.2.1 203 pc = some e := bz_tab_at (m := 203) (q := (pc, e)) (by decide) (List.mem_of_getElem? (l := bz_t203) h)
theorem bz_q203 {Lg a b : Nat} : ∀ q ∈ (bz_t203.drop a).take b, (bz_Pg Lg true).2.2.2.1 203 q.1 = some q.2 := fun q hq => bz_tab_at (m := 203) (q := q) (by decide) (List.mem_of_mem_drop (l := bz_t203) (List.mem_of_mem_take hq))
theorem bz_r204 {Lg i pc : Nat} {e : bz_E} (h : bz_t204[i]? = some (pc, e)) : (bz_Pg Lg true).2.2.2.1 204 pc = some e := bz_tab_at (m := 204) (q := (pc, e)) (by decide) (List.mem_of_getElem? (l := bz_t204) h)
theorem bz_q204 {Lg a b : Nat} : ∀ q ∈ (bz_t204.drop a).take b, (bz_Pg Lg true).2.2.2.1 204 q.1 = some q.2 := fun q hq => bz_tab_at (m := 204) (q := q) (by decide) (List.mem_of_mem_drop (l := bz_t204) (List.mem_of_mem_take hq))
theorem bz_r205 {Lg i pc : Nat} {e : bz_E} (h : bz_t205[i]? = some (pc, e)) : (bz_Pg Lg true).2.2.2.1 205 pc = some e := bz_tab_at (m := 205) (q := (pc, e)) (by decide) (List.mem_of_getElem? (l := bz_t205) h)
theorem bz_q205 {Lg a b : Nat} : ∀ q ∈ (bz_t205.drop a).take b, (bz_Pg Lg true).2.2.2.1 205 q.1 = some q.2 := fun q hq => bz_tab_at (m := 205) (q := q) (by decide) (List.mem_of_mem_drop (l := bz_t205) (List.mem_of_mem_take hq))
theorem bz_r206 {Lg i pc : Nat} {e : bz_E} (h : bz_t206[i]? = some (pc, e)) : (bz_Pg Lg true).2.2.2.1 206 pc = some e := bz_tab_at (m := 206) (q := (pc, e)) (by decide) (List.mem_of_getElem? (l := bz_t206) h)
theorem bz_q206 {Lg a b : Nat} : ∀ q ∈ (bz_t206.drop a).take b, (bz_Pg Lg true).2.2.2.1 206 q.1 = some q.2 := fun q hq => bz_tab_at (m := 206) (q := q) (by decide) (List.mem_of_mem_drop (l := bz_t206) (List.mem_of_mem_take hq))
theorem bz_r207 {Lg i pc : Nat} {e : bz_E} (h : bz_t207[i]? = some (pc, e)) : (bz_Pg Lg true).2.2.2.1 207 pc = some e := bz_tab_at (m := 207) (q := (pc, e)) (by decide) (List.mem_of_getElem? (l := bz_t207) h)
theorem bz_q207 {Lg a b : Nat} : ∀ q ∈ (bz_t207.drop a).take b, (bz_Pg Lg true).2.2.2.1 207 q.1 = some q.2 := fun q hq => bz_tab_at (m := 207) (q := q) (by decide) (List.mem_of_mem_drop (l := bz_t207) (List.mem_of_mem_take hq))
theorem bz_r208 {Lg i pc : Nat} {e : bz_E} (h : bz_t208[i]? = some (pc, e)) : (bz_Pg Lg true).2.2.2.1 208 pc = some e := bz_tab_at (m := 208) (q := (pc, e)) (by decide) (List.mem_of_getElem? (l := bz_t208) h)
theorem bz_q208 {Lg a b : Nat} : ∀ q ∈ (bz_t208.drop a).take b, (bz_Pg Lg true).2.2.2.1 208 q.1 = some q.2 := fun q hq => bz_tab_at (m := 208) (q := q) (by decide) (List.mem_of_mem_drop (l := bz_t208) (List.mem_of_mem_take hq))
theorem bz_r209 {Lg i pc : Nat} {e : bz_E} (h : bz_t209[i]? = some (pc, e)) : (bz_Pg Lg true).2.2.2.1 209 pc = some e := bz_tab_at (m := 209) (q := (pc, e)) (by decide) (List.mem_of_getElem? (l := bz_t209) h)
theorem bz_q209 {Lg a b : Nat} : ∀ q ∈ (bz_t209.drop a).take b, (bz_Pg Lg true).2.2.2.1 209 q.1 = some q.2 := fun q hq => bz_tab_at (m := 209) (q := q) (by decide) (List.mem_of_mem_drop (l := bz_t209) (List.mem_of_mem_take hq))
theorem bz_r210 {Lg i pc : Nat} {e : bz_E} (h : bz_t210[i]? = some (pc, e)) : (bz_Pg Lg true).2.2.2.1 210 pc = some e := bz_tab_at (m := 210) (q := (pc, e)) (by decide) (List.mem_of_getElem? (l := bz_t210) h)
theorem bz_q210 {Lg a b : Nat} : ∀ q ∈ (bz_t210.drop a).take b, (bz_Pg Lg true).2.2.2.1 210 q.1 = some q.2 := fun q hq => bz_tab_at (m := 210) (q := q) (by decide) (List.mem_of_mem_drop (l := bz_t210) (List.mem_of_mem_take hq))
theorem bz_r211 {Lg i pc : Nat} {e : bz_E} (h : bz_t211[i]? = some (pc, e)) : (bz_Pg Lg true).2.2.2.1 211 pc = some e := bz_tab_at (m := 211) (q := (pc, e)) (by decide) (List.mem_of_getElem? (l := bz_t211) h)
theorem bz_q211 {Lg a b : Nat} : ∀ q ∈ (bz_t211.drop a).take b, (bz_Pg Lg true).2.2.2.1 211 q.1 = some q.2 := fun q hq => bz_tab_at (m := 211) (q := q) (by decide) (List.mem_of_mem_drop (l := bz_t211) (List.mem_of_mem_take hq))
theorem bz_r212 {Lg i pc : Nat} {e : bz_E} (h : bz_t212[i]? = some (pc, e)) : (bz_Pg Lg true).2.2.2.1 212 pc = some e := bz_tab_at (m := 212) (q := (pc, e)) (by decide) (List.mem_of_getElem? (l := bz_t212) h)
theorem bz_q212 {Lg a b : Nat} : ∀ q ∈ (bz_t212.drop a).take b, (bz_Pg Lg true).2.2.2.1 212 q.1 = some q.2 := fun q hq => bz_tab_at (m := 212) (q := q) (by decide) (List.mem_of_mem_drop (l := bz_t212) (List.mem_of_mem_take hq))
theorem bz_r213 {Lg i pc : Nat} {e : bz_E} (h : bz_t213[i]? = some (pc, e)) : (bz_Pg Lg true).2.2.2.1 213 pc = some e := bz_tab_at (m := 213) (q := (pc, e)) (by decide) (List.mem_of_getElem? (l := bz_t213) h)
theorem bz_q213 {Lg a b : Nat} : ∀ q ∈ (bz_t213.drop a).take b, (bz_Pg Lg true).2.2.2.1 213 q.1 = some q.2 := fun q hq => bz_tab_at (m := 213) (q := q) (by decide) (List.mem_of_mem_drop (l := bz_t213) (List.mem_of_mem_take hq))
theorem bz_r214 {Lg i pc : Nat} {e : bz_E} (h : bz_t214[i]? = some (pc, e)) : (bz_Pg Lg true).2.2.2.1 214 pc = some e := bz_tab_at (m := 214) (q := (pc, e)) (by decide) (List.mem_of_getElem? (l := bz_t214) h)
theorem bz_q214 {Lg a b : Nat} : ∀ q ∈ (bz_t214.drop a).take b, (bz_Pg Lg true).2.2.2.1 214 q.1 = some q.2 := fun q hq => bz_tab_at (m := 214) (q := q) (by decide) (List.mem_of_mem_drop (l := bz_t214) (List.mem_of_mem_take hq))
theorem bz_r215 {Lg i pc : Nat} {e : bz_E} (h : bz_t215[i]? = some (pc, e)) : (bz_Pg Lg true).2.2.2.1 215 pc = some e := bz_tab_at (m := 215) (q := (pc, e)) (by decide) (List.mem_of_getElem? (l := bz_t215) h)
theorem bz_q215 {Lg a b : Nat} : ∀ q ∈ (bz_t215.drop a).take b, (bz_Pg Lg true).2.2.2.1 215 q.1 = some q.2 := fun q hq => bz_tab_at (m := 215) (q := q) (by decide) (List.mem_of_mem_drop (l := bz_t215) (List.mem_of_mem_take hq))
theorem bz_r216 {Lg i pc : Nat} {e : bz_E} (h : bz_t216[i]? = some (pc, e)) : (bz_Pg Lg true).2.2.2.1 216 pc = some e := bz_tab_at (m := 216) (q := (pc, e)) (by decide) (List.mem_of_getElem? (l := bz_t216) h)
theorem bz_q216 {Lg a b : Nat} : ∀ q ∈ (bz_t216.drop a).take b, (bz_Pg Lg true).2.2.2.1 216 q.1 = some q.2 := fun q hq => bz_tab_at (m := 216) (q := q) (by decide) (List.mem_of_mem_drop (l := bz_t216) (List.mem_of_mem_take hq))
theorem bz_r217 {Lg i pc : Nat} {e : bz_E} (h : bz_t217[i]? = some (pc, e)) : (bz_Pg Lg true).2.2.2.1 217 pc = some e := bz_tab_at (m := 217) (q := (pc, e)) (by decide) (List.mem_of_getElem? (l := bz_t217) h)
theorem bz_q217 {Lg a b : Nat} : ∀ q ∈ (bz_t217.drop a).take b, (bz_Pg Lg true).2.2.2.1 217 q.1 = some q.2 := fun q hq => bz_tab_at (m := 217) (q := q) (by decide) (List.mem_of_mem_drop (l := bz_t217) (List.mem_of_mem_take hq))
theorem bz_r218 {Lg i pc : Nat} {e : bz_E} (h : bz_t218[i]? = some (pc, e)) : (bz_Pg Lg true).2.2.2.1 218 pc = some e := bz_tab_at (m := 218) (q := (pc, e)) (by decide) (List.mem_of_getElem? (l := bz_t218) h)
theorem bz_q218 {Lg a b : Nat} : ∀ q ∈ (bz_t218.drop a).take b, (bz_Pg Lg true).2.2.2.1 218 q.1 = some q.2 := fun q hq => bz_tab_at (m := 218) (q := q) (by decide) (List.mem_of_mem_drop (l := bz_t218) (List.mem_of_mem_take hq))
theorem bz_r219 {Lg i pc : Nat} {e : bz_E} (h : bz_t219[i]? = some (pc, e)) : (bz_Pg Lg true).2.2.2.1 219 pc = some e := bz_tab_at (m := 219) (q := (pc, e)) (by decide) (List.mem_of_getElem? (l := bz_t219) h)
theorem bz_q219 {Lg a b : Nat} : ∀ q ∈ (bz_t219.drop a).take b, (bz_Pg Lg true).2.2.2.1 219 q.1 = some q.2 := fun q hq => bz_tab_at (m := 219) (q := q) (by decide) (List.mem_of_mem_drop (l := bz_t219) (List.mem_of_mem_take hq))
theorem bz_r220 {Lg i pc : Nat} {e : bz_E} (h : bz_t220[i]? = some (pc, e)) : (bz_Pg Lg true).2.2.2.1 220 pc = some e := bz_tab_at (m := 220) (q := (pc, e)) (by decide) (List.mem_of_getElem? (l := bz_t220) h)
theorem bz_q220 {Lg a b : Nat} : ∀ q ∈ (bz_t220.drop a).take b, (bz_Pg Lg true).2.2.2.1 220 q.1 = some q.2 := fun q hq => bz_tab_at (m := 220) (q := q) (by decide) (List.mem_of_mem_drop (l := bz_t220) (List.mem_of_mem_take hq))
theorem bz_r221 {Lg i pc : Nat} {e : bz_E} (h : bz_t221[i]? = some (pc, e)) : (bz_Pg Lg true).2.2.2.1 221 pc = some e := bz_tab_at (m := 221) (q := (pc, e)) (by decide) (List.mem_of_getElem? (l := bz_t221) h)
theorem bz_q221 {Lg a b : Nat} : ∀ q ∈ (bz_t221.drop a).take b, (bz_Pg Lg true).2.2.2.1 221 q.1 = some q.2 := fun q hq => bz_tab_at (m := 221) (q := q) (by decide) (List.mem_of_mem_drop (l := bz_t221) (List.mem_of_mem_take hq))
theorem bz_r222 {Lg i pc : Nat} {e : bz_E} (h : bz_t222[i]? = some (pc, e)) : (bz_Pg Lg true).2.2.2.1 222 pc = some e := bz_tab_at (m := 222) (q := (pc, e)) (by decide) (List.mem_of_getElem? (l := bz_t222) h)
theorem bz_q222 {Lg a b : Nat} : ∀ q ∈ (bz_t222.drop a).take b, (bz_Pg Lg true).2.2.2.1 222 q.1 = some q.2 := fun q hq => bz_tab_at (m := 222) (q := q) (by decide) (List.mem_of_mem_drop (l := bz_t222) (List.mem_of_mem_take hq))
theorem bz_r223 {Lg i pc : Nat} {e : bz_E} (h : bz_t223[i]? = some (pc, e)) : (bz_Pg Lg true).2.2.2.1 223 pc = some e := bz_tab_at (m := 223) (q := (pc, e)) (by decide) (List.mem_of_getElem? (l := bz_t223) h)
theorem bz_q223 {Lg a b : Nat} : ∀ q ∈ (bz_t223.drop a).take b, (bz_Pg Lg true).2.2.2.1 223 q.1 = some q.2 := fun q hq => bz_tab_at (m := 223) (q := q) (by decide) (List.mem_of_mem_drop (l := bz_t223) (List.mem_of_mem_take hq))
theorem bz_r224 {Lg i pc : Nat} {e : bz_E} (h : bz_t224[i]? = some (pc, e)) : (bz_Pg Lg true).2.2.2.1 224 pc = some e := bz_tab_at (m := 224) (q := (pc, e)) (by decide) (List.mem_of_getElem? (l := bz_t224) h)
theorem bz_q224 {Lg a b : Nat} : ∀ q ∈ (bz_t224.drop a).take b, (bz_Pg Lg true).2.2.2.1 224 q.1 = some q.2 := fun q hq => bz_tab_at (m := 224) (q := q) (by decide) (List.mem_of_mem_drop (l := bz_t224) (List.mem_of_mem_take hq))
theorem bz_r225 {Lg i pc : Nat} {e : bz_E} (h : bz_t225[i]? = some (pc, e)) : (bz_Pg Lg true).2.2.2.1 225 pc = some e := bz_tab_at (m := 225) (q := (pc, e)) (by decide) (List.mem_of_getElem? (l := bz_t225) h)
theorem bz_q225 {Lg a b : Nat} : ∀ q ∈ (bz_t225.drop a).take b, (bz_Pg Lg true).2.2.2.1 225 q.1 = some q.2 := fun q hq => bz_tab_at (m := 225) (q := q) (by decide) (List.mem_of_mem_drop (l := bz_t225) (List.mem_of_mem_take hq))
theorem bz_r226 {Lg i pc : Nat} {e : bz_E} (h : bz_t226[i]? = some (pc, e)) : (bz_Pg Lg true).2.2.2.1 226 pc = some e := bz_tab_at (m := 226) (q := (pc, e)) (by decide) (List.mem_of_getElem? (l := bz_t226) h)
theorem bz_q226 {Lg a b : Nat} : ∀ q ∈ (bz_t226.drop a).take b, (bz_Pg Lg true).2.2.2.1 226 q.1 = some q.2 := fun q hq => bz_tab_at (m := 226) (q := q) (by decide) (List.mem_of_mem_drop (l := bz_t226) (List.mem_of_mem_take hq))
theorem bz_r227 {Lg i pc : Nat} {e : bz_E} (h : bz_t227[i]? = some (pc, e)) : (bz_Pg Lg true).2.2.2.1 227 pc = some e := bz_tab_at (m := 227) (q := (pc, e)) (by decide) (List.mem_of_getElem? (l := bz_t227) h)
theorem bz_q227 {Lg a b : Nat} : ∀ q ∈ (bz_t227.drop a).take b, (bz_Pg Lg true).2.2.2.1 227 q.1 = some q.2 := fun q hq => bz_tab_at (m := 227) (q := q) (by decide) (List.mem_of_mem_drop (l := bz_t227) (List.mem_of_mem_take hq))
theorem bz_r228 {Lg i pc : Nat} {e : bz_E} (h : bz_t228[i]? = some (pc, e)) : (bz_Pg Lg true).2.2.2.1 228 pc = some e := bz_tab_at (m := 228) (q := (pc, e)) (by decide) (List.mem_of_getElem? (l := bz_t228) h)
theorem bz_q228 {Lg a b : Nat} : ∀ q ∈ (bz_t228.drop a).take b, (bz_Pg Lg true).2.2.2.1 228 q.1 = some q.2 := fun q hq => bz_tab_at (m := 228) (q := q) (by decide) (List.mem_of_mem_drop (l := bz_t228) (List.mem_of_mem_take hq))
theorem bz_r229 {Lg i pc : Nat} {e : bz_E} (h : bz_t229[i]? = some (pc, e)) : (bz_Pg Lg true).2.2.2.1 229 pc = some e := bz_tab_at (m := 229) (q := (pc, e)) (by decide) (List.mem_of_getElem? (l := bz_t229) h)
theorem bz_q229 {Lg a b : Nat} : ∀ q ∈ (bz_t229.drop a).take b, (bz_Pg Lg true).2.2.2.1 229 q.1 = some q.2 := fun q hq => bz_tab_at (m := 229) (q := q) (by decide) (List.mem_of_mem_drop (l := bz_t229) (List.mem_of_mem_take hq))
theorem bz_r230 {Lg i pc : Nat} {e : bz_E} (h : bz_t230[i]? = some (pc, e)) : (bz_Pg Lg true).2.2.2.1 230 pc = some e := bz_tab_at (m := 230) (q := (pc, e)) (by decide) (List.mem_of_getElem? (l := bz_t230) h)
theorem bz_q230 {Lg a b : Nat} : ∀ q ∈ (bz_t230.drop a).take b, (bz_Pg Lg true).2.2.2.1 230 q.1 = some q.2 := fun q hq => bz_tab_at (m := 230) (q := q) (by decide) (List.mem_of_mem_drop (l := bz_t230) (List.mem_of_mem_take hq))
theorem bz_r231 {Lg i pc : Nat} {e : bz_E} (h : bz_t231[i]? = some (pc, e)) : (bz_Pg Lg true).2.2.2.1 231 pc = some e := bz_tab_at (m := 231) (q := (pc, e)) (by decide) (List.mem_of_getElem? (l := bz_t231) h)
theorem bz_q231 {Lg a b : Nat} : ∀ q ∈ (bz_t231.drop a).take b, (bz_Pg Lg true).2.2.2.1 231 q.1 = some q.2 := fun q hq => bz_tab_at (m := 231) (q := q) (by decide) (List.mem_of_mem_drop (l := bz_t231) (List.mem_of_mem_take hq))
theorem bz_r232 {Lg i pc : Nat} {e : bz_E} (h : bz_t232[i]? = some (pc, e)) : (bz_Pg Lg true).2.2.2.1 232 pc = some e := bz_tab_at (m := 232) (q := (pc, e)) (by decide) (List.mem_of_getElem? (l := bz_t232) h)
theorem bz_q232 {Lg a b : Nat} : ∀ q ∈ (bz_t232.drop a).take b, (bz_Pg Lg true).2.2.2.1 232 q.1 = some q.2 := fun q hq => bz_tab_at (m := 232) (q := q) (by decide) (List.mem_of_mem_drop (l := bz_t232) (List.mem_of_mem_take hq))
theorem bz_r233 {Lg i pc : Nat} {e : bz_E} (h : bz_t233[i]? = some (pc, e)) : (bz_Pg Lg true).2.2.2.1 233 pc = some e := bz_tab_at (m := 233) (q := (pc, e)) (by decide) (List.mem_of_getElem? (l := bz_t233) h)
theorem bz_q233 {Lg a b : Nat} : ∀ q ∈ (bz_t233.drop a).take b, (bz_Pg Lg true).2.2.2.1 233 q.1 = some q.2 := fun q hq => bz_tab_at (m := 233) (q := q) (by decide) (List.mem_of_mem_drop (l := bz_t233) (List.mem_of_mem_take hq))
theorem bz_r234 {Lg i pc : Nat} {e : bz_E} (h : bz_t234[i]? = some (pc, e)) : (bz_Pg Lg true).2.2.2.1 234 pc = some e := bz_tab_at (m := 234) (q := (pc, e)) (by decide) (List.mem_of_getElem? (l := bz_t234) h)
theorem bz_q234 {Lg a b : Nat} : ∀ q ∈ (bz_t234.drop a).take b, (bz_Pg Lg true).2.2.2.1 234 q.1 = some q.2 := fun q hq => bz_tab_at (m := 234) (q := q) (by decide) (List.mem_of_mem_drop (l := bz_t234) (List.mem_of_mem_take hq))
theorem bz_r235 {Lg i pc : Nat} {e : bz_E} (h : bz_t235[i]? = some (pc, e)) : (bz_Pg Lg true).2.2.2.1 235 pc = some e := bz_tab_at (m := 235) (q := (pc, e)) (by decide) (List.mem_of_getElem? (l := bz_t235) h)
theorem bz_q235 {Lg a b : Nat} : ∀ q ∈ (bz_t235.drop a).take b, (bz_Pg Lg true).2.2.2.1 235 q.1 = some q.2 := fun q hq => bz_tab_at (m := 235) (q := q) (by decide) (List.mem_of_mem_drop (l := bz_t235) (List.mem_of_mem_take hq))
theorem bz_r236 {Lg i pc : Nat} {e : bz_E} (h : bz_t236[i]? = some (pc, e)) : (bz_Pg Lg true).2.2.2.1 236 pc = some e := bz_tab_at (m := 236) (q := (pc, e)) (by decide) (List.mem_of_getElem? (l := bz_t236) h)
theorem bz_q236 {Lg a b : Nat} : ∀ q ∈ (bz_t236.drop a).take b, (bz_Pg Lg true).2.2.2.1 236 q.1 = some q.2 := fun q hq => bz_tab_at (m := 236) (q := q) (by decide) (List.mem_of_mem_drop (l := bz_t236) (List.mem_of_mem_take hq))
theorem bz_r237 {Lg i pc : Nat} {e : bz_E} (h : bz_t237[i]? = some (pc, e)) : (bz_Pg Lg true).2.2.2.1 237 pc = some e := bz_tab_at (m := 237) (q := (pc, e)) (by decide) (List.mem_of_getElem? (l := bz_t237) h)
theorem bz_q237 {Lg a b : Nat} : ∀ q ∈ (bz_t237.drop a).take b, (bz_Pg Lg true).2.2.2.1 237 q.1 = some q.2 := fun q hq => bz_tab_at (m := 237) (q := q) (by decide) (List.mem_of_mem_drop (l := bz_t237) (List.mem_of_mem_take hq))
theorem bz_r238 {Lg i pc : Nat} {e : bz_E} (h : bz_t238[i]? = some (pc, e)) : (bz_Pg Lg true).2.2.2.1 238 pc = some e := bz_tab_at (m := 238) (q := (pc, e)) (by decide) (List.mem_of_getElem? (l := bz_t238) h)
theorem bz_q238 {Lg a b : Nat} : ∀ q ∈ (bz_t238.drop a).take b, (bz_Pg Lg true).2.2.2.1 238 q.1 = some q.2 := fun q hq => bz_tab_at (m := 238) (q := q) (by decide) (List.mem_of_mem_drop (l := bz_t238) (List.mem_of_mem_take hq))
theorem bz_r239 {Lg i pc : Nat} {e : bz_E} (h : bz_t239[i]? = some (pc, e)) : (bz_Pg Lg true).2.2.2.1 239 pc = some e := bz_tab_at (m := 239) (q := (pc, e)) (by decide) (List.mem_of_getElem? (l := bz_t239) h)
theorem bz_q239 {Lg a b : Nat} : ∀ q ∈ (bz_t239.drop a).take b, (bz_Pg Lg true).2.2.2.1 239 q.1 = some q.2 := fun q hq => bz_tab_at (m := 239) (q := q) (by decide) (List.mem_of_mem_drop (l := bz_t239) (List.mem_of_mem_take hq))
theorem bz_r240 {Lg i pc : Nat} {e : bz_E} (h : bz_t240[i]? = some (pc, e)) : (bz_Pg Lg true).2.2.2.1 240 pc = some e := bz_tab_at (m := 240) (q := (pc, e)) (by decide) (List.mem_of_getElem? (l := bz_t240) h)
theorem bz_q240 {Lg a b : Nat} : ∀ q ∈ (bz_t240.drop a).take b, (bz_Pg Lg true).2.2.2.1 240 q.1 = some q.2 := fun q hq => bz_tab_at (m := 240) (q := q) (by decide) (List.mem_of_mem_drop (l := bz_t240) (List.mem_of_mem_take hq))
theorem bz_r241 {Lg i pc : Nat} {e : bz_E} (h : bz_t241[i]? = some (pc, e)) : (bz_Pg Lg true).2.2.2.1 241 pc = some e := bz_tab_at (m := 241) (q := (pc, e)) (by decide) (List.mem_of_getElem? (l := bz_t241) h)
theorem bz_q241 {Lg a b : Nat} : ∀ q ∈ (bz_t241.drop a).take b, (bz_Pg Lg true).2.2.2.1 241 q.1 = some q.2 := fun q hq => bz_tab_at (m := 241) (q := q) (by decide) (List.mem_of_mem_drop (l := bz_t241) (List.mem_of_mem_take hq))
theorem bz_r242 {Lg i pc : Nat} {e : bz_E} (h : bz_t242[i]? = some (pc, e)) : (bz_Pg Lg true).2.2.2.1 242 pc = some e := bz_tab_at (m := 242) (q := (pc, e)) (by decide) (List.mem_of_getElem? (l := bz_t242) h)
theorem bz_q242 {Lg a b : Nat} : ∀ q ∈ (bz_t242.drop a).take b, (bz_Pg Lg true).2.2.2.1 242 q.1 = some q.2 := fun q hq => bz_tab_at (m := 242) (q := q) (by decide) (List.mem_of_mem_drop (l := bz_t242) (List.mem_of_mem_take hq))
theorem bz_r243 {Lg i pc : Nat} {e : bz_E} (h : bz_t243[i]? = some (pc, e)) : (bz_Pg Lg true).2.2.2.1 243 pc = some e := bz_tab_at (m := 243) (q := (pc, e)) (by decide) (List.mem_of_getElem? (l := bz_t243) h)
theorem bz_q243 {Lg a b : Nat} : ∀ q ∈ (bz_t243.drop a).take b, (bz_Pg Lg true).2.2.2.1 243 q.1 = some q.2 := fun q hq => bz_tab_at (m := 243) (q := q) (by decide) (List.mem_of_mem_drop (l := bz_t243) (List.mem_of_mem_take hq))
theorem bz_r244 {Lg i pc : Nat} {e : bz_E} (h : bz_t244[i]? = some (pc, e)) : (bz_Pg Lg true).2.2.2.1 244 pc = some e := bz_tab_at (m := 244) (q := (pc, e)) (by decide) (List.mem_of_getElem? (l := bz_t244) h)
theorem bz_q244 {Lg a b : Nat} : ∀ q ∈ (bz_t244.drop a).take b, (bz_Pg Lg true).2.2.2.1 244 q.1 = some q.2 := fun q hq => bz_tab_at (m := 244) (q := q) (by decide) (List.mem_of_mem_drop (l := bz_t244) (List.mem_of_mem_take hq))
theorem bz_r245 {Lg i pc : Nat} {e : bz_E} (h : bz_t245[i]? = some (pc, e)) : (bz_Pg Lg true).2.2.2.1 245 pc = some e := bz_tab_at (m := 245) (q := (pc, e)) (by decide) (List.mem_of_getElem? (l := bz_t245) h)
theorem bz_q245 {Lg a b : Nat} : ∀ q ∈ (bz_t245.drop a).take b, (bz_Pg Lg true).2.2.2.1 245 q.1 = some q.2 := fun q hq => bz_tab_at (m := 245) (q := q) (by decide) (List.mem_of_mem_drop (l := bz_t245) (List.mem_of_mem_take hq))
theorem bz_r246 {Lg i pc : Nat} {e : bz_E} (h : bz_t246[i]? = some (pc, e)) : (bz_Pg Lg true).2.2.2.1 246 pc = some e := bz_tab_at (m := 246) (q := (pc, e)) (by decide) (List.mem_of_getElem? (l := bz_t246) h)
theorem bz_q246 {Lg a b : Nat} : ∀ q ∈ (bz_t246.drop a).take b, (bz_Pg Lg true).2.2.2.1 246 q.1 = some q.2 := fun q hq => bz_tab_at (m := 246) (q := q) (by decide) (List.mem_of_mem_drop (l := bz_t246) (List.mem_of_mem_take hq))
theorem bz_r247 {Lg i pc : Nat} {e : bz_E} (h : bz_t247[i]? = some (pc, e)) : (bz_Pg Lg true).2.2.2.1 247 pc = some e := bz_tab_at (m := 247) (q := (pc, e)) (by decide) (List.mem_of_getElem? (l := bz_t247) h)
theorem bz_q247 {Lg a b : Nat} : ∀ q ∈ (bz_t247.drop a).take b, (bz_Pg Lg true).2.2.2.1 247 q.1 = some q.2 := fun q hq => bz_tab_at (m := 247) (q := q) (by decide) (List.mem_of_mem_drop (l := bz_t247) (List.mem_of_mem_take hq))
theorem bz_r248 {Lg i pc : Nat} {e : bz_E} (h : bz_t248[i]? = some (pc, e)) : (bz_Pg Lg true).2.2.2.1 248 pc = some e := bz_tab_at (m := 248) (q := (pc, e)) (by decide) (List.mem_of_getElem? (l := bz_t248) h)
theorem bz_q248 {Lg a b : Nat} : ∀ q ∈ (bz_t248.drop a).take b, (bz_Pg Lg true).2.2.2.1 248 q.1 = some q.2 := fun q hq => bz_tab_at (m := 248) (q := q) (by decide) (List.mem_of_mem_drop (l := bz_t248) (List.mem_of_mem_take hq))
theorem bz_r249 {Lg i pc : Nat} {e : bz_E} (h : bz_t249[i]? = some (pc, e)) : (bz_Pg Lg true).2.2.2.1 249 pc = some e := bz_tab_at (m := 249) (q := (pc, e)) (by decide) (List.mem_of_getElem? (l := bz_t249) h)
theorem bz_q249 {Lg a b : Nat} : ∀ q ∈ (bz_t249.drop a).take b, (bz_Pg Lg true).2.2.2.1 249 q.1 = some q.2 := fun q hq => bz_tab_at (m := 249) (q := q) (by decide) (List.mem_of_mem_drop (l := bz_t249) (List.mem_of_mem_take hq))
theorem bz_r250 {Lg i pc : Nat} {e : bz_E} (h : bz_t250[i]? = some (pc, e)) : (bz_Pg Lg true).2.2.2.1 250 pc = some e := bz_tab_at (m := 250) (q := (pc, e)) (by decide) (List.mem_of_getElem? (l := bz_t250) h)
theorem bz_q250 {Lg a b : Nat} : ∀ q ∈ (bz_t250.drop a).take b, (bz_Pg Lg true).2.2.2.1 250 q.1 = some q.2 := fun q hq => bz_tab_at (m := 250) (q := q) (by decide) (List.mem_of_mem_drop (l := bz_t250) (List.mem_of_mem_take hq))
theorem bz_r251 {Lg i pc : Nat} {e : bz_E} (h : bz_t251[i]? = some (pc, e)) : (bz_Pg Lg true).2.2.2.1 251 pc = some e := bz_tab_at (m := 251) (q := (pc, e)) (by decide) (List.mem_of_getElem? (l := bz_t251) h)
theorem bz_q251 {Lg a b : Nat} : ∀ q ∈ (bz_t251.drop a).take b, (bz_Pg Lg true).2.2.2.1 251 q.1 = some q.2 := fun q hq => bz_tab_at (m := 251) (q := q) (by decide) (List.mem_of_mem_drop (l := bz_t251) (List.mem_of_mem_take hq))
theorem bz_r252 {Lg i pc : Nat} {e : bz_E} (h : bz_t252[i]? = some (pc, e)) : (bz_Pg Lg true).2.2.2.1 252 pc = some e := bz_tab_at (m := 252) (q := (pc, e)) (by decide) (List.mem_of_getElem? (l := bz_t252) h)
theorem bz_q252 {Lg a b : Nat} : ∀ q ∈ (bz_t252.drop a).take b, (bz_Pg Lg true).2.2.2.1 252 q.1 = some q.2 := fun q hq => bz_tab_at (m := 252) (q := q) (by decide) (List.mem_of_mem_drop (l := bz_t252) (List.mem_of_mem_take hq))
theorem bz_r253 {Lg i pc : Nat} {e : bz_E} (h : bz_t253[i]? = some (pc, e)) : (bz_Pg Lg true).2.2.2.1 253 pc = some e := bz_tab_at (m := 253) (q := (pc, e)) (by decide) (List.mem_of_getElem? (l := bz_t253) h)
theorem bz_q253 {Lg a b : Nat} : ∀ q ∈ (bz_t253.drop a).take b, (bz_Pg Lg true).2.2.2.1 253 q.1 = some q.2 := fun q hq => bz_tab_at (m := 253) (q := q) (by decide) (List.mem_of_mem_drop (l := bz_t253) (List.mem_of_mem_take hq))
theorem bz_r254 {Lg i pc : Nat} {e : bz_E} (h : bz_t254[i]? = some (pc, e)) : (bz_Pg Lg true).2.2.2.1 254 pc = some e := bz_tab_at (m := 254) (q := (pc, e)) (by decide) (List.mem_of_getElem? (l := bz_t254) h)
theorem bz_q254 {Lg a b : Nat} : ∀ q ∈ (bz_t254.drop a).take b, (bz_Pg Lg true).2.2.2.1 254 q.1 = some q.2 := fun q hq => bz_tab_at (m := 254) (q := q) (by decide) (List.mem_of_mem_drop (l := bz_t254) (List.mem_of_mem_take hq))
theorem bz_r255 {Lg i pc : Nat} {e : bz_E} (h : bz_t255[i]? = some (pc, e)) : (bz_Pg Lg true).2.2.2.1 255 pc = some e := bz_tab_at (m := 255) (q := (pc, e)) (by decide) (List.mem_of_getElem? (l := bz_t255) h)
theorem bz_q255 {Lg a b : Nat} : ∀ q ∈ (bz_t255.drop a).take b, (bz_Pg Lg true).2.2.2.1 255 q.1 = some q.2 := fun q hq => bz_tab_at (m := 255) (q := q) (by decide) (List.mem_of_mem_drop (l := bz_t255) (List.mem_of_mem_take hq))
theorem bz_r256 {Lg i pc : Nat} {e : bz_E} (h : bz_t256[i]? = some (pc, e)) : (bz_Pg Lg true).2.2.2.1 256 pc = some e := bz_tab_at (m := 256) (q := (pc, e)) (by decide) (List.mem_of_getElem? (l := bz_t256) h)
theorem bz_q256 {Lg a b : Nat} : ∀ q ∈ (bz_t256.drop a).take b, (bz_Pg Lg true).2.2.2.1 256 q.1 = some q.2 := fun q hq => bz_tab_at (m := 256) (q := q) (by decide) (List.mem_of_mem_drop (l := bz_t256) (List.mem_of_mem_take hq))
theorem bz_r257 {Lg i pc : Nat} {e : bz_E} (h : bz_t257[i]? = some (pc, e)) : (bz_Pg Lg true).2.2.2.1 257 pc = some e := bz_tab_at (m := 257) (q := (pc, e)) (by decide) (List.mem_of_getElem? (l := bz_t257) h)
theorem bz_q257 {Lg a b : Nat} : ∀ q ∈ (bz_t257.drop a).take b, (bz_Pg Lg true).2.2.2.1 257 q.1 = some q.2 := fun q hq => bz_tab_at (m := 257) (q := q) (by decide) (List.mem_of_mem_drop (l := bz_t257) (List.mem_of_mem_take hq))
theorem bz_r258 {Lg i pc : Nat} {e : bz_E} (h : bz_t258[i]? = some (pc, e)) : (bz_Pg Lg true).2.2.2.1 258 pc = some e := bz_tab_at (m := 258) (q := (pc, e)) (by decide) (List.mem_of_getElem? (l := bz_t258) h)
theorem bz_q258 {Lg a b : Nat} : ∀ q ∈ (bz_t258.drop a).take b, (bz_Pg Lg true).2.2.2.1 258 q.1 = some q.2 := fun q hq => bz_tab_at (m := 258) (q := q) (by decide) (List.mem_of_mem_drop (l := bz_t258) (List.mem_of_mem_take hq))
theorem bz_r259 {Lg i pc : Nat} {e : bz_E} (h : bz_t259[i]? = some (pc, e)) : (bz_Pg Lg true).2.2.2.1 259 pc = some e := bz_tab_at (m := 259) (q := (pc, e)) (by decide) (List.mem_of_getElem? (l := bz_t259) h)
theorem bz_q259 {Lg a b : Nat} : ∀ q ∈ (bz_t259.drop a).take b, (bz_Pg Lg true).2.2.2.1 259 q.1 = some q.2 := fun q hq => bz_tab_at (m := 259) (q := q) (by decide) (List.mem_of_mem_drop (l := bz_t259) (List.mem_of_mem_take hq))
theorem bz_r260 {Lg i pc : Nat} {e : bz_E} (h : bz_t260[i]? = some (pc, e)) : (bz_Pg Lg true).2.2.2.1 260 pc = some e := bz_tab_at (m := 260) (q := (pc, e)) (by decide) (List.mem_of_getElem? (l := bz_t260) h)
theorem bz_q260 {Lg a b : Nat} : ∀ q ∈ (bz_t260.drop a).take b, (bz_Pg Lg true).2.2.2.1 260 q.1 = some q.2 := fun q hq => bz_tab_at (m := 260) (q := q) (by decide) (List.mem_of_mem_drop (l := bz_t260) (List.mem_of_mem_take hq))
theorem bz_r261 {Lg i pc : Nat} {e : bz_E} (h : bz_t261[i]? = some (pc, e)) : (bz_Pg Lg true).2.2.2.1 261 pc = some e := bz_tab_at (m := 261) (q := (pc, e)) (by decide) (List.mem_of_getElem? (l := bz_t261) h)
theorem bz_q261 {Lg a b : Nat} : ∀ q ∈ (bz_t261.drop a).take b, (bz_Pg Lg true).2.2.2.1 261 q.1 = some q.2 := fun q hq => bz_tab_at (m := 261) (q := q) (by decide) (List.mem_of_mem_drop (l := bz_t261) (List.mem_of_mem_take hq))
theorem bz_r262 {Lg i pc : Nat} {e : bz_E} (h : bz_t262[i]? = some (pc, e)) : (bz_Pg Lg true).2.2.2.1 262 pc = some e := bz_tab_at (m := 262) (q := (pc, e)) (by decide) (List.mem_of_getElem? (l := bz_t262) h)
theorem bz_q262 {Lg a b : Nat} : ∀ q ∈ (bz_t262.drop a).take b, (bz_Pg Lg true).2.2.2.1 262 q.1 = some q.2 := fun q hq => bz_tab_at (m := 262) (q := q) (by decide) (List.mem_of_mem_drop (l := bz_t262) (List.mem_of_mem_take hq))
theorem bz_r263 {Lg i pc : Nat} {e : bz_E} (h : bz_t263[i]? = some (pc, e)) : (bz_Pg Lg true).2.2.2.1 263 pc = some e := bz_tab_at (m := 263) (q := (pc, e)) (by decide) (List.mem_of_getElem? (l := bz_t263) h)
theorem bz_q263 {Lg a b : Nat} : ∀ q ∈ (bz_t263.drop a).take b, (bz_Pg Lg true).2.2.2.1 263 q.1 = some q.2 := fun q hq => bz_tab_at (m := 263) (q := q) (by decide) (List.mem_of_mem_drop (l := bz_t263) (List.mem_of_mem_take hq))
theorem bz_r264 {Lg i pc : Nat} {e : bz_E} (h : bz_t264[i]? = some (pc, e)) : (bz_Pg Lg true).2.2.2.1 264 pc = some e := bz_tab_at (m := 264) (q := (pc, e)) (by decide) (List.mem_of_getElem? (l := bz_t264) h)
theorem bz_q264 {Lg a b : Nat} : ∀ q ∈ (bz_t264.drop a).take b, (bz_Pg Lg true).2.2.2.1 264 q.1 = some q.2 := fun q hq => bz_tab_at (m := 264) (q := q) (by decide) (List.mem_of_mem_drop (l := bz_t264) (List.mem_of_mem_take hq))
theorem bz_r265 {Lg i pc : Nat} {e : bz_E} (h : bz_t265[i]? = some (pc, e)) : (bz_Pg Lg true).2.2.2.1 265 pc = some e := bz_tab_at (m := 265) (q := (pc, e)) (by decide) (List.mem_of_getElem? (l := bz_t265) h)
theorem bz_q265 {Lg a b : Nat} : ∀ q ∈ (bz_t265.drop a).take b, (bz_Pg Lg true).2.2.2.1 265 q.1 = some q.2 := fun q hq => bz_tab_at (m := 265) (q := q) (by decide) (List.mem_of_mem_drop (l := bz_t265) (List.mem_of_mem_take hq))
theorem bz_r266 {Lg i pc : Nat} {e : bz_E} (h : bz_t266[i]? = some (pc, e)) : (bz_Pg Lg true).2.2.2.1 266 pc = some e := bz_tab_at (m := 266) (q := (pc, e)) (by decide) (List.mem_of_getElem? (l := bz_t266) h)
theorem bz_q266 {Lg a b : Nat} : ∀ q ∈ (bz_t266.drop a).take b, (bz_Pg Lg true).2.2.2.1 266 q.1 = some q.2 := fun q hq => bz_tab_at (m := 266) (q := q) (by decide) (List.mem_of_mem_drop (l := bz_t266) (List.mem_of_mem_take hq))
theorem bz_r267 {Lg i pc : Nat} {e : bz_E} (h : bz_t267[i]? = some (pc, e)) : (bz_Pg Lg true).2.2.2.1 267 pc = some e := bz_tab_at (m := 267) (q := (pc, e)) (by decide) (List.mem_of_getElem? (l := bz_t267) h)
theorem bz_q267 {Lg a b : Nat} : ∀ q ∈ (bz_t267.drop a).take b, (bz_Pg Lg true).2.2.2.1 267 q.1 = some q.2 := fun q hq => bz_tab_at (m := 267) (q := q) (by decide) (List.mem_of_mem_drop (l := bz_t267) (List.mem_of_mem_take hq))
theorem bz_r268 {Lg i pc : Nat} {e : bz_E} (h : bz_t268[i]? = some (pc, e)) : (bz_Pg Lg true).2.2.2.1 268 pc = some e := bz_tab_at (m := 268) (q := (pc, e)) (by decide) (List.mem_of_getElem? (l := bz_t268) h)
theorem bz_q268 {Lg a b : Nat} : ∀ q ∈ (bz_t268.drop a).take b, (bz_Pg Lg true).2.2.2.1 268 q.1 = some q.2 := fun q hq => bz_tab_at (m := 268) (q := q) (by decide) (List.mem_of_mem_drop (l := bz_t268) (List.mem_of_mem_take hq))
theorem bz_r269 {Lg i pc : Nat} {e : bz_E} (h : bz_t269[i]? = some (pc, e)) : (bz_Pg Lg true).2.2.2.1 269 pc = some e := bz_tab_at (m := 269) (q := (pc, e)) (by decide) (List.mem_of_getElem? (l := bz_t269) h)
theorem bz_q269 {Lg a b : Nat} : ∀ q ∈ (bz_t269.drop a).take b, (bz_Pg Lg true).2.2.2.1 269 q.1 = some q.2 := fun q hq => bz_tab_at (m := 269) (q := q) (by decide) (List.mem_of_mem_drop (l := bz_t269) (List.mem_of_mem_take hq))
theorem bz_r270 {Lg i pc : Nat} {e : bz_E} (h : bz_t270[i]? = some (pc, e)) : (bz_Pg Lg true).2.2.2.1 270 pc = some e := bz_tab_at (m := 270) (q := (pc, e)) (by decide) (List.mem_of_getElem? (l := bz_t270) h)
theorem bz_q270 {Lg a b : Nat} : ∀ q ∈ (bz_t270.drop a).take b, (bz_Pg Lg true).2.2.2.1 270 q.1 = some q.2 := fun q hq => bz_tab_at (m := 270) (q := q) (by decide) (List.mem_of_mem_drop (l := bz_t270) (List.mem_of_mem_take hq))
theorem bz_r271 {Lg i pc : Nat} {e : bz_E} (h : bz_t271[i]? = some (pc, e)) : (bz_Pg Lg true).2.2.2.1 271 pc = some e := bz_tab_at (m := 271) (q := (pc, e)) (by decide) (List.mem_of_getElem? (l := bz_t271) h)
theorem bz_q271 {Lg a b : Nat} : ∀ q ∈ (bz_t271.drop a).take b, (bz_Pg Lg true).2.2.2.1 271 q.1 = some q.2 := fun q hq => bz_tab_at (m := 271) (q := q) (by decide) (List.mem_of_mem_drop (l := bz_t271) (List.mem_of_mem_take hq))
theorem bz_r272 {Lg i pc : Nat} {e : bz_E} (h : bz_t272[i]? = some (pc, e)) : (bz_Pg Lg true).2.2.2.1 272 pc = some e := bz_tab_at (m := 272) (q := (pc, e)) (by decide) (List.mem_of_getElem? (l := bz_t272) h)
theorem bz_q272 {Lg a b : Nat} : ∀ q ∈ (bz_t272.drop a).take b, (bz_Pg Lg true).2.2.2.1 272 q.1 = some q.2 := fun q hq => bz_tab_at (m := 272) (q := q) (by decide) (List.mem_of_mem_drop (l := bz_t272) (List.mem_of_mem_take hq))
theorem bz_r273 {Lg i pc : Nat} {e : bz_E} (h : bz_t273[i]? = some (pc, e)) : (bz_Pg Lg true).2.2.2.1 273 pc = some e := bz_tab_at (m := 273) (q := (pc, e)) (by decide) (List.mem_of_getElem? (l := bz_t273) h)
theorem bz_q273 {Lg a b : Nat} : ∀ q ∈ (bz_t273.drop a).take b, (bz_Pg Lg true).2.2.2.1 273 q.1 = some q.2 := fun q hq => bz_tab_at (m := 273) (q := q) (by decide) (List.mem_of_mem_drop (l := bz_t273) (List.mem_of_mem_take hq))
theorem bz_r274 {Lg i pc : Nat} {e : bz_E} (h : bz_t274[i]? = some (pc, e)) : (bz_Pg Lg true).2.2.2.1 274 pc = some e := bz_tab_at (m := 274) (q := (pc, e)) (by decide) (List.mem_of_getElem? (l := bz_t274) h)
theorem bz_q274 {Lg a b : Nat} : ∀ q ∈ (bz_t274.drop a).take b, (bz_Pg Lg true).2.2.2.1 274 q.1 = some q.2 := fun q hq => bz_tab_at (m := 274) (q := q) (by decide) (List.mem_of_mem_drop (l := bz_t274) (List.mem_of_mem_take hq))
theorem bz_r275 {Lg i pc : Nat} {e : bz_E} (h : bz_t275[i]? = some (pc, e)) : (bz_Pg Lg true).2.2.2.1 275 pc = some e := bz_tab_at (m := 275) (q := (pc, e)) (by decide) (List.mem_of_getElem? (l := bz_t275) h)
theorem bz_q275 {Lg a b : Nat} : ∀ q ∈ (bz_t275.drop a).take b, (bz_Pg Lg true).2.2.2.1 275 q.1 = some q.2 := fun q hq => bz_tab_at (m := 275) (q := q) (by decide) (List.mem_of_mem_drop (l := bz_t275) (List.mem_of_mem_take hq))
theorem bz_r276 {Lg i pc : Nat} {e : bz_E} (h : bz_t276[i]? = some (pc, e)) : (bz_Pg Lg true).2.2.2.1 276 pc = some e := bz_tab_at (m := 276) (q := (pc, e)) (by decide) (List.mem_of_getElem? (l := bz_t276) h)
theorem bz_q276 {Lg a b : Nat} : ∀ q ∈ (bz_t276.drop a).take b, (bz_Pg Lg true).2.2.2.1 276 q.1 = some q.2 := fun q hq => bz_tab_at (m := 276) (q := q) (by decide) (List.mem_of_mem_drop (l := bz_t276) (List.mem_of_mem_take hq))
theorem bz_r277 {Lg i pc : Nat} {e : bz_E} (h : bz_t277[i]? = some (pc, e)) : (bz_Pg Lg true).2.2.2.1 277 pc = some e := bz_tab_at (m := 277) (q := (pc, e)) (by decide) (List.mem_of_getElem? (l := bz_t277) h)
theorem bz_q277 {Lg a b : Nat} : ∀ q ∈ (bz_t277.drop a).take b, (bz_Pg Lg true).2.2.2.1 277 q.1 = some q.2 := fun q hq => bz_tab_at (m := 277) (q := q) (by decide) (List.mem_of_mem_drop (l := bz_t277) (List.mem_of_mem_take hq))
theorem bz_r278 {Lg i pc : Nat} {e : bz_E} (h : bz_t278[i]? = some (pc, e)) : (bz_Pg Lg true).2.2.2.1 278 pc = some e := bz_tab_at (m := 278) (q := (pc, e)) (by decide) (List.mem_of_getElem? (l := bz_t278) h)
theorem bz_q278 {Lg a b : Nat} : ∀ q ∈ (bz_t278.drop a).take b, (bz_Pg Lg true).2.2.2.1 278 q.1 = some q.2 := fun q hq => bz_tab_at (m := 278) (q := q) (by decide) (List.mem_of_mem_drop (l := bz_t278) (List.mem_of_mem_take hq))
theorem bz_r279 {Lg i pc : Nat} {e : bz_E} (h : bz_t279[i]? = some (pc, e)) : (bz_Pg Lg true).2.2.2.1 279 pc = some e := bz_tab_at (m := 279) (q := (pc, e)) (by decide) (List.mem_of_getElem? (l := bz_t279) h)
theorem bz_q279 {Lg a b : Nat} : ∀ q ∈ (bz_t279.drop a).take b, (bz_Pg Lg true).2.2.2.1 279 q.1 = some q.2 := fun q hq => bz_tab_at (m := 279) (q := q) (by decide) (List.mem_of_mem_drop (l := bz_t279) (List.mem_of_mem_take hq))
theorem bz_r280 {Lg i pc : Nat} {e : bz_E} (h : bz_t280[i]? = some (pc, e)) : (bz_Pg Lg true).2.2.2.1 280 pc = some e := bz_tab_at (m := 280) (q := (pc, e)) (by decide) (List.mem_of_getElem? (l := bz_t280) h)
theorem bz_q280 {Lg a b : Nat} : ∀ q ∈ (bz_t280.drop a).take b, (bz_Pg Lg true).2.2.2.1 280 q.1 = some q.2 := fun q hq => bz_tab_at (m := 280) (q := q) (by decide) (List.mem_of_mem_drop (l := bz_t280) (List.mem_of_mem_take hq))
theorem bz_r281 {Lg i pc : Nat} {e : bz_E} (h : bz_t281[i]? = some (pc, e)) : (bz_Pg Lg true).2.2.2.1 281 pc = some e := bz_tab_at (m := 281) (q := (pc, e)) (by decide) (List.mem_of_getElem? (l := bz_t281) h)
theorem bz_q281 {Lg a b : Nat} : ∀ q ∈ (bz_t281.drop a).take b, (bz_Pg Lg true).2.2.2.1 281 q.1 = some q.2 := fun q hq => bz_tab_at (m := 281) (q := q) (by decide) (List.mem_of_mem_drop (l := bz_t281) (List.mem_of_mem_take hq))
theorem bz_r282 {Lg i pc : Nat} {e : bz_E} (h : bz_t282[i]? = some (pc, e)) : (bz_Pg Lg true).2.2.2.1 282 pc = some e := bz_tab_at (m := 282) (q := (pc, e)) (by decide) (List.mem_of_getElem? (l := bz_t282) h)
theorem bz_q282 {Lg a b : Nat} : ∀ q ∈ (bz_t282.drop a).take b, (bz_Pg Lg true).2.2.2.1 282 q.1 = some q.2 := fun q hq => bz_tab_at (m := 282) (q := q) (by decide) (List.mem_of_mem_drop (l := bz_t282) (List.mem_of_mem_take hq))
theorem bz_r283 {Lg i pc : Nat} {e : bz_E} (h : bz_t283[i]? = some (pc, e)) : (bz_Pg Lg true).2.2.2.1 283 pc = some e := bz_tab_at (m := 283) (q := (pc, e)) (by decide) (List.mem_of_getElem? (l := bz_t283) h)
theorem bz_q283 {Lg a b : Nat} : ∀ q ∈ (bz_t283.drop a).take b, (bz_Pg Lg true).2.2.2.1 283 q.1 = some q.2 := fun q hq => bz_tab_at (m := 283) (q := q) (by decide) (List.mem_of_mem_drop (l := bz_t283) (List.mem_of_mem_take hq))
theorem bz_r284 {Lg i pc : Nat} {e : bz_E} (h : bz_t284[i]? = some (pc, e)) : (bz_Pg Lg true).2.2.2.1 284 pc = some e := bz_tab_at (m := 284) (q := (pc, e)) (by decide) (List.mem_of_getElem? (l := bz_t284) h)
theorem bz_q284 {Lg a b : Nat} : ∀ q ∈ (bz_t284.drop a).take b, (bz_Pg Lg true).2.2.2.1 284 q.1 = some q.2 := fun q hq => bz_tab_at (m := 284) (q := q) (by decide) (List.mem_of_mem_drop (l := bz_t284) (List.mem_of_mem_take hq))
theorem bz_r285 {Lg i pc : Nat} {e : bz_E} (h : bz_t285[i]? = some (pc, e)) : (bz_Pg Lg true).2.2.2.1 285 pc = some e := bz_tab_at (m := 285) (q := (pc, e)) (by decide) (List.mem_of_getElem? (l := bz_t285) h)
theorem bz_q285 {Lg a b : Nat} : ∀ q ∈ (bz_t285.drop a).take b, (bz_Pg Lg true).2.2.2.1 285 q.1 = some q.2 := fun q hq => bz_tab_at (m := 285) (q := q) (by decide) (List.mem_of_mem_drop (l := bz_t285) (List.mem_of_mem_take hq))
theorem bz_r286 {Lg i pc : Nat} {e : bz_E} (h : bz_t286[i]? = some (pc, e)) : (bz_Pg Lg true).2.2.2.1 286 pc = some e := bz_tab_at (m := 286) (q := (pc, e)) (by decide) (List.mem_of_getElem? (l := bz_t286) h)
theorem bz_q286 {Lg a b : Nat} : ∀ q ∈ (bz_t286.drop a).take b, (bz_Pg Lg true).2.2.2.1 286 q.1 = some q.2 := fun q hq => bz_tab_at (m := 286) (q := q) (by decide) (List.mem_of_mem_drop (l := bz_t286) (List.mem_of_mem_take hq))
theorem bz_r287 {Lg i pc : Nat} {e : bz_E} (h : bz_t287[i]? = some (pc, e)) : (bz_Pg Lg true).2.2.2.1 287 pc = some e := bz_tab_at (m := 287) (q := (pc, e)) (by decide) (List.mem_of_getElem? (l := bz_t287) h)
theorem bz_q287 {Lg a b : Nat} : ∀ q ∈ (bz_t287.drop a).take b, (bz_Pg Lg true).2.2.2.1 287 q.1 = some q.2 := fun q hq => bz_tab_at (m := 287) (q := q) (by decide) (List.mem_of_mem_drop (l := bz_t287) (List.mem_of_mem_take hq))
theorem bz_r288 {Lg i pc : Nat} {e : bz_E} (h : bz_t288[i]? = some (pc, e)) : (bz_Pg Lg true).2.2.2.1 288 pc = some e := bz_tab_at (m := 288) (q := (pc, e)) (by decide) (List.mem_of_getElem? (l := bz_t288) h)
theorem bz_q288 {Lg a b : Nat} : ∀ q ∈ (bz_t288.drop a).take b, (bz_Pg Lg true).2.2.2.1 288 q.1 = some q.2 := fun q hq => bz_tab_at (m := 288) (q := q) (by decide) (List.mem_of_mem_drop (l := bz_t288) (List.mem_of_mem_take hq))
theorem bz_r289 {Lg i pc : Nat} {e : bz_E} (h : bz_t289[i]? = some (pc, e)) : (bz_Pg Lg true).2.2.2.1 289 pc = some e := bz_tab_at (m := 289) (q := (pc, e)) (by decide) (List.mem_of_getElem? (l := bz_t289) h)
theorem bz_q289 {Lg a b : Nat} : ∀ q ∈ (bz_t289.drop a).take b, (bz_Pg Lg true).2.2.2.1 289 q.1 = some q.2 := fun q hq => bz_tab_at (m := 289) (q := q) (by decide) (List.mem_of_mem_drop (l := bz_t289) (List.mem_of_mem_take hq))
theorem bz_r290 {Lg i pc : Nat} {e : bz_E} (h : bz_t290[i]? = some (pc, e)) : (bz_Pg Lg true).2.2.2.1 290 pc = some e := bz_tab_at (m := 290) (q := (pc, e)) (by decide) (List.mem_of_getElem? (l := bz_t290) h)
theorem bz_q290 {Lg a b : Nat} : ∀ q ∈ (bz_t290.drop a).take b, (bz_Pg Lg true).2.2.2.1 290 q.1 = some q.2 := fun q hq => bz_tab_at (m := 290) (q := q) (by decide) (List.mem_of_mem_drop (l := bz_t290) (List.mem_of_mem_take hq))
theorem bz_r291 {Lg i pc : Nat} {e : bz_E} (h : bz_t291[i]? = some (pc, e)) : (bz_Pg Lg true).2.2.2.1 291 pc = some e := bz_tab_at (m := 291) (q := (pc, e)) (by decide) (List.mem_of_getElem? (l := bz_t291) h)
theorem bz_q291 {Lg a b : Nat} : ∀ q ∈ (bz_t291.drop a).take b, (bz_Pg Lg true).2.2.2.1 291 q.1 = some q.2 := fun q hq => bz_tab_at (m := 291) (q := q) (by decide) (List.mem_of_mem_drop (l := bz_t291) (List.mem_of_mem_take hq))
theorem bz_r292 {Lg i pc : Nat} {e : bz_E} (h : bz_t292[i]? = some (pc, e)) : (bz_Pg Lg true).2.2.2.1 292 pc = some e := bz_tab_at (m := 292) (q := (pc, e)) (by decide) (List.mem_of_getElem? (l := bz_t292) h)
theorem bz_q292 {Lg a b : Nat} : ∀ q ∈ (bz_t292.drop a).take b, (bz_Pg Lg true).2.2.2.1 292 q.1 = some q.2 := fun q hq => bz_tab_at (m := 292) (q := q) (by decide) (List.mem_of_mem_drop (l := bz_t292) (List.mem_of_mem_take hq))
theorem bz_r293 {Lg i pc : Nat} {e : bz_E} (h : bz_t293[i]? = some (pc, e)) : (bz_Pg Lg true).2.2.2.1 293 pc = some e := bz_tab_at (m := 293) (q := (pc, e)) (by decide) (List.mem_of_getElem? (l := bz_t293) h)
theorem bz_q293 {Lg a b : Nat} : ∀ q ∈ (bz_t293.drop a).take b, (bz_Pg Lg true).2.2.2.1 293 q.1 = some q.2 := fun q hq => bz_tab_at (m := 293) (q := q) (by decide) (List.mem_of_mem_drop (l := bz_t293) (List.mem_of_mem_take hq))
theorem bz_r294 {Lg i pc : Nat} {e : bz_E} (h : bz_t294[i]? = some (pc, e)) : (bz_Pg Lg true).2.2.2.1 294 pc = some e := bz_tab_at (m := 294) (q := (pc, e)) (by decide) (List.mem_of_getElem? (l := bz_t294) h)
theorem bz_q294 {Lg a b : Nat} : ∀ q ∈ (bz_t294.drop a).take b, (bz_Pg Lg true).2.2.2.1 294 q.1 = some q.2 := fun q hq => bz_tab_at (m := 294) (q := q) (by decide) (List.mem_of_mem_drop (l := bz_t294) (List.mem_of_mem_take hq))
theorem bz_r295 {Lg i pc : Nat} {e : bz_E} (h : bz_t295[i]? = some (pc, e)) : (bz_Pg Lg true).2.2.2.1 295 pc = some e := bz_tab_at (m := 295) (q := (pc, e)) (by decide) (List.mem_of_getElem? (l := bz_t295) h)
theorem bz_q295 {Lg a b : Nat} : ∀ q ∈ (bz_t295.drop a).take b, (bz_Pg Lg true).2.2.2.1 295 q.1 = some q.2 := fun q hq => bz_tab_at (m := 295) (q := q) (by decide) (List.mem_of_mem_drop (l := bz_t295) (List.mem_of_mem_take hq))
theorem bz_r296 {Lg i pc : Nat} {e : bz_E} (h : bz_t296[i]? = some (pc, e)) : (bz_Pg Lg true).2.2.2.1 296 pc = some e := bz_tab_at (m := 296) (q := (pc, e)) (by decide) (List.mem_of_getElem? (l := bz_t296) h)
theorem bz_q296 {Lg a b : Nat} : ∀ q ∈ (bz_t296.drop a).take b, (bz_Pg Lg true).2.2.2.1 296 q.1 = some q.2 := fun q hq => bz_tab_at (m := 296) (q := q) (by decide) (List.mem_of_mem_drop (l := bz_t296) (List.mem_of_mem_take hq))
theorem bz_r297 {Lg i pc : Nat} {e : bz_E} (h : bz_t297[i]? = some (pc, e)) : (bz_Pg Lg true).2.2.2.1 297 pc = some e := bz_tab_at (m := 297) (q := (pc, e)) (by decide) (List.mem_of_getElem? (l := bz_t297) h)
theorem bz_q297 {Lg a b : Nat} : ∀ q ∈ (bz_t297.drop a).take b, (bz_Pg Lg true).2.2.2.1 297 q.1 = some q.2 := fun q hq => bz_tab_at (m := 297) (q := q) (by decide) (List.mem_of_mem_drop (l := bz_t297) (List.mem_of_mem_take hq))
theorem bz_r298 {Lg i pc : Nat} {e : bz_E} (h : bz_t298[i]? = some (pc, e)) : (bz_Pg Lg true).2.2.2.1 298 pc = some e := bz_tab_at (m := 298) (q := (pc, e)) (by decide) (List.mem_of_getElem? (l := bz_t298) h)
theorem bz_q298 {Lg a b : Nat} : ∀ q ∈ (bz_t298.drop a).take b, (bz_Pg Lg true).2.2.2.1 298 q.1 = some q.2 := fun q hq => bz_tab_at (m := 298) (q := q) (by decide) (List.mem_of_mem_drop (l := bz_t298) (List.mem_of_mem_take hq))
theorem bz_r299 {Lg i pc : Nat} {e : bz_E} (h : bz_t299[i]? = some (pc, e)) : (bz_Pg Lg true).2.2.2.1 299 pc = some e := bz_tab_at (m := 299) (q := (pc, e)) (by decide) (List.mem_of_getElem? (l := bz_t299) h)
theorem bz_q299 {Lg a b : Nat} : ∀ q ∈ (bz_t299.drop a).take b, (bz_Pg Lg true).2.2.2.1 299 q.1 = some q.2 := fun q hq => bz_tab_at (m := 299) (q := q) (by decide) (List.mem_of_mem_drop (l := bz_t299) (List.mem_of_mem_take hq))
theorem bz_r300 {Lg i pc : Nat} {e : bz_E} (h : bz_t300[i]? = some (pc, e)) : (bz_Pg Lg true).2.2.2.1 300 pc = some e := bz_tab_at (m := 300) (q := (pc, e)) (by decide) (List.mem_of_getElem? (l := bz_t300) h)
theorem bz_q300 {Lg a b : Nat} : ∀ q ∈ (bz_t300.drop a).take b, (bz_Pg Lg true).2.2.2.1 300 q.1 = some q.2 := fun q hq => bz_tab_at (m := 300) (q := q) (by decide) (List.mem_of_mem_drop (l := bz_t300) (List.mem_of_mem_take hq))
theorem bz_r301 {Lg i pc : Nat} {e : bz_E} (h : bz_t301[i]? = some (pc, e)) : (bz_Pg Lg true).2.2.2.1 301 pc = some e := bz_tab_at (m := 301) (q := (pc, e)) (by decide) (List.mem_of_getElem? (l := bz_t301) h)
theorem bz_q301 {Lg a b : Nat} : ∀ q ∈ (bz_t301.drop a).take b, (bz_Pg Lg true).2.2.2.1 301 q.1 = some q.2 := fun q hq => bz_tab_at (m := 301) (q := q) (by decide) (List.mem_of_mem_drop (l := bz_t301) (List.mem_of_mem_take hq))
theorem bz_r302 {Lg i pc : Nat} {e : bz_E} (h : bz_t302[i]? = some (pc, e)) : (bz_Pg Lg true).2.2.2.1 302 pc = some e := bz_tab_at (m := 302) (q := (pc, e)) (by decide) (List.mem_of_getElem? (l := bz_t302) h)
theorem bz_q302 {Lg a b : Nat} : ∀ q ∈ (bz_t302.drop a).take b, (bz_Pg Lg true).2.2.2.1 302 q.1 = some q.2 := fun q hq => bz_tab_at (m := 302) (q := q) (by decide) (List.mem_of_mem_drop (l := bz_t302) (List.mem_of_mem_take hq))
theorem bz_r303 {Lg i pc : Nat} {e : bz_E} (h : bz_t303[i]? = some (pc, e)) : (bz_Pg Lg true).2.2.2.1 303 pc = some e := bz_tab_at (m := 303) (q := (pc, e)) (by decide) (List.mem_of_getElem? (l := bz_t303) h)
theorem bz_q303 {Lg a b : Nat} : ∀ q ∈ (bz_t303.drop a).take b, (bz_Pg Lg true).2.2.2.1 303 q.1 = some q.2 := fun q hq => bz_tab_at (m := 303) (q := q) (by decide) (List.mem_of_mem_drop (l := bz_t303) (List.mem_of_mem_take hq))
theorem bz_r304 {Lg i pc : Nat} {e : bz_E} (h : bz_t304[i]? = some (pc, e)) : (bz_Pg Lg true).2.2.2.1 304 pc = some e := bz_tab_at (m := 304) (q := (pc, e)) (by decide) (List.mem_of_getElem? (l := bz_t304) h)
theorem bz_q304 {Lg a b : Nat} : ∀ q ∈ (bz_t304.drop a).take b, (bz_Pg Lg true).2.2.2.1 304 q.1 = some q.2 := fun q hq => bz_tab_at (m := 304) (q := q) (by decide) (List.mem_of_mem_drop (l := bz_t304) (List.mem_of_mem_take hq))
theorem bz_r310 {Lg i pc : Nat} {e : bz_E} (h : bz_t310[i]? = some (pc, e)) : (bz_Pg Lg true).2.2.2.1 310 pc = some e := bz_tab_at (m := 310) (q := (pc, e)) (by decide) (List.mem_of_getElem? (l := bz_t310) h)
theorem bz_q310 {Lg a b : Nat} : ∀ q ∈ (bz_t310.drop a).take b, (bz_Pg Lg true).2.2.2.1 310 q.1 = some q.2 := fun q hq => bz_tab_at (m := 310) (q := q) (by decide) (List.mem_of_mem_drop (l := bz_t310) (List.mem_of_mem_take hq))
theorem bz_r311 {Lg i pc : Nat} {e : bz_E} (h : bz_t311[i]? = some (pc, e)) : (bz_Pg Lg true).2.2.2.1 311 pc = some e := bz_tab_at (m := 311) (q := (pc, e)) (by decide) (List.mem_of_getElem? (l := bz_t311) h)
theorem bz_q311 {Lg a b : Nat} : ∀ q ∈ (bz_t311.drop a).take b, (bz_Pg Lg true).2.2.2.1 311 q.1 = some q.2 := fun q hq => bz_tab_at (m := 311) (q := q) (by decide) (List.mem_of_mem_drop (l := bz_t311) (List.mem_of_mem_take hq))
theorem bz_r312 {Lg i pc : Nat} {e : bz_E} (h : bz_t312[i]? = some (pc, e)) : (bz_Pg Lg true).2.2.2.1 312 pc = some e := bz_tab_at (m := 312) (q := (pc, e)) (by decide) (List.mem_of_getElem? (l := bz_t312) h)
theorem bz_q312 {Lg a b : Nat} : ∀ q ∈ (bz_t312.drop a).take b, (bz_Pg Lg true).2.2.2.1 312 q.1 = some q.2 := fun q hq => bz_tab_at (m := 312) (q := q) (by decide) (List.mem_of_mem_drop (l := bz_t312) (List.mem_of_mem_take hq))
theorem bz_r313 {Lg i pc : Nat} {e : bz_E} (h : bz_t313[i]? = some (pc, e)) : (bz_Pg Lg true).2.2.2.1 313 pc = some e := bz_tab_at (m := 313) (q := (pc, e)) (by decide) (List.mem_of_getElem? (l := bz_t313) h)
theorem bz_q313 {Lg a b : Nat} : ∀ q ∈ (bz_t313.drop a).take b, (bz_Pg Lg true).2.2.2.1 313 q.1 = some q.2 := fun q hq => bz_tab_at (m := 313) (q := q) (by decide) (List.mem_of_mem_drop (l := bz_t313) (List.mem_of_mem_take hq))
theorem bz_r314 {Lg i pc : Nat} {e : bz_E} (h : bz_t314[i]? = some (pc, e)) : (bz_Pg Lg true).2.2.2.1 314 pc = some e := bz_tab_at (m := 314) (q := (pc, e)) (by decide) (List.mem_of_getElem? (l := bz_t314) h)
theorem bz_q314 {Lg a b : Nat} : ∀ q ∈ (bz_t314.drop a).take b, (bz_Pg Lg true).2.2.2.1 314 q.1 = some q.2 := fun q hq => bz_tab_at (m := 314) (q := q) (by decide) (List.mem_of_mem_drop (l := bz_t314) (List.mem_of_mem_take hq))
theorem bz_r315 {Lg i pc : Nat} {e : bz_E} (h : bz_t315[i]? = some (pc, e)) : (bz_Pg Lg true).2.2.2.1 315 pc = some e := bz_tab_at (m := 315) (q := (pc, e)) (by decide) (List.mem_of_getElem? (l := bz_t315) h)
theorem bz_q315 {Lg a b : Nat} : ∀ q ∈ (bz_t315.drop a).take b, (bz_Pg Lg true).2.2.2.1 315 q.1 = some q.2 := fun q hq => bz_tab_at (m := 315) (q := q) (by decide) (List.mem_of_mem_drop (l := bz_t315) (List.mem_of_mem_take hq))

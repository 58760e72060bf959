/-! THE DATA ARE AS THEY MUST BE -/
theorem bz_cl_len : bz_cl.length = 12 := rfl
theorem bz_cl_or {ci : Nat} (h : ci < 14) : (∃ q, bz_cl[ci]? = some q) ∨ (12 ≤ ci ∧ bz_cl[ci]? = none ∧ ∃ q, bz_sc ci = some q) := by
  by_cases h1 : ci < 12
  · left
    exact ⟨_, List.getElem?_eq_getElem (by rw [bz_cl_len]; exact h1)⟩
  · right
    refine ⟨by omega, List.getElem?_eq_none (by rw [bz_cl_len]; omega), ?_⟩
    have : ci = 12 ∨ ci = 13 := by omega
    rcases this with rfl | rfl
    · exact ⟨_, rfl⟩
    · exact ⟨_, rfl⟩
theorem bz_fn_cl {ci k : Nat} {q : vw_C} (h : bz_cl[ci]? = some q) : bz_fn ci k = ((q.2.1 k).1, (q.2.1 k).2.1, (q.2.1 k).2.2.1) := by
  unfold bz_fn; rw [h]
theorem bz_nfx_cl {ci : Nat} {q : vw_C} (h : bz_cl[ci]? = some q) : bz_nfx ci = q.2.2 := by
  unfold bz_nfx; rw [h]
theorem bz_fin_cl {ci k : Nat} {q : vw_C} (h : bz_cl[ci]? = some q) : bz_fin ci k = (q.2.1 k).2.2.2 := by
  unfold bz_fin; rw [h]
theorem bz_cn_cl {ci : Nat} {q : vw_C} (h : bz_cl[ci]? = some q) : bz_cn ci = q.1 := by
  unfold bz_cn; rw [h]
theorem bz_fn_sc {ci k : Nat} {q : String × (Nat → String × String × String) × Nat} (h : bz_cl[ci]? = none) (h2 : bz_sc ci = some q) : bz_fn ci k = q.2.1 k := by
  unfold bz_fn; rw [h]; dsimp only; rw [h2]
theorem bz_nfx_sc {ci : Nat} {q : String × (Nat → String × String × String) × Nat} (h : bz_cl[ci]? = none) (h2 : bz_sc ci = some q) : bz_nfx ci = q.2.2 := by
  unfold bz_nfx; rw [h]; dsimp only; rw [h2]
theorem bz_cn_sc {ci : Nat} {q : String × (Nat → String × String × String) × Nat} (h : bz_cl[ci]? = none) (h2 : bz_sc ci = some q) : bz_cn ci = q.1 := by
  unfold bz_cn; rw [h]; dsimp only; rw [h2]
theorem bz_gd09 {i : List Nat} {k : Nat} (hk : k ≠ 0) (h : i.getD 0 0 = k) : i.getD 0 9 = k := by
  cases i with
  | nil => exact absurd h.symm (by simpa using hk)
  | cons a i => exact h
theorem bz_gd90 {i : List Nat} {k : Nat} (hk : k ≠ 9) (h : i.getD 0 9 = k) : i.getD 0 0 = k := by
  cases i with
  | nil => exact absurd h.symm (by simpa using hk)
  | cons a i => exact h
/-! small lists, decided -/
set_option maxRecDepth 100000 in
theorem bz_dk_inst : (List.range 12).all (fun ci => decide ((bz_cn ci, bz_nfx ci) ∈ bz_insts) && decide (bz_cn ci ∈ bz_inl)) = true := by decide +kernel
set_option maxRecDepth 100000 in
theorem bz_dk_arr : (List.range 5).all (fun t => decide (Cond.arrayClass (bz_sty t) ∈ bz_spw)) = true := by decide +kernel
set_option maxRecDepth 100000 in
theorem bz_dk_mo : (List.range 316).all (fun m => decide (bz_own (bz_mo.getD m 0) = (bz_y m).cls)) = true := by decide +kernel
set_option maxRecDepth 100000 in
theorem bz_dk_pn : (List.range 316).all (fun m => decide ((parseMethodDescriptor (bz_y m).desc).map (fun d => d.parameters.length) = some (bz_pnl.getD m 99))) = true := by decide +kernel
set_option maxRecDepth 100000 in
theorem bz_dk_spr : bz_spr.map bz_y = lw_privs.map (fun q => q.1) := by decide +kernel
set_option maxRecDepth 100000 in
theorem bz_dk_len : bz_mtl.length = 316 := by decide +kernel
set_option maxRecDepth 100000 in
theorem bz_dk_sp1 : decide (Cond.methodLink "BentRiver$State" 45 arraycopyName ∈ bz_spw) && decide (Cond.native arraycopyName ∈ bz_spw) && decide (Cond.static arraycopyName ∈ bz_spw) && decide (Cond.methodLink "java/lang/StringLatin1" 9 bz_ckN ∈ bz_spw) && decide (Cond.instanceMethod objectInit ∈ bz_spw) && decide (Cond.code objectInit ⟨#[0xb1]⟩ 1 none ∈ bz_spw) = true := by decide +kernel
set_option maxRecDepth 100000 in
theorem bz_dk_oi : ∀ q ∈ bz_oi0, Cond.methodLink q.1 q.2 objectInit ∈ bz_spw := by decide +kernel
set_option maxRecDepth 100000 in
theorem bz_dk_ck : decide (Cond.code bz_ckN prog_18_method_155_code 2 none ∈ bz_spw) && decide (Cond.static bz_ckN ∈ bz_spw) && decide (Cond.fieldLink "java/lang/String" 1053 "jdk/internal/util/Preconditions" "SIOOBE_FORMATTER" "Ljava/util/function/BiFunction;" ∈ bz_spw) && decide (Cond.methodLink "java/lang/String" 1059 bz_pcN ∈ bz_spw) && decide (Cond.static bz_pcN ∈ bz_spw) && decide (Cond.code bz_pcN prog_22_method_11_code 3 (some .int) ∈ bz_spw) = true := by decide +kernel
set_option maxRecDepth 100000 in
theorem bz_dk_in3 : decide ("java/lang/System" ∈ bz_inl) && decide ("java/lang/String" ∈ bz_inl) && decide ("jdk/internal/util/Preconditions" ∈ bz_inl) = true := by decide +kernel
theorem bz_Ts_sp {w : Cond} (h : w ∈ bz_spw) : w ∈ bz_Ts := bz_inT bz_spw_in bz_spw_gd h
theorem bz_Ts_in {c : String} (h : c ∈ bz_inl) : Cond.initialized c ∈ bz_Ts := bz_inT bz_wd10_in bz_wd10_gd (List.mem_map.mpr ⟨c, h, rfl⟩)
theorem bz_Ts_fr {j o x ci k : Nat} (h : bz_fr[j]? = some (o, x, ci, k)) : Cond.fieldLink (bz_own o) x (bz_fn ci k).1 (bz_fn ci k).2.1 (bz_fn ci k).2.2 ∈ bz_Ts :=
  bz_inT bz_wd1_in bz_wd1_gd (List.mem_map.mpr ⟨_, List.mem_of_getElem? h, rfl⟩)
theorem bz_Ts_mr {j o x m : Nat} (h : bz_mr[j]? = some (o, x, m)) : Cond.methodLink (bz_own o) x (bz_y m) ∈ bz_Ts :=
  bz_inT bz_wd3_in bz_wd3_gd (List.mem_map.mpr ⟨_, List.mem_of_getElem? h, rfl⟩)
theorem bz_Ts_kr {j o x ci : Nat} (h : bz_kr[j]? = some (o, x, ci)) : Cond.classLink (bz_own o) x (bz_cn ci) ∈ bz_Ts :=
  bz_inT bz_wd5_in bz_wd5_gd (List.mem_map.mpr ⟨_, List.mem_of_getElem? h, rfl⟩)
theorem bz_Ts_c4 {j o x : Nat} {v : Int} (h : bz_cr[j]? = some (o, x, v, false)) : Cond.constant (bz_own o) x (Int32.ofInt v) ∈ bz_Ts :=
  bz_inT bz_wd4_in bz_wd4_gd (List.mem_map.mpr ⟨_, List.mem_of_getElem? h, rfl⟩)
theorem bz_Ts_c8 {j o x : Nat} {v : Int} (h : bz_cr[j]? = some (o, x, v, true)) : Cond.constantLong (bz_own o) x (Int64.ofInt v) ∈ bz_Ts :=
  bz_inT bz_wd4_in bz_wd4_gd (List.mem_map.mpr ⟨_, List.mem_of_getElem? h, rfl⟩)
theorem bz_Ts_im {m : Nat} (h : m ∈ bz_iml) : Cond.instanceMethod (bz_y m) ∈ bz_Ts :=
  bz_inT bz_wd6_in bz_wd6_gd (List.mem_map.mpr ⟨_, h, rfl⟩)
theorem bz_Ts_st {m : Nat} (h : m ∈ bz_stl) : Cond.static (bz_y m) ∈ bz_Ts :=
  bz_inT bz_wd7_in bz_wd7_gd (List.mem_map.mpr ⟨_, h, rfl⟩)
theorem bz_Ts_se {m : Nat} (h : m ∈ bz_sel ∨ m ∈ bz_spr) : Cond.selects (bz_y m).cls (bz_y m) (bz_y m) ∈ bz_Ts := by
  rcases h with h | h
  · exact bz_inT bz_wd8_in bz_wd8_gd (List.mem_map.mpr ⟨_, h, rfl⟩)
  · have h1 : bz_y m ∈ lw_privs.map (fun q => q.1) := by rw [← bz_dk_spr]; exact List.mem_map.mpr ⟨m, h, rfl⟩
    obtain ⟨q, hq, e⟩ := List.mem_map.mp h1
    refine List.mem_filter.mpr ⟨List.mem_append_left _ (List.mem_map.mpr ⟨q, hq, ?_⟩), rfl⟩
    rw [e]
theorem bz_mt_at {m : Nat} (h : m < 316) : bz_mt m = some (bz_y m, bz_cc m, bz_nL m, bz_rtt m) := by
  have h1 : m < bz_mtl.length := by rw [bz_dk_len]; exact h
  unfold bz_mt bz_y bz_cc bz_nL bz_rtt
  rw [List.getElem?_eq_getElem h1]
  rfl
theorem bz_mt_of {m : Nat} {y : MethodName} {cc : ByteArray} {nL : Nat} {ret : Option FieldType} (h : bz_mt m = some (y, cc, nL, ret)) : m < 316 ∧ bz_y m = y ∧ bz_cc m = cc ∧ bz_nL m = nL ∧ bz_rtt m = ret := by
  have h1 : m < 316 := by
    have := (List.getElem?_eq_some_iff.mp h).1
    rw [bz_dk_len] at this
    exact this
  rw [bz_mt_at h1] at h
  cases h
  exact ⟨h1, rfl, rfl, rfl, rfl⟩
theorem bz_lnk {ins : Instr} {n : Nat} (h : bz_lnB ins n = true) : bz_lnok ins n := by
  unfold bz_lnB at h
  unfold bz_lnok
  split at h <;> first | trivial | skip
  split <;> first | trivial | exact eq_of_beq h
section DX
variable {m o pc n : Nat} {ins : Instr} {i : List Nat} {vl : Int} {y : MethodName}
theorem bz_okXB (hown : bz_own o = y.cls) (hy : bz_y m = y) (h : bz_okB m o pc ins n i vl = true) : bz_okX bz_cl bz_sc bz_tc bz_Ts bz_nw bz_sf y pc ins i vl := by
  unfold bz_okB at h
  rw [Bool.and_eq_true] at h
  obtain ⟨-, h⟩ := h
  cases ins
  case getfield x =>
    simp only [Bool.and_eq_true, decide_eq_true_eq] at h
    obtain ⟨⟨⟨h1, h2⟩, h3⟩, h4⟩ := h
    have hw := bz_Ts_fr h1
    rw [hown] at hw
    refine ⟨?_, h4⟩
    rcases bz_cl_or h3 with ⟨q, hq⟩ | ⟨g1, g2, q, hq⟩
    · left
      rw [bz_nfx_cl hq] at h2
      rw [bz_fn_cl hq] at hw
      exact ⟨q.1, q.2.1, q.2.2, hq, h2, hw⟩
    · right
      rw [bz_nfx_sc g2 hq] at h2
      rw [bz_fn_sc g2 hq] at hw
      exact ⟨g1, q, hq, h2, hw⟩
  case putfield x =>
    simp only [Bool.and_eq_true, decide_eq_true_eq] at h
    obtain ⟨⟨⟨⟨h1, h2⟩, h3⟩, h4⟩, h5⟩ := h
    have hw := bz_Ts_fr h1
    rw [hown] at hw
    rcases bz_cl_or (ci := i.getD 0 0) (by omega) with ⟨q, hq⟩ | ⟨g1, g2, q, hq⟩
    · rw [bz_nfx_cl hq] at h2
      rw [bz_fn_cl hq] at hw h4
      rw [bz_fin_cl hq] at h4
      refine ⟨⟨q.1, q.2.1, q.2.2, hq, h2, hw, ?_⟩, h5⟩
      rcases h4 with h4 | ⟨g1, g2⟩
      · exact Or.inl h4
      · right
        unfold bz_ini at g1
        rw [hy] at g1
        exact ⟨eq_of_beq g1, g2.trans hown⟩
    · omega
  case getstatic x =>
    dsimp only at h
    split at h
    · rename_i q hq
      rw [Bool.and_eq_true] at h
      obtain ⟨h1, h2⟩ := h
      have h1 := of_decide_eq_true h1
      refine ⟨q.1, q.2.1, q.2.2.1, ?_, ?_⟩
      · rw [← h1]; exact List.mem_of_getElem? hq
      · by_cases e : i.getD 2 0 = 1
        · rw [if_pos e] at h2
          have h2 := of_decide_eq_true h2
          right
          refine ⟨"BentRiver", List.mem_append_left _ (List.mem_map.mpr ⟨_, List.mem_of_getElem? h2, ?_⟩)⟩
          rw [hown]
        · rw [if_neg e] at h2 hq
          have h2 := of_decide_eq_true h2
          left
          cases hz : bz_sr[i.getD 3 0]? with
          | none => rw [hz] at h2; cases h2
          | some z =>
            rw [hz] at h2 hq
            simp only [Option.map_some, Option.getD_some, Option.some.injEq, Prod.mk.injEq] at h2 hq
            refine bz_inT bz_wd2_in bz_wd2_gd (List.mem_map.mpr ⟨z, List.mem_of_getElem? hz, ?_⟩)
            rw [hq, h2.1, h2.2, hown]
            rfl
    · cases h
  case ldc x =>
    simp only [Bool.and_eq_true, decide_eq_true_eq] at h
    have hw := bz_Ts_c4 h.1
    rw [hown] at hw
    exact ⟨hw, h.2⟩
  case ldc_w x =>
    simp only [Bool.and_eq_true, decide_eq_true_eq] at h
    have hw := bz_Ts_c4 h.1
    rw [hown] at hw
    exact ⟨hw, h.2⟩
  case ldc2_w x =>
    simp only [Bool.and_eq_true, decide_eq_true_eq] at h
    have hw := bz_Ts_c8 h.1
    rw [hown] at hw
    exact ⟨hw, h.2⟩
  case new x =>
    simp only [Bool.and_eq_true, decide_eq_true_eq] at h
    have hw := bz_Ts_kr h.1
    rw [hown] at hw
    have h3 := List.all_eq_true.mp bz_dk_inst _ (List.mem_range.mpr h.2)
    simp only [Bool.and_eq_true, decide_eq_true_eq] at h3
    rcases bz_cl_or (ci := i.getD 0 0) (by omega) with ⟨q, hq⟩ | ⟨g1, g2, q, hq⟩
    · rw [bz_cn_cl hq] at hw h3
      rw [bz_nfx_cl hq] at h3
      exact ⟨q.1, q.2.1, q.2.2, hq, hw, bz_inT bz_wd12_in bz_wd12_gd (List.mem_map.mpr ⟨_, h3.1, rfl⟩), bz_Ts_in h3.2⟩
    · omega
  case newarray a =>
    simp only [Bool.and_eq_true, decide_eq_true_eq] at h
    exact ⟨h.1, h.2, bz_Ts_sp (of_decide_eq_true (List.all_eq_true.mp bz_dk_arr _ (List.mem_range.mpr h.1)))⟩
  case anewarray x =>
    simp only [Bool.and_eq_true, decide_eq_true_eq] at h
    have hw := bz_Ts_kr h.2
    rw [hown] at hw
    exact ⟨h.1, hw⟩
  case invokestatic x =>
    dsimp only at h
    have hs := bz_dk_sp1
    simp only [Bool.and_eq_true, decide_eq_true_eq] at hs
    refine ⟨fun e => ?_, fun e => ?_⟩
    · rw [if_pos (bz_gd09 (by decide) e)] at h
      have h := of_decide_eq_true h
      rw [← hown, h.1, h.2]
      have h3 := bz_dk_in3
      simp only [Bool.and_eq_true, decide_eq_true_eq] at h3
      exact ⟨bz_Ts_sp hs.1.1.1.1.1, bz_Ts_sp hs.1.1.1.1.2, bz_Ts_sp hs.1.1.1.2, bz_Ts_in h3.1.1⟩
    · rw [if_neg (by rw [bz_gd09 (by decide) e]; decide), if_pos (bz_gd09 (by decide) e)] at h
      have h := of_decide_eq_true h
      rw [← hown, h.1, h.2]
      exact bz_Ts_sp hs.1.1.2
  case invokespecial x =>
    dsimp only at h
    have hs := bz_dk_sp1
    simp only [Bool.and_eq_true, decide_eq_true_eq] at hs
    intro e
    rw [if_pos (bz_gd09 (by decide) e)] at h
    have h := of_decide_eq_true h
    rw [← hown]
    exact ⟨bz_Ts_sp (bz_dk_oi _ h), bz_Ts_sp hs.1.2, bz_Ts_sp hs.2⟩
  all_goals first | exact trivial | (have h2 := of_decide_eq_true h; exact h2)
theorem bz_okRB (h : bz_okB m o pc ins n i vl = true) : bz_okR ins (bz_rt m) := by
  unfold bz_okB at h
  rw [Bool.and_eq_true] at h
  obtain ⟨-, h⟩ := h
  cases ins
  all_goals first | exact trivial | (have h2 := of_decide_eq_true h; exact h2)
theorem bz_okCB (hown : bz_own o = y.cls) (h : bz_okB m o pc ins n i vl = true) (hc : (∃ x, ins = .invokevirtual x) ∨ (∃ x, ins = .invokestatic x ∧ i.getD 0 0 ≠ 2 ∧ i.getD 0 0 ≠ 5) ∨ (∃ x, ins = .invokespecial x ∧ i.getD 0 0 ≠ 1)) : bz_okC bz_cl bz_sc bz_Ts bz_nw bz_mt bz_rt y ins i := by
  unfold bz_okB at h
  rw [Bool.and_eq_true] at h
  obtain ⟨-, h⟩ := h
  rcases hc with ⟨x, rfl⟩ | ⟨x, rfl, e1, e2⟩ | ⟨x, rfl, e1⟩
  · simp only [Bool.and_eq_true, decide_eq_true_eq] at h
    obtain ⟨h1, -, h2, h3, h4, h5, h6, h7, h8, h9⟩ := h
    have hp := of_decide_eq_true (List.all_eq_true.mp bz_dk_pn _ (List.mem_range.mpr h3))
    have hw := bz_Ts_mr h1
    rw [hown] at hw
    rw [h9] at hp
    refine ⟨h2, Or.inl ⟨x, rfl, _, _, _, _, bz_mt_at h3, h5, hp, hw, bz_Ts_im h7, bz_Ts_se h8, ?_⟩⟩
    rw [h6]
    rcases bz_cl_or h4 with ⟨q, hq⟩ | ⟨g1, g2, q, hq⟩
    · left
      rw [bz_cn_cl hq]
      exact ⟨q.2.1, q.2.2, hq⟩
    · right
      rw [bz_cn_sc g2 hq]
      exact ⟨g1, q.2.1, q.2.2, hq⟩
  · dsimp only at h
    rw [if_neg (fun q => e1 (bz_gd90 (by decide) q)), if_neg (fun q => e2 (bz_gd90 (by decide) q))] at h
    simp only [Bool.and_eq_true, decide_eq_true_eq] at h
    obtain ⟨h1, -, h2, h3, h5, h7, h9⟩ := h
    have hp := of_decide_eq_true (List.all_eq_true.mp bz_dk_pn _ (List.mem_range.mpr h3))
    have hw := bz_Ts_mr h1
    rw [hown] at hw
    rw [h9] at hp
    exact ⟨h2, Or.inr (Or.inl ⟨x, rfl, _, _, _, _, bz_mt_at h3, h5, hp, hw, bz_Ts_st h7⟩)⟩
  · dsimp only at h
    rw [if_neg (fun q => e1 (bz_gd90 (by decide) q)), Bool.and_eq_true] at h
    obtain ⟨h0, h1⟩ := h
    obtain ⟨-, h2, h3, h5, h6, h7, h8, h9⟩ := of_decide_eq_true h0
    have hp := of_decide_eq_true (List.all_eq_true.mp bz_dk_pn _ (List.mem_range.mpr h3))
    rw [h9] at hp
    have hn : bz_rtt (i.getD 1 0) = none := by
      unfold bz_rt at h7
      unfold bz_rtt
      cases hz : bz_mtl[i.getD 1 0]? with
      | none => rfl
      | some z =>
        rw [hz] at h7
        simp only [Option.map_some, Option.getD_some] at h7 ⊢
        unfold bz_rtc at h7
        split at h7 <;> first | assumption | cases h7
    have hm := bz_mt_at h3
    rw [hn] at hm
    refine ⟨h2, Or.inr (Or.inr ⟨x, rfl, _, _, _, hm, h5, hp, eq_of_beq h6, bz_Ts_im h8, ?_⟩)⟩
    by_cases e : i.getD 6 0 = 1
    · rw [if_pos e] at h1
      have h1 := of_decide_eq_true h1
      right
      refine ⟨"BentRiver", List.mem_append_right _ (List.mem_map.mpr ⟨_, List.mem_of_getElem? h1, ?_⟩)⟩
      rw [hown]
    · rw [if_neg e] at h1
      have hw := bz_Ts_mr (of_decide_eq_true h1)
      rw [hown] at hw
      exact Or.inl hw
end DX
/-! regions, wires, statics -/
def bz_dkK (r : Nat) (k : bz_Kd) : Bool := match k with
  | .inl ci => decide (r ≤ bz_ns ↔ 12 ≤ ci)
  | .inr (t, n) => decide (n < 2147483648) && decide (bz_ns < r → t < 6 ∧ n * 8 ≤ 536870912) && decide (r ≤ bz_ns → t = 0 ∨ t = 2 ∨ t = 6)
set_option maxRecDepth 100000 in
theorem bz_dk_K2 : (List.range 410).all (fun j => match bz_K2[j]? with | some k => bz_dkK (j + 2) k | none => true) = true := by decide +kernel
set_option maxRecDepth 100000 in
theorem bz_dk_K2l : bz_K2.length = 410 := by decide +kernel
theorem bz_dk_kd {Lg r : Nat} {k : bz_Kd} (h : bz_kd Lg r = some k) : (r = 1 ∧ k = .inr (0, Lg)) ∨ (bz_dkK r k = true) := by
  unfold bz_kd at h
  split at h
  · cases h
  · cases h; exact Or.inl ⟨rfl, rfl⟩
  · rename_i r
    right
    have h1 := (List.getElem?_eq_some_iff.mp h).1
    rw [bz_dk_K2l] at h1
    have h2 := List.all_eq_true.mp bz_dk_K2 r (List.mem_range.mpr h1)
    rw [h] at h2
    exact h2
set_option maxRecDepth 100000 in
theorem bz_dk_ly : (List.range 12).all (fun ci => (List.range (bz_nfx ci)).all (fun k => decide ((ci, k) ∈ bz_lyl))) = true := by decide +kernel
set_option maxRecDepth 100000 in
theorem bz_dk_pf : (List.range 12).all (fun ci => decide (bz_nf ci = bz_nfx ci) && (List.range (bz_nfx ci)).all (fun k => decide (parseFieldDescriptor (bz_fn ci k).2.2 = some (bz_fty ci k)))) = true := by decide +kernel
def bz_tyB (t : Nat) (f : FieldType) : Bool := match f with
  | .int => decide (t = 0)
  | .boolean => decide (t = 4)
  | .long => decide (t = 1)
  | .object _ => decide (t = 2)
  | .array _ => decide (t = 2)
  | _ => false
theorem bz_tyB_ok {t : Nat} {f : FieldType} (h : bz_tyB t f = true) : (t = 0 ∧ f = .int) ∨ (t = 4 ∧ f = .boolean) ∨ (t = 1 ∧ f = .long) ∨ (t = 2 ∧ ((∃ z, f = .object z) ∨ ∃ z, f = .array z)) := by
  unfold bz_tyB at h
  split at h
  · exact Or.inl ⟨of_decide_eq_true h, rfl⟩
  · exact Or.inr (Or.inl ⟨of_decide_eq_true h, rfl⟩)
  · exact Or.inr (Or.inr (Or.inl ⟨of_decide_eq_true h, rfl⟩))
  · exact Or.inr (Or.inr (Or.inr ⟨of_decide_eq_true h, Or.inl ⟨_, rfl⟩⟩))
  · exact Or.inr (Or.inr (Or.inr ⟨of_decide_eq_true h, Or.inr ⟨_, rfl⟩⟩))
  · cases h
set_option maxRecDepth 100000 in
theorem bz_dk_ty : (List.range 12).all (fun ci => (List.range (bz_nfx ci)).all (fun k => bz_tyB (bz_tc ci k) (bz_fty ci k))) = true := by decide +kernel
/-- names of a class's fields, each once -/
def bz_nod : List String → Bool
  | [] => true
  | a :: as => !(as.contains a) && bz_nod as
theorem bz_nod_ok : ∀ (l : List String), bz_nod l = true → ∀ a b (ha : a < l.length) (hb : b < l.length), a ≠ b → l[a] ≠ l[b]
  | [], _, a, b, ha, _, _ => absurd ha (Nat.not_lt_zero _)
  | z :: l, h, a, b, ha, hb, hab => by
    unfold bz_nod at h
    rw [Bool.and_eq_true] at h
    obtain ⟨h1, h2⟩ := h
    have h1 : z ∉ l := by simpa using h1
    cases a with
    | zero =>
      cases b with
      | zero => exact absurd rfl hab
      | succ b =>
        simp only [List.getElem_cons_zero, List.getElem_cons_succ]
        intro e
        exact h1 (e ▸ List.getElem_mem _)
    | succ a =>
      cases b with
      | zero =>
        simp only [List.getElem_cons_zero, List.getElem_cons_succ]
        intro e
        exact h1 (e ▸ List.getElem_mem _)
      | succ b =>
        simp only [List.getElem_cons_succ]
        exact bz_nod_ok l h2 a b (by simpa using ha) (by simpa using hb) (fun e => hab (by rw [e]))
set_option maxRecDepth 100000 in
theorem bz_dk_nod : (List.range 12).all (fun ci => bz_nod ((List.range (bz_nfx ci)).map (fun k => (bz_fn ci k).2.1))) = true := by decide +kernel
theorem bz_CokP {Lg : Nat} (hL : Lg < 2147483648) : bz_Cok (bz_kd Lg) bz_tc bz_nf bz_cl bz_Ts bz_fty := by
  refine ⟨rfl, fun r ci h => ?_, fun r t n h => ?_, fun ci C T n h => ?_, bz_cl_len, ⟨_, _, rfl⟩⟩
  · rcases bz_dk_kd h with ⟨-, e⟩ | e
    · cases e
    · exact of_decide_eq_true e
  · rcases bz_dk_kd h with ⟨rfl, e⟩ | e
    · cases e
      exact ⟨hL, fun e => absurd e (by decide), fun _ => Or.inl rfl⟩
    · unfold bz_dkK at e
      dsimp only at e
      rw [Bool.and_eq_true, Bool.and_eq_true] at e
      exact ⟨of_decide_eq_true e.1.1, of_decide_eq_true e.1.2, of_decide_eq_true e.2⟩
  · have hci : ci < 12 := by
      have := (List.getElem?_eq_some_iff.mp h).1
      rw [bz_cl_len] at this
      exact this
    have hr := List.mem_range.mpr hci
    have h1 := List.all_eq_true.mp bz_dk_pf _ hr
    have h2 := List.all_eq_true.mp bz_dk_ty _ hr
    have h3 := List.all_eq_true.mp bz_dk_ly _ hr
    have h4 := List.all_eq_true.mp bz_dk_nod _ hr
    rw [Bool.and_eq_true] at h1
    obtain ⟨h0, h1⟩ := h1
    have h0 := of_decide_eq_true h0
    rw [bz_nfx_cl h] at h0 h1 h2 h3 h4
    dsimp only at h0 h1 h2 h3 h4
    refine ⟨h0, fun w hw => ?_, fun k hk => ?_, fun a ha b hb hab => ?_, fun k hk => ?_⟩
    · obtain ⟨k, hk, rfl⟩ := List.mem_map.mp hw
      have h5 := of_decide_eq_true (List.all_eq_true.mp h3 k hk)
      have h6 : u_lay (bz_cn ci) (((bz_cl[ci]?).map (fun z => z.2.1)).getD (bz_T [])) k ∈ bz_wd11 := List.mem_map.mpr ⟨_, h5, rfl⟩
      rw [bz_cn_cl h, h] at h6
      exact bz_inT bz_wd11_in bz_wd11_gd h6
    · have h5 := of_decide_eq_true (List.all_eq_true.mp h1 k (List.mem_range.mpr hk))
      rw [bz_fn_cl h] at h5
      exact h5
    · have h5 := bz_nod_ok _ h4 a b (by rw [List.length_map, List.length_range]; exact ha) (by rw [List.length_map, List.length_range]; exact hb) hab
      rw [List.getElem_map, List.getElem_map, List.getElem_range, List.getElem_range, bz_fn_cl h, bz_fn_cl h] at h5
      exact h5
    · exact bz_tyB_ok (List.all_eq_true.mp h2 k (List.mem_range.mpr hk))
theorem bz_wr_wl (r k : Nat) (h : bz_wr r k ≠ 0) : (r, k, bz_wr r k) ∈ bz_wl := by
  unfold bz_wr at h ⊢
  split at h
  · rename_i q hq
    have h1 := List.mem_of_find?_eq_some hq
    have h2 := List.find?_some hq
    have h2 : q.1 = r := eq_of_beq h2
    have hk : k < q.2.length := by
      apply Classical.byContradiction
      intro hn
      exact h (by rw [List.getD_eq_getElem?_getD, List.getElem?_eq_none (by omega)]; rfl)
    refine List.mem_flatMap.mpr ⟨q, h1, List.mem_filterMap.mpr ⟨k, List.mem_range.mpr hk, ?_⟩⟩
    rw [if_neg h, h2]
  · exact absurd rfl h
set_option maxRecDepth 100000 in
theorem bz_dk_wl : bz_wl.all (fun q => decide (bz_wr q.1 q.2.1 ≠ 0) && decide (2 ≤ q.1) && (match bz_K2[q.1 - 2]? with | some (.inl _) => true | _ => false)) = true := by decide +kernel
def bz_vwB (v : bz_V) : Bool := match v with
  | .inl x => decide (-2147483648 ≤ x ∧ x < 2147483648)
  | .inr (.inl x) => decide (-9223372036854775808 ≤ x ∧ x < 9223372036854775808)
  | .inr (.inr n) => decide (n ≤ bz_ns)
theorem bz_vwB_ok {v : bz_V} (h : bz_vwB v = true) : bz_vw bz_ns v := by
  rcases v with x | x | x
  · have h2 : -2147483648 ≤ x ∧ x < 2147483648 := of_decide_eq_true h
    exact h2
  · have h2 : -9223372036854775808 ≤ x ∧ x < 9223372036854775808 := of_decide_eq_true h
    exact h2
  · have h2 : x ≤ bz_ns := of_decide_eq_true h
    exact h2
set_option maxRecDepth 100000 in
theorem bz_dk_sf : bz_sf.all (fun q => bz_vwB q.2.2.2) = true := by decide +kernel
def bz_rtB (t : Option FieldType) : Bool := match t with
  | none => true
  | some .int => true
  | some .boolean => true
  | some .char => true
  | some .byte => true
  | some .long => true
  | some (.object _) => true
  | some (.array _) => true
  | _ => false
theorem bz_rtB_ok {t : Option FieldType} (h : bz_rtB t = true) : bz_rtok (bz_rtc t) t := by
  unfold bz_rtB at h
  unfold bz_rtok
  split at h
  · exact Or.inl ⟨rfl, rfl⟩
  · exact Or.inr (Or.inl ⟨rfl, rfl⟩)
  · exact Or.inr (Or.inr (Or.inl ⟨rfl, rfl⟩))
  · exact Or.inr (Or.inr (Or.inr (Or.inl ⟨rfl, rfl⟩)))
  · exact Or.inr (Or.inr (Or.inr (Or.inr (Or.inl ⟨rfl, rfl⟩))))
  · exact Or.inr (Or.inr (Or.inr (Or.inr (Or.inr (Or.inl ⟨rfl, rfl⟩)))))
  · exact Or.inr (Or.inr (Or.inr (Or.inr (Or.inr (Or.inr ⟨rfl, Or.inl ⟨_, rfl⟩⟩)))))
  · exact Or.inr (Or.inr (Or.inr (Or.inr (Or.inr (Or.inr ⟨rfl, Or.inr ⟨_, rfl⟩⟩)))))
  · cases h
set_option maxRecDepth 100000 in
theorem bz_dk_m : (List.range 316).all (fun m => bz_rtB (bz_rtt m) && (decide (305 ≤ m ∧ m < 310) || plainName (bz_y m).cls) && decide (bz_nL m ≤ 21) && decide (m = 0 ∨ m ∈ bz_cml) && decide (m = 0 ∨ (bz_y m).cls ∈ bz_inl) && decide ((bz_y m).cls ≠ "java/lang/invoke/MethodHandle") && decide ((bz_y m).cls ≠ "java/lang/invoke/VarHandle")) = true := by decide +kernel
theorem bz_dk_305 : plainFor (bz_y 305) = true := by decide +kernel
theorem bz_dk_306 : plainFor (bz_y 306) = true := by decide +kernel
theorem bz_dk_307 : plainFor (bz_y 307) = true := by decide +kernel
theorem bz_dk_308 : plainFor (bz_y 308) = true := by decide +kernel
theorem bz_dk_309 : plainFor (bz_y 309) = true := by decide +kernel
theorem bz_plF {m : Nat} (h : (305 ≤ m ∧ m < 310) ∨ plainName (bz_y m).cls = true) : plainFor (bz_y m) = true := by
  rcases h with h | h
  · have : m = 305 ∨ m = 306 ∨ m = 307 ∨ m = 308 ∨ m = 309 := by omega
    rcases this with rfl | rfl | rfl | rfl | rfl
    · exact bz_dk_305
    · exact bz_dk_306
    · exact bz_dk_307
    · exact bz_dk_308
    · exact bz_dk_309
  · exact plainFor_of_name h
theorem bz_Pok (Lg : Nat) (w : Bool) (hL : Lg < 2147483648) : bz_Dok (bz_Pg Lg w) bz_tc bz_nf bz_wl bz_sf bz_sc bz_cl bz_Ts bz_nw bz_fty bz_mt := by
  refine ⟨bz_CokP hL, bz_wr_wl, fun q hq => ?_, fun q hq => ?_, fun q hq => ?_, fun v hv => good_of_word (List.mem_filter.mp hv).2, ?_, fun v hv => ?_, fun m y cc nL ret hm => ?_⟩
  · have h := List.all_eq_true.mp bz_dk_wl q hq
    simp only [Bool.and_eq_true, decide_eq_true_eq] at h
    exact h.1.1
  · have h := List.all_eq_true.mp bz_dk_wl q hq
    rw [Bool.and_eq_true, Bool.and_eq_true] at h
    have h2 := of_decide_eq_true h.1.2
    have h3 := h.2
    split at h3
    · rename_i ci hc
      refine ⟨ci, ?_⟩
      show bz_kd Lg q.1 = _
      have e : q.1 = (q.1 - 2) + 2 := by omega
      rw [e]
      exact hc
    · cases h3
  · exact bz_vwB_ok (List.all_eq_true.mp bz_dk_sf q hq)
  · have h := bz_dk_ck
    have h3 := bz_dk_in3
    simp only [Bool.and_eq_true, decide_eq_true_eq] at h h3
    exact ⟨bz_Ts_sp h.1.1.1.1.1, bz_Ts_sp h.1.1.1.1.2, bz_Ts_in h3.1.2, bz_Ts_sp h.1.1.1.2, bz_Ts_sp h.1.1.2, bz_Ts_sp h.1.2, bz_Ts_in h3.2, bz_Ts_sp h.2⟩
  · rcases List.mem_append.mp hv with hv | hv
    · obtain ⟨q, -, rfl⟩ := List.mem_map.mp hv
      exact Or.inl ⟨_, _, _, _, _, _, rfl⟩
    · obtain ⟨q, -, rfl⟩ := List.mem_map.mp hv
      exact Or.inr ⟨_, _, _, _, rfl⟩
  · obtain ⟨hlt, rfl, rfl, rfl, rfl⟩ := bz_mt_of hm
    have hr := List.mem_range.mpr hlt
    have h := List.all_eq_true.mp bz_dk_m _ hr
    simp only [Bool.and_eq_true, Bool.or_eq_true, decide_eq_true_eq] at h
    obtain ⟨⟨⟨⟨⟨⟨g1, g2⟩, g3⟩, g4⟩, g5⟩, g6⟩, g7⟩ := h
    have g2 := bz_plF g2
    have hrt : bz_rt m = bz_rtc (bz_rtt m) := by
      unfold bz_rt bz_rtt
      rw [List.getElem?_eq_getElem (by rw [bz_dk_len]; exact hlt)]
      rfl
    refine ⟨rfl, ?_, g2, g3, fun e => bz_Ts_co (g4.resolve_left e), fun e => bz_Ts_in (g5.resolve_left e), ⟨g6, g7⟩, fun pc e he => ?_⟩
    · show bz_rtok (bz_rt m) _
      rw [hrt]
      exact bz_rtB_ok g1
    · have he : ((bz_tbl.getD m []).find? (fun q => q.1 == pc)).map (fun q => q.2) = some e := he
      cases hf : (bz_tbl.getD m []).find? (fun q => q.1 == pc) with
      | none => rw [hf] at he; cases he
      | some q =>
        rw [hf] at he
        have he : q.2 = e := Option.some.inj he
        have hpc := List.find?_some hf
        have hpc : q.1 = pc := eq_of_beq hpc
        have hq := List.mem_of_find?_eq_some hf
        subst he
        subst hpc
        have hB := List.all_eq_true.mp (bz_ckm_all hlt) q hq
        have hown : bz_own (bz_mo.getD m 0) = (bz_y m).cls := of_decide_eq_true (List.all_eq_true.mp bz_dk_mo _ hr)
        refine ⟨⟨?_, bz_okXB hown rfl hB⟩, ?_, bz_okRB hB, fun hc => bz_okCB hown hB hc⟩
        · unfold bz_okB at hB
          rw [Bool.and_eq_true] at hB
          exact bz_lnk hB.1
        · have h1 : bz_walk 0 (bz_cc m).data.toList (bz_tbl.getD m []) = true := bz_wk_all hlt
          rcases bz_walk_at (bz_cc m) _ 0 _ rfl h1 q hq with h2 | h2
          · have h3 := List.all_eq_true.mp (bz_swk_all hlt) q hq
            rw [h2] at h3
            have h4 : decide (decode (bz_cc m) q.1 = .ok (q.2.1, q.2.2.1)) = true := h3
            exact of_decide_eq_true h4
          · exact h2

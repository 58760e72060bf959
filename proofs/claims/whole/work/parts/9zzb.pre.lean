/-! THE LAW FROM ITS FIRST INSTRUCTION -/
section ZJ
variable {l : Launch} {P : bz_P} {tc : Nat → Nat → Nat} {nf : Nat → Nat} {cA : Nat → ClassId} {wl : List (Nat × Nat × Nat)} {sM : bz_M} {sf : List (String × String × String × bz_V)} {sc : bz_Sc} {D : va_G} {cl : List vw_C} {A : Nat → Prop} {Ts nw : List Cond} {fty : Nat → Nat → FieldType} {mt : bz_Mt}
theorem bz_rowK (hD : bz_Dok P tc nf wl sf sc cl Ts nw fty mt) {mi : Nat} {y : MethodName} {cc : ByteArray} {nL : Nat} {ret : Option FieldType} {pc : Nat} {L : bz_Ls} {st : bz_S} {M : bz_M} {e0 : bz_E} {q1 : Nat} {q2 : bz_Ls} {q3 : bz_S} {q4 : bz_M} (hm : mt mi = some (y, cc, nL, ret)) (ht : P.2.2.2.1 mi pc = some e0) (hs : bz_step P.1 P.2.1 P.2.2.1 (P.2.2.2.2.2 mi) e0 pc L st M = some (.inr (.inl (q1, q2, q3, q4)))) {p : Program} {e : Env} {R : Room} {s : State} {m : MethodId} {args : Array Value} {below : List Frame} {meth : Method} {c : Code} {N0 : Nat} {ad0 ad : Nat → Nat} {H : Heap} {locs : List Loc} {ls : Array Slot} {Q : State → Prop} (hF : bz_Fx Ts nw y cc nL ret D cl cA p m c s args meth) (hZ : bz_Zk A s s.heap) (hA : ∀ q, s.heap.size ≤ q → A q) (hR : 2 ≤ R.frames ∧ 80 ≤ R.locals ∧ bz_Nn q4 - N0 ≤ R.cells ∧ bz_sl P.1 nf (bz_Nn q4) - bz_sl P.1 nf N0 ≤ R.slots) (hI : bz_Inv P.1 tc nf cA wl P.2.2.1 sM sf sc D cl A s nL N0 ad0 L st M ad H locs ls)
    (kk : ∀ (ad' : Nat → Nat) (H' : Heap) (locs' : List Loc) (ls' : Array Slot), bz_Inv P.1 tc nf cA wl P.2.2.1 sM sf sc D cl A s nL N0 ad0 q2 q3 q4 ad' H' locs' ls' → W p l e R s m args below meth c H' locs' (bz_Nn q4 - N0) (bz_sl P.1 nf (bz_Nn q4) - bz_sl P.1 nf N0) Q (F0 m q1 ls' (q3.map (bz_mv ad')))) : W p l e R s m args below meth c H locs (bz_Nn M - N0) (bz_sl P.1 nf (bz_Nn M) - bz_sl P.1 nf N0) Q (F0 m pc ls (st.map (bz_mv ad))) := by
  obtain ⟨hC, hwl1, hwl2, hwo, hsf, hgd, hck, hnwk, hMt⟩ := id hD
  obtain ⟨g1, g2, g3, g4, g5, g6, g7, g8⟩ := hMt mi y cc nL ret hm
  obtain ⟨k1, k2, k3, k4⟩ := g8 pc e0 ht
  exact bz_stepN hF hC hwl1 hwl2 hwo hsf ⟨hR.1, hR.2.1⟩ hA (bz_ckR hgd hck hF.1 hF.2.1 hF.2.2.1 hF.2.2.2.1 hF.2.2.2.2.1 hZ ⟨hR.1, hR.2.1⟩) k1 k2 hI hR.2.2 hs kk
end ZJ
theorem sl_d (Lg a : Nat) (h : 1 ≤ a) : ∀ n, bz_sl (bz_kd Lg) bz_nf (a + n) = bz_sl (bz_kd Lg) bz_nf a + ((List.range n).map (fun j => bz_rsz (bz_kd 0) bz_nf (a + 1 + j))).sum
  | 0 => (Nat.add_zero _).symm
  | n + 1 => by
    rw [← Nat.add_assoc a n 1, bz_sl_succ, sl_d Lg a h n, List.range_succ, List.map_append, List.sum_append]
    have : bz_rsz (bz_kd Lg) bz_nf (a + n + 1) = bz_rsz (bz_kd 0) bz_nf (a + 1 + n) := by
      unfold bz_rsz
      rw [kd_0 (by omega), show a + n + 1 = a + 1 + n by omega]
    rw [this, Nat.add_assoc]
    rfl
set_option maxRecDepth 100000 in
theorem sl_290 : ((List.range 290).map (fun j => bz_rsz (bz_kd 0) bz_nf (121 + 1 + j))).sum ≤ 100000 := by decide +kernel
theorem sl_411 (Lg : Nat) {n : Nat} (h : n ≤ 411) : bz_sl (bz_kd Lg) bz_nf n - bz_sl (bz_kd Lg) bz_nf 121 ≤ 100000 := by
  have h1 : bz_sl (bz_kd Lg) bz_nf n ≤ bz_sl (bz_kd Lg) bz_nf (121 + 290) := bz_sl_mono (by omega)
  have h2 := sl_d Lg 121 (by omega) 290
  have h3 := sl_290
  omega
theorem mm_Nn {B : bz_M} {N : Nat} {W : zW} : bz_Nn (mm B N W) = N := mm_N
theorem znew_of {z : bz_Kd} {pc N : Nat} {L : bz_Ls} {st : bz_S} {W : zW} (h : bz_kd 0 (N + 1) = some z) : znew z pc L st N W = some (pc, L, .inr (.inr (N + 1)) :: st, N + 1, W) := by
  unfold znew
  rw [decide_eq_true h]
theorem bz_r0f {Lg i pc : Nat} {e : bz_E} (h : bz_t0[i]? = some (pc, e)) : (bz_Pg Lg false).2.2.2.1 0 pc = some e := bz_tab_at (m := 0) (q := (pc, e)) (by decide) (List.mem_of_getElem? (l := bz_t0) h)
section ZK
variable {l : Launch} {Lg : Nat} {cA : Nat → ClassId} {xs : Nat → Int32} {D : va_G} {A : Nat → Prop}
set_option maxHeartbeats 4000000 in
set_option maxRecDepth 100000 in
theorem bz_law (hL : Lg < 2147483648) {y : MethodName} {cc : ByteArray} (hm : bz_mt 0 = some (y, cc, 4, some .boolean)) {p : Program} {e : Env} {R : Room} {s : State} {m : MethodId} {args : Array Value} {below : List Frame} {meth : Method} {c : Code} {ad0 : Nat → Nat} {ls : Array Slot} (hF : bz_Fx bz_Ts bz_nw y cc 4 (some .boolean) D bz_cl cA p m c s args meth) (hZ : bz_Zk A s s.heap) (hA : ∀ q, s.heap.size ≤ q → A q) (hR : 100 ≤ R.frames ∧ 4000 ≤ R.locals ∧ 290 ≤ R.cells ∧ 100000 ≤ R.slots) (hI : bz_Inv (bz_kd Lg) bz_tc bz_nf cA bz_wl false (bz_sM xs) bz_sf bz_sc D bz_cl A s 4 121 ad0 [some (.inr (.inr 1)), none, none, none] [] (mm (bz_sM xs) 121 []) ad0 s.heap [] ls) :
    ∃ M2 : bz_M, bz_Nn M2 = 411 ∧ W p l e R s m args below meth c s.heap [] 0 0 (MQ below (bz_Qc (bz_kd Lg) bz_tc bz_nf cA bz_wl true (bz_sM xs) bz_sf bz_sc D bz_cl A bz_nw 121 ad0 (some (.inl 1)) M2) args s (411 - 121) (bz_sl (bz_kd Lg) bz_nf 411 - bz_sl (bz_kd Lg) bz_nf 121) A) (F0 m 0 ls []) := by
  have hB : ∀ r k, bz_ns < r → bz_sM xs r k = 0 := fun r k h => sM_0 h
  have hD := bz_Pok Lg false hL
  have hT := bz_Pok Lg true hL
  have hl : ∀ n, n ≤ 411 → bz_sl (bz_kd Lg) bz_nf n - bz_sl (bz_kd Lg) bz_nf 121 ≤ R.slots := fun n hn => Nat.le_trans (sl_411 Lg hn) hR.2.2.2
  have o0 : zok 121 [] := ⟨Nat.le_refl _, fun q hq => absurd hq List.not_mem_nil⟩
  have o1 : zok 122 [] := ⟨by decide, fun q hq => absurd hq List.not_mem_nil⟩
  obtain ⟨r1, o2⟩ := zev_ok (Lg := Lg) hB 3000 6 109 _ 0 _ [] 122 [] _ (by decide) (fun q hq => hq) o1 z_run1
  have o3 : zok 319 zW1 := ⟨by decide, fun q hq => Nat.le_trans (o2.2 q hq) (by decide)⟩
  obtain ⟨r2, o4⟩ := zev_ok (Lg := Lg) hB 3000 6 155 _ 0 _ [] 319 zW1 _ (by decide) (fun q hq => hq) o3 z_run2
  dsimp only at r1 r2
  obtain ⟨f, M2, hrun, hM0⟩ := law_at (Lg := Lg) (d := 60) hL (by decide) (zM_Sim (xs := xs)) (fun k => zM_1)
  have hN2 : bz_Nn M2 = 411 := by
    unfold bz_Nn
    rw [hM0]
    exact mm_N (B := bz_sM xs) (N := 411) (W := zWa)
  refine ⟨M2, hN2, ?_⟩
  have e0 : W p l e R s m args below meth c s.heap [] (bz_Nn (mm (bz_sM xs) 121 []) - 121) (bz_sl (bz_kd Lg) bz_nf (bz_Nn (mm (bz_sM xs) 121 [])) - bz_sl (bz_kd Lg) bz_nf 121) (MQ below (bz_Qc (bz_kd Lg) bz_tc bz_nf cA bz_wl true (bz_sM xs) bz_sf bz_sc D bz_cl A bz_nw 121 ad0 (some (.inl 1)) M2) args s (411 - 121) (bz_sl (bz_kd Lg) bz_nf 411 - bz_sl (bz_kd Lg) bz_nf 121) A) (F0 m 0 ls (([] : bz_S).map (bz_mv ad0))) := by
    -- 0 new
    refine bz_rowK (P := bz_Pg Lg false) hD (mi := 0) (q1 := 3) (q2 := [some (.inr (.inr 1)), none, none, none]) (q3 := [.inr (.inr 122)]) (q4 := mm (bz_sM xs) 122 []) hm (bz_r0f (Lg := Lg) (i := 0) (pc := 0) rfl) ?_ hF hZ hA ⟨by omega, by omega, by rw [mm_Nn]; omega, by rw [mm_Nn]; exact hl _ (by decide)⟩ hI (fun ad1 H1 locs1 ls1 hI1 => ?_)
    · exact (es_ok (Lg := Lg) (rt := bz_rt 0) (e := (.new 7, 3, [10, 0], 0, [])) (p := 0) (L := [some (.inr (.inr 1)), none, none, none]) (st := []) hB rfl o0 (n := (3, _, _, 122, [])) (show znew (.inl 10) 3 _ _ 121 [] = _ from znew_of (by decide +kernel))).1
    -- 3 dup
    refine bz_rowK (P := bz_Pg Lg false) hD (mi := 0) (q1 := 4) (q2 := [some (.inr (.inr 1)), none, none, none]) (q3 := [.inr (.inr 122), .inr (.inr 122)]) (q4 := mm (bz_sM xs) 122 []) hm (bz_r0f (Lg := Lg) (i := 1) (pc := 3) rfl) rfl hF hZ hA ⟨by omega, by omega, by rw [mm_Nn]; omega, by rw [mm_Nn]; exact hl _ (by decide)⟩ hI1 (fun ad2 H2 locs2 ls2 hI2 => ?_)
    -- 4 call
    refine bz_callK (P := bz_Pg Lg false) hD (mi := 0) (f := 3000) (d' := 6) (m' := 109) (a := [.inr (.inr 122)]) (pc' := 7) (L' := [some (.inr (.inr 1)), none, none, none]) (st' := [.inr (.inr 122)]) (st'' := [.inr (.inr 122)]) (rk := 0) (v := none) (M' := mm (bz_sM xs) 318 zW1) hm (bz_r0f (Lg := Lg) (i := 2) (pc := 4) rfl) rfl r1 rfl hF hZ hA ⟨by omega, by omega, by rw [mm_Nn]; omega, by rw [mm_Nn]; exact hl _ (by decide)⟩ hI2 (fun ad3 H3 locs3 ls3 hI3 => ?_)
    -- 7 astore_1
    refine bz_rowK (P := bz_Pg Lg false) hD (mi := 0) (q1 := 8) (q2 := [some (.inr (.inr 1)), some (.inr (.inr 122)), none, none]) (q3 := []) (q4 := mm (bz_sM xs) 318 zW1) hm (bz_r0f (Lg := Lg) (i := 3) (pc := 7) rfl) rfl hF hZ hA ⟨by omega, by omega, by rw [mm_Nn]; omega, by rw [mm_Nn]; exact hl _ (by decide)⟩ hI3 (fun ad4 H4 locs4 ls4 hI4 => ?_)
    -- 8 new
    refine bz_rowK (P := bz_Pg Lg false) hD (mi := 0) (q1 := 11) (q2 := [some (.inr (.inr 1)), some (.inr (.inr 122)), none, none]) (q3 := [.inr (.inr 319)]) (q4 := mm (bz_sM xs) 319 zW1) hm (bz_r0f (Lg := Lg) (i := 4) (pc := 8) rfl) ?_ hF hZ hA ⟨by omega, by omega, by rw [mm_Nn]; omega, by rw [mm_Nn]; exact hl _ (by decide)⟩ hI4 (fun ad5 H5 locs5 ls5 hI5 => ?_)
    · exact (es_ok (Lg := Lg) (rt := bz_rt 0) (e := (.new 10, 3, [11, 14], 0, [])) (p := 8) (L := [some (.inr (.inr 1)), some (.inr (.inr 122)), none, none]) (st := []) hB rfl o2 (n := (11, _, _, 319, zW1)) (show znew (.inl 11) 11 _ _ 318 zW1 = _ from znew_of (by decide +kernel))).1
    -- 11 dup
    refine bz_rowK (P := bz_Pg Lg false) hD (mi := 0) (q1 := 12) (q2 := [some (.inr (.inr 1)), some (.inr (.inr 122)), none, none]) (q3 := [.inr (.inr 319), .inr (.inr 319)]) (q4 := mm (bz_sM xs) 319 zW1) hm (bz_r0f (Lg := Lg) (i := 5) (pc := 11) rfl) rfl hF hZ hA ⟨by omega, by omega, by rw [mm_Nn]; omega, by rw [mm_Nn]; exact hl _ (by decide)⟩ hI5 (fun ad6 H6 locs6 ls6 hI6 => ?_)
    -- 12 call
    refine bz_callK (P := bz_Pg Lg false) hD (mi := 0) (f := 3000) (d' := 6) (m' := 155) (a := [.inr (.inr 319)]) (pc' := 15) (L' := [some (.inr (.inr 1)), some (.inr (.inr 122)), none, none]) (st' := [.inr (.inr 319)]) (st'' := [.inr (.inr 319)]) (rk := 0) (v := none) (M' := zM xs) hm (bz_r0f (Lg := Lg) (i := 6) (pc := 12) rfl) rfl r2 rfl hF hZ hA ⟨by omega, by omega, by unfold zM; rw [mm_Nn]; omega, by unfold zM; rw [mm_Nn]; exact hl _ (by decide)⟩ hI6 (fun ad7 H7 locs7 ls7 hI7 => ?_)
    -- 15 astore_2
    refine bz_rowK (P := bz_Pg Lg false) hD (mi := 0) (q1 := 16) (q2 := [some (.inr (.inr 1)), some (.inr (.inr 122)), some (.inr (.inr 319)), none]) (q3 := []) (q4 := zM xs) hm (bz_r0f (Lg := Lg) (i := 7) (pc := 15) rfl) rfl hF hZ hA ⟨by omega, by omega, by unfold zM; rw [mm_Nn]; omega, by unfold zM; rw [mm_Nn]; exact hl _ (by decide)⟩ hI7 (fun ad8 H8 locs8 ls8 hI8 => ?_)
    -- 16 iconst_0
    refine bz_rowK (P := bz_Pg Lg false) hD (mi := 0) (q1 := 17) (q2 := [some (.inr (.inr 1)), some (.inr (.inr 122)), some (.inr (.inr 319)), none]) (q3 := [.inl 0]) (q4 := zM xs) hm (bz_r0f (Lg := Lg) (i := 8) (pc := 16) rfl) rfl hF hZ hA ⟨by omega, by omega, by unfold zM; rw [mm_Nn]; omega, by unfold zM; rw [mm_Nn]; exact hl _ (by decide)⟩ hI8 (fun ad9 H9 locs9 ls9 hI9 => ?_)
    -- 17 istore_3
    refine bz_rowK (P := bz_Pg Lg false) hD (mi := 0) (q1 := 18) (q2 := [some (.inr (.inr 1)), some (.inr (.inr 122)), some (.inr (.inr 319)), some (.inl 0)]) (q3 := []) (q4 := zM xs) hm (bz_r0f (Lg := Lg) (i := 9) (pc := 17) rfl) rfl hF hZ hA ⟨by omega, by omega, by unfold zM; rw [mm_Nn]; omega, by unfold zM; rw [mm_Nn]; exact hl _ (by decide)⟩ hI9 (fun ada Ha locsa lsa hIa => ?_)
    -- 18 the loop
    have hIb : bz_Inv (bz_kd Lg) bz_tc bz_nf cA bz_wl true (bz_sM xs) bz_sf bz_sc D bz_cl A s 4 121 ad0 [some (.inr (.inr 1)), some (.inr (.inr 122)), some (.inr (.inr 319)), some (.inl 0)] [] (zM xs) ada Ha locsa lsa := ⟨hIa.iP, hIa.iD, hIa.iS, ⟨hIa.wf.1, hIa.wf.2.1, hIa.wf.2.2.1, fun _ q hq => by
      have h := zM_wl (xs := xs) q hq
      exact ⟨h.1, h.2.1, by unfold zM; rw [mm_Nn]; exact h.2.2⟩⟩, hIa.lr, hIa.Lw, hIa.Sw, hIa.St, hIa.ag, hIa.iN⟩
    have hw := bz_sound (l := l) (cA := cA) (sM := bz_sM xs) (D := D) (A := A) hT f 60 0 y cc 4 (some .boolean) 18 _ [] (zM xs) (some (.inl 1)) M2 hm hrun p e R s m args below meth c 121 ad0 ada Ha locsa lsa hF hZ hA ⟨by omega, by omega, by rw [hN2]; omega, by rw [hN2]; exact hl _ (by decide)⟩ hIb
    rw [hN2] at hw
    exact hw
  rw [mm_Nn, Nat.sub_self, Nat.sub_self] at e0
  exact e0
end ZK

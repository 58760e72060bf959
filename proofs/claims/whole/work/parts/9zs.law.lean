/-! THE LAW'S BEGINNING: a call of the small machine that is one of the machine, whatever follows -/
section ZA
variable {l : Launch} {P : bz_P} {tc : Nat → Nat → Nat} {nf : Nat → Nat} {cA : Nat → ClassId} {wl : List (Nat × Nat × Nat)} {sM : bz_M} {sf : List (String × String × String × bz_V)} {sc : bz_Sc} {D : va_G} {cl : List vw_C} {A : Nat → Prop} {Ts nw : List Cond} {fty : Nat → Nat → FieldType} {mt : bz_Mt}
set_option maxHeartbeats 4000000 in
set_option maxRecDepth 100000 in
theorem bz_callK (hD : bz_Dok P tc nf wl sf sc cl Ts nw fty mt) {f d' mi : Nat} {y : MethodName} {cc : ByteArray} {nL : Nat} {ret : Option FieldType} {pc : Nat} {L : bz_Ls} {st : bz_S} {M : bz_M} {e0 : bz_E} {m' : Nat} {a : bz_S} {pc' : Nat} {L' : bz_Ls} {st' st'' : bz_S} {rk : Nat} {v : Option bz_V} {M' : bz_M} (hm : mt mi = some (y, cc, nL, ret)) (ht : P.2.2.2.1 mi pc = some e0) (hs : bz_step P.1 P.2.1 P.2.2.1 (P.2.2.2.2.2 mi) e0 pc L st M = some (.inr (.inr (m', a, pc', L', st', rk)))) (h1 : bz_run P f d' m' 0 (bz_ent a (P.2.2.2.2.1 m')) [] M = some (v, M')) (h2 : bz_back rk v st' = some st'') {p : Program} {e : Env} {R : Room} {s : State} {m : MethodId} {args : Array Value} {below : List Frame} {meth : Method} {c : Code} {N0 : Nat} {ad0 ad : Nat → Nat} {H : Heap} {locs : List Loc} {ls : Array Slot} {Q : State → Prop} (hF : bz_Fx Ts nw y cc nL ret D cl cA p m c s args meth) (hZ : bz_Zk A s s.heap) (hA : ∀ q, s.heap.size ≤ q → A q) (hR : d' + 1 + 2 ≤ R.frames ∧ 40 * (d' + 1 + 2) ≤ R.locals ∧ bz_Nn M' - N0 ≤ R.cells ∧ bz_sl P.1 nf (bz_Nn M') - bz_sl P.1 nf N0 ≤ R.slots) (hI : bz_Inv P.1 tc nf cA wl P.2.2.1 sM sf sc D cl A s nL N0 ad0 L st M ad H locs ls)
    (kk : ∀ (ad' : Nat → Nat) (H' : Heap) (locs' : List Loc) (ls' : Array Slot), bz_Inv P.1 tc nf cA wl P.2.2.1 sM sf sc D cl A s nL N0 ad0 L' st'' M' ad' H' locs' ls' → W p l e R s m args below meth c H' locs' (bz_Nn M' - N0) (bz_sl P.1 nf (bz_Nn M') - bz_sl P.1 nf N0) Q (F0 m pc' ls' (st''.map (bz_mv ad')))) : W p l e R s m args below meth c H locs (bz_Nn M - N0) (bz_sl P.1 nf (bz_Nn M) - bz_sl P.1 nf N0) Q (F0 m pc ls (st.map (bz_mv ad))) := by
  obtain ⟨hC, hwl1, hwl2, hwo, hsf, hgd, hck, hnwk, hMt⟩ := id hD
  obtain ⟨g1, g2, g3, g4, g5, g6, g7, g8⟩ := hMt mi y cc nL ret hm
  obtain ⟨k1, k2, k3, k4⟩ := g8 pc e0 ht
  have ih : bz_Snd l P tc nf cA wl sM sf sc D cl A Ts nw mt f := bz_sound hD f
  have hst2 := bz_back_at h2
  have hNa := bz_run_N hC.1 f d' m' 0 _ [] M _ h1
  dsimp only at hNa
  have hm1 : bz_sl P.1 nf (bz_Nn M) ≤ bz_sl P.1 nf (bz_Nn M') := bz_sl_mono hNa
  have hm0 : bz_sl P.1 nf N0 ≤ bz_sl P.1 nf (bz_Nn M) := bz_sl_mono hI.iN
  have hN0 := hI.iN
  obtain ⟨hx, hb, hml, hown, hts, hrt, hlk, hnm, hK, hnw, hao⟩ := id hF
  -- behind the call
  have after : ∀ (pcx : Nat), pcx + 3 = pc' → ∀ (st0 : List Value) (a' : Array Value), bz_Sw (bz_Nn M) st' → L' = bz_fg e0.2.2.2.2 L → va_Run p l e R s m args below meth c H locs (bz_Nn M - N0) (bz_sl P.1 nf (bz_Nn M) - bz_sl P.1 nf N0) (bz_Nn M' - bz_Nn M) (bz_sl P.1 nf (bz_Nn M') - bz_sl P.1 nf (bz_Nn M)) (F0 m pcx ls st0) (st'.map (bz_mv ad)) (bz_Qc P.1 tc nf cA wl P.2.2.1 sM sf sc D cl A nw (bz_Nn M) ad v M' a') A → W p l e R s m args below meth c H locs (bz_Nn M - N0) (bz_sl P.1 nf (bz_Nn M) - bz_sl P.1 nf N0) Q (F0 m pcx ls st0) := by
    intro pcx hpc st0 a' hsw hL hrr
    refine bz_callx hrr hI.iS (fun ad2 H1 locs1 hag hP hDD hwf hvw hN hS1 => ?_)
    have e1 : bz_Nn M - N0 + (bz_Nn M' - bz_Nn M) = bz_Nn M' - N0 := by omega
    have e2 : bz_sl P.1 nf (bz_Nn M) - bz_sl P.1 nf N0 + (bz_sl P.1 nf (bz_Nn M') - bz_sl P.1 nf (bz_Nn M)) = bz_sl P.1 nf (bz_Nn M') - bz_sl P.1 nf N0 := by omega
    rw [e1, e2, hpc]
    have e3 : (v.map (bz_mv ad2)).toList ++ st'.map (bz_mv ad) = st''.map (bz_mv ad2) := by
      rw [hst2, List.map_append]
      have : st'.map (bz_mv ad2) = st'.map (bz_mv ad) := List.map_congr_left fun z hz => bz_mv_ag hag (hsw z hz)
      rw [this]
      cases v <;> rfl
    rw [e3]
    refine kk ad2 H1 locs1 ls ⟨hP, hDD, hS1, hwf, ?_, ?_, ?_, ?_, fun q hq => by rw [hag q (by omega)]; exact hI.ag q hq, by omega⟩
    · rw [hL]
      have hl := hI.lr.fg e0.2.2.2.2
      refine ⟨hl.1, hl.2.1, hl.2.2.1, fun i z hz => ?_⟩
      rw [bz_mv_ag hag ((hI.Lw.fg e0.2.2.2.2) i z hz)]
      exact hl.2.2.2 i z hz
    · rw [hL]
      exact fun i z hz => ((hI.Lw.fg e0.2.2.2.2) i z hz).mono hN
    · rw [hst2]
      intro z hz
      rcases List.mem_append.mp hz with hz | hz
      · cases v with
        | none => exact absurd hz List.not_mem_nil
        | some u =>
          have : z = u := by simpa using hz
          rw [this]
          exact hvw u rfl
      · exact (hsw z hz).mono hN
    · refine bz_St_ag hag hI.wf.1 (fun r k h3 h4 => ?_) hsf hI.St
      have g := hI.wf.2.1 r k h3 (Nat.le_trans h4 hI.wf.1)
      rw [hI.wf.2.2.1 r h3 h4] at g
      exact g
  have words : m' ≠ 0 → ∀ {y' : MethodName} {cc' : ByteArray} {nL' : Nat} {ret' : Option FieldType}, mt m' = some (y', cc', nL', ret') → ∀ w ∈ (Cond.code y' cc' nL' ret' :: Ts), ∀ (a' : Array Value) (U : State), s.WarmedH U.vm → w.before a' U = true := by
    intro hm0 y' cc' nL' ret' hm' w hw a' U hU
    have hc5 := (hMt m' y' cc' nL' ret' hm').2.2.2.2.1 hm0
    rcases List.mem_cons.mp hw with rfl | hw
    · exact word_at hU (hgd _ hc5) (hts _ hc5)
    · exact word_at hU (hgd _ hw) (hts _ hw)
  rcases bz_step_C hs with ⟨hkind, hinv⟩ | ⟨hkind, hinv⟩
  · unfold bz_invV bz_call at hinv
    split at hinv
    · rename_i b r0 st2 hargs
      split at hinv
      · rename_i hkr
        split at hinv
        · rename_i hcat
          cases hinv
          obtain ⟨b0, hb1, hb2, hb3⟩ := bz_args_at _ _ _ _ _ hargs
          rw [List.append_nil] at hb3
          subst hb3
          have hsw0 : bz_Sw (bz_Nn M) (b0 ++ Sum.inr (Sum.inr r0) :: st') := by rw [← hb2]; exact hI.Sw
          have hswr : bz_vw (bz_Nn M) (Sum.inr (Sum.inr r0)) := hsw0 _ (List.mem_append_right _ List.mem_cons_self)
          have hswt : bz_Sw (bz_Nn M) st' := fun z hz => hsw0 z (List.mem_append_right _ (List.mem_cons_of_mem _ hz))
          have hswa : bz_Sw (bz_Nn M) (Sum.inr (Sum.inr r0) :: b0.reverse) := hswr |> fun h => bz_Sw.cons h (fun z hz => hsw0 z (List.mem_append_left _ (List.mem_reverse.mp hz)))
          have hr0 : r0 ≠ 0 := fun e1 => by rw [e1, hC.1] at hkr; cases hkr
          have hstk : st.map (bz_mv ad) = ((b0.reverse.map (bz_mv ad)).reverse ++ .ref (ad r0) :: st'.map (bz_mv ad)) := by
            rw [hb2, List.map_append, List.map_cons, bz_mvr hr0, List.map_reverse, List.reverse_reverse]
          have hmap : (Sum.inr (Sum.inr r0) :: b0.reverse).map (bz_mv ad) = .ref (ad r0) :: b0.reverse.map (bz_mv ad) := by rw [List.map_cons, bz_mvr hr0]
          obtain ⟨hm0, hok⟩ := k4 (by rcases hkind with h | h; exact Or.inl h; exact Or.inr (Or.inr h))
          have hsize : ls.size = nL := hI.lr.1
          rcases hok with ⟨x, hins, y', cc', nL', ret', c1, c2, c3, c4, c5, c6, c7⟩ | ⟨x, hins, -⟩ | ⟨x, hins, y', cc', nL', c1, c2, c3, c4, c5, c6⟩
          · obtain ⟨q1, q2, q3, q4, q5, q6, q7, -⟩ := hMt _ y' cc' nL' ret' c1
            have hln : e0.2.1 = 3 := by have := k1.1; rw [hins] at this; exact this
            rw [hins, hln] at k2
            rw [q1] at h1
            have hmet := bz_met (ad := ad) ih hD c1 h1 hI.wf hswa (by rw [c2]; exact hcat.2)
            rw [hmap] at hmet
            rw [hstk]
            refine after pc (by rw [hln]) _ _ hswt rfl (va_runV (Ts := Ts) (C := y'.cls) (n := e0.2.2.1.getD 2 0) (index := x) ⟨hx, hb, hml, hown, hts⟩ hmet ⟨⟨rfl, rfl, ?_, ?_, words hm0 c1, List.mem_cons_self, hts _ (q5 hm0), hts _ (q6 hm0), q7, ?_, hts _ c4⟩, hts _ c5, hts _ c6⟩ ⟨bz_Pre_blind hnwk, ?_, fun U hU hW => ⟨rfl, bz_preU hnwk hA hI.iP hK hI.iD hI.iS hI.St hnw hao hZ hU hW⟩⟩ rfl (by rw [List.length_map, List.length_reverse]; exact hb1) hsize rfl (lv_room (by rw [bz_catm]; exact hcat.1)) k2 ⟨by omega, by omega⟩)
            · show d' + 2 + 1 ≤ R.frames
              omega
            · show 8 + (nL' + 11) + 40 * (d' + 2) ≤ R.locals
              omega
            · intro sig h9
              rw [h9] at c3
              exact (Option.some.inj c3).symm
            · rcases c7 with ⟨T, nn, c7⟩ | ⟨c7, gg, nn, c8⟩
              · have hci : e0.2.2.1.getD 4 0 < 12 := bz_clt (fun _ => trivial) hC c7
                have hns : bz_ns < r0 := by
                  have := hC.2.1 r0 _ hkr
                  omega
                exact va_recv hK hI.iP c7 (by rw [bz_ws_get hns hswr, bz_cell_obj hkr])
              · have hns : r0 ≤ bz_ns := (hC.2.1 r0 _ hkr).mpr c7
                obtain ⟨q, u1, u2, -⟩ := hI.St.2.2.1 r0 _ hr0 hns hkr
                rw [c8] at u1
                cases u1
                obtain ⟨cell, z1, z2, z3, -⟩ := u2.kept hI.iS.2.1
                exact ⟨cell, z1, z2, z3⟩
          · exfalso
            rcases hkind with ⟨z, h⟩ | ⟨z, h, -⟩ <;> rw [h] at hins <;> cases hins
          · obtain ⟨q1, q2, q3, q4, q5, q6, q7, -⟩ := hMt _ y' cc' nL' none c1
            have hln : e0.2.1 = 3 := by have := k1.1; rw [hins] at this; exact this
            rw [hins, hln] at k2
            rw [q1] at h1
            have hmet := bz_met (ad := ad) ih hD c1 h1 hI.wf hswa (by rw [c2]; exact hcat.2)
            rw [hmap] at hmet
            rw [hstk]
            have hl9 : 8 + (nL' + 11) + 40 * (d' + 2) ≤ R.locals := by omega
            have hf9 : d' + 2 + 1 ≤ R.frames := by omega
            have hd9 : ∀ sig, parseMethodDescriptor y'.desc = some sig → e0.2.2.1.getD 2 0 = sig.parameters.length := by
              intro sig h9
              rw [h9] at c3
              exact (Option.some.inj c3).symm
            rcases c6 with c6 | ⟨hh, c6⟩
            · refine after pc (by rw [hln]) _ _ hswt rfl (va_runI (Ts := Ts) (n := e0.2.2.1.getD 2 0) (index := x) ⟨hx, hb, hml, hown, hts⟩ hmet ⟨⟨rfl, rfl, hf9, hl9, words hm0 c1, List.mem_cons_self, hts _ (q5 hm0), hts _ (q6 hm0), q7, hd9, hts _ c6⟩, c4, hts _ c5⟩ ⟨bz_Pre_blind hnwk, fun U hU hW => ⟨rfl, bz_preU hnwk hA hI.iP hK hI.iD hI.iS hI.St hnw hao hZ hU hW⟩⟩ rfl (by rw [List.length_map, List.length_reverse]; exact hb1) hsize rfl (lv_room (by rw [bz_catm]; exact hcat.1)) k2 ⟨by omega, by omega⟩)
            · refine after pc (by rw [hln]) _ _ hswt rfl (va_runIN (Ts := Ts) (n := e0.2.2.1.getD 2 0) (index := x) (host := hh) ⟨hx, hb, hml, hown, hts⟩ hmet ⟨⟨⟨rfl, rfl, hf9, hl9, words hm0 c1, List.mem_cons_self⟩, hts _ (q5 hm0), hts _ (q6 hm0), q7, hd9, va_Nw.use rfl (hnw _ c6)⟩, c4, hts _ c5⟩ ⟨bz_Pre_blind hnwk, fun U hU hW => ⟨rfl, bz_preU hnwk hA hI.iP hK hI.iD hI.iS hI.St hnw hao hZ hU hW⟩⟩ rfl (by rw [List.length_map, List.length_reverse]; exact hb1) hsize rfl (lv_room (by rw [bz_catm]; exact hcat.1)) k2 ⟨by omega, by omega⟩)
        · cases hinv
      · cases hinv
    · cases hinv
  · unfold bz_invS bz_call at hinv
    split at hinv
    · rename_i b st2 hargs
      split at hinv
      · rename_i hcat
        cases hinv
        obtain ⟨b0, hb1, hb2, hb3⟩ := bz_args_at _ _ _ _ _ hargs
        rw [List.append_nil] at hb3
        subst hb3
        have hsw0 : bz_Sw (bz_Nn M) (b0 ++ st') := by rw [← hb2]; exact hI.Sw
        have hswt : bz_Sw (bz_Nn M) st' := fun z hz => hsw0 z (List.mem_append_right _ hz)
        have hswa : bz_Sw (bz_Nn M) b0.reverse := fun z hz => hsw0 z (List.mem_append_left _ (List.mem_reverse.mp hz))
        have hstk : st.map (bz_mv ad) = ((b0.reverse.map (bz_mv ad)).reverse ++ st'.map (bz_mv ad)) := by
          rw [hb2, List.map_append, List.map_reverse, List.reverse_reverse]
        obtain ⟨hm0, hok⟩ := k4 (Or.inr (Or.inl hkind))
        have hsize : ls.size = nL := hI.lr.1
        rcases hok with ⟨x, hins, -⟩ | ⟨x, hins, y', cc', nL', ret', c1, c2, c3, c4, c5⟩ | ⟨x, hins, -⟩
        · exfalso
          obtain ⟨z, h, -⟩ := hkind
          rw [h] at hins; cases hins
        · obtain ⟨q1, q2, q3, q4, q5, q6, q7, -⟩ := hMt _ y' cc' nL' ret' c1
          have hln : e0.2.1 = 3 := by have := k1.1; rw [hins] at this; exact this
          rw [hins, hln] at k2
          rw [q1] at h1
          have hmet := bz_met (ad := ad) ih hD c1 h1 hI.wf hswa (by rw [c2]; exact hcat.2)
          rw [hstk]
          have hd9 : ∀ sig, parseMethodDescriptor y'.desc = some sig → e0.2.2.1.getD 2 0 = sig.parameters.length := by
            intro sig h9
            rw [h9] at c3
            exact (Option.some.inj c3).symm
          have hl9 : 8 + (nL' + 11) + 40 * (d' + 2) ≤ R.locals := by omega
          have hf9 : d' + 2 + 1 ≤ R.frames := by omega
          refine after pc (by rw [hln]) _ _ hswt rfl (va_runS (Ts := Ts) (n := e0.2.2.1.getD 2 0) (index := x) ⟨hx, hb, hml, hown, hts⟩ hmet ⟨⟨rfl, rfl, hf9, hl9, words hm0 c1, List.mem_cons_self, hts _ (q5 hm0), hts _ (q6 hm0), q7, hd9, hts _ c4⟩, hts _ c5⟩ ⟨bz_Pre_blind hnwk, fun U hU hW => ⟨rfl, bz_preU hnwk hA hI.iP hK hI.iD hI.iS hI.St hnw hao hZ hU hW⟩⟩ rfl (by rw [List.length_map, List.length_reverse]; exact hb1) hsize rfl (lv_room (by rw [bz_catm]; exact hcat.1)) k2 ⟨by omega, by omega⟩)
        · exfalso
          obtain ⟨z, h, -⟩ := hkind
          rw [h] at hins; cases hins
      · cases hinv
    · cases hinv
end ZA

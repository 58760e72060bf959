/-! SOUND: the induction over the steps of the small machine -/
theorem bz_args_at : ∀ (n : Nat) (acc st a st2 : bz_S), bz_args n acc st = some (a, st2) → ∃ b : bz_S, b.length = n ∧ st = b ++ st2 ∧ a = b.reverse ++ acc
  | 0, acc, st, a, st2, h => by
    cases h
    exact ⟨[], rfl, rfl, rfl⟩
  | n + 1, acc, [], a, st2, h => by cases h
  | n + 1, acc, v :: st, a, st2, h => by
    obtain ⟨b, h1, h2, h3⟩ := bz_args_at n (v :: acc) st a st2 h
    exact ⟨v :: b, by rw [List.length_cons, h1], by rw [h2]; rfl, by rw [h3, List.reverse_cons, List.append_assoc]; rfl⟩
theorem bz_back_at {rk : Nat} {v : Option bz_V} {st' st'' : bz_S} (h : bz_back rk v st' = some st'') : st'' = v.toList ++ st' := by
  unfold bz_back at h
  split at h <;> first | (cases h; rfl) | cases h
section SU
variable {l : Launch} {P : bz_P} {tc : Nat → Nat → Nat} {nf : Nat → Nat} {cA : Nat → ClassId} {wl : List (Nat × Nat × Nat)} {sM : bz_M} {sf : List (String × String × String × bz_V)} {sc : bz_Sc} {D : va_G} {cl : List vw_C} {A : Nat → Prop} {Ts nw : List Cond} {fty : Nat → Nat → FieldType} {mt : bz_Mt}
set_option maxHeartbeats 4000000 in
set_option maxRecDepth 100000 in
theorem bz_sound (hD : bz_Dok P tc nf wl sf sc cl Ts nw fty mt) : ∀ f, bz_Snd l P tc nf cA wl sM sf sc D cl A Ts nw mt f := by
  intro f
  induction f with
  | zero => intro d mi y cc nL ret pc L st M r M2 hm h; cases h
  | succ f ih =>
    intro d mi y cc nL ret pc L st M r M2 hm hrun p e R s m args below meth c N0 ad0 ad H locs ls hF hZ hA hR hI
    obtain ⟨hC, hwl1, hwl2, hwo, hsf, hgd, hck, hnwk, hMt⟩ := id hD
    obtain ⟨g1, g2, g3, g4, g5, g6, g7, g8⟩ := hMt mi y cc nL ret hm
    rw [bz_run_F] at hrun
    unfold bz_F at hrun
    cases ht : P.2.2.2.1 mi pc with
    | none => rw [ht] at hrun; cases hrun
    | some e0 =>
      rw [ht] at hrun
      dsimp only at hrun
      obtain ⟨k1, k2, k3, k4⟩ := g8 pc e0 ht
      cases hs : bz_step P.1 P.2.1 P.2.2.1 (P.2.2.2.2.2 mi) e0 pc L st M with
      | none => rw [hs] at hrun; cases hrun
      | some o =>
        rw [hs] at hrun
        rcases o with x | n | g
        · -- a return
          have hx := Option.some.inj hrun
          subst hx
          obtain ⟨hins, hret⟩ := bz_step_R hs
          obtain ⟨hx, hb, hml, hown, hts, hrt, hlk, hnm, hK, hnw, hao⟩ := hF
          have hln : e0.2.1 = 1 := by
            have := k1.1
            rcases hins with h | h | h | h <;> rw [h] at this <;> exact this
          rw [hln] at k2
          have hq : M = M2 → (∀ v, r = some v → bz_vw (bz_Nn M) v) → ∀ t : State, t.heap = H → s.WarmedH t.vm → bz_Qc P.1 tc nf cA wl P.2.2.1 sM sf sc D cl A nw N0 ad0 r M2 args s (.returned (r.map (bz_mv ad))) t := by
            intro e1 e2 t ht hW
            subst e1
            exact ⟨⟨ad, rfl, hI.ag, bz_preU hnwk hA hI.iP hK hI.iD hI.iS hI.St hnw hao hZ ht hW, hI.wf, e2, hI.iN⟩, hI.iS.F ht⟩
          have hS2 := hI.iS.2.2
          unfold bz_ret at hret
          split at hret
          · rename_i hrt0
            cases hret
            have hrn : ret = none := by
              rw [hrt0] at g2
              rcases g2 with ⟨-, h⟩ | ⟨h, -⟩ | ⟨h, -⟩ | ⟨h, -⟩ | ⟨h, -⟩ | ⟨h, -⟩ | ⟨h, -⟩ <;> first | exact h | cases h
            have hi : e0.1 = .return_ := by
              rcases hins with h | h | h | h
              · rw [h, hrt0] at k3; rcases k3 with k3 | k3 | k3 | k3 <;> cases k3
              · rw [h, hrt0] at k3; cases k3
              · rw [h, hrt0] at k3; cases k3
              · exact h
            rw [hi] at k2
            rw [hrn] at hrt
            exact W.vret hx hb hrt (hq rfl (fun v h => by cases h)) hS2 k2
          · rename_i xv hrt0
            cases hret
            have hrn : ret = some .int := by
              rw [hrt0] at g2
              rcases g2 with ⟨h, -⟩ | ⟨-, h⟩ | ⟨h, -⟩ | ⟨h, -⟩ | ⟨h, -⟩ | ⟨h, -⟩ | ⟨h, -⟩ <;> first | exact h | cases h
            have hi : e0.1 = .ireturn := by
              rcases hins with h | h | h | h
              · exact h
              · rw [h, hrt0] at k3; cases k3
              · rw [h, hrt0] at k3; cases k3
              · rw [h, hrt0] at k3; cases k3
            rw [hi] at k2
            rw [hrn] at hrt
            exact W.iret hx hb hrt (hq rfl (fun v h => by cases h; exact hI.Sw.head)) hS2 k2
          · rename_i xv hrt0
            split at hret
            · rename_i h01
              cases hret
              have hrn : ret = some .boolean := by
                rw [hrt0] at g2
                rcases g2 with ⟨h, -⟩ | ⟨h, -⟩ | ⟨-, h⟩ | ⟨h, -⟩ | ⟨h, -⟩ | ⟨h, -⟩ | ⟨h, -⟩ <;> first | exact h | cases h
              have hi : e0.1 = .ireturn := by
                rcases hins with h | h | h | h
                · exact h
                · rw [h, hrt0] at k3; cases k3
                · rw [h, hrt0] at k3; cases k3
                · rw [h, hrt0] at k3; cases k3
              rw [hi] at k2
              rw [hrn] at hrt
              exact W.zret hx hb hrt (by rcases h01 with rfl | rfl <;> rfl) (hq rfl (fun v h => by cases h; exact hI.Sw.head)) hS2 k2
            · cases hret
          · rename_i xv hrt0
            split at hret
            · rename_i h01
              cases hret
              have hrn : ret = some .char := by
                rw [hrt0] at g2
                rcases g2 with ⟨h, -⟩ | ⟨h, -⟩ | ⟨h, -⟩ | ⟨-, h⟩ | ⟨h, -⟩ | ⟨h, -⟩ | ⟨h, -⟩ <;> first | exact h | cases h
              have hi : e0.1 = .ireturn := by
                rcases hins with h | h | h | h
                · exact h
                · rw [h, hrt0] at k3; cases k3
                · rw [h, hrt0] at k3; cases k3
                · rw [h, hrt0] at k3; cases k3
              rw [hi] at k2
              rw [hrn] at hrt
              have hc : narrow .char (.int (Int32.ofInt xv)) = .int (Int32.ofInt xv) := by
                obtain ⟨n, rfl⟩ := Int.eq_ofNat_of_zero_le h01.1
                exact (pk_charN (q := n) (by omega)).1
              exact W.zret hx hb hrt hc (hq rfl (fun v h => by cases h; exact hI.Sw.head)) hS2 k2
            · cases hret
          · rename_i xv hrt0
            split at hret
            · rename_i h01
              cases hret
              have hrn : ret = some .byte := by
                rw [hrt0] at g2
                rcases g2 with ⟨h, -⟩ | ⟨h, -⟩ | ⟨h, -⟩ | ⟨h, -⟩ | ⟨-, h⟩ | ⟨h, -⟩ | ⟨h, -⟩ <;> first | exact h | cases h
              have hi : e0.1 = .ireturn := by
                rcases hins with h | h | h | h
                · exact h
                · rw [h, hrt0] at k3; cases k3
                · rw [h, hrt0] at k3; cases k3
                · rw [h, hrt0] at k3; cases k3
              rw [hi] at k2
              rw [hrn] at hrt
              have hc : narrow .byte (.int (Int32.ofInt xv)) = .int (Int32.ofInt xv) := by
                have h9 := pk_nb (Int32.ofInt xv)
                rw [bz_o_i2b (show bz_in32 xv by unfold bz_in32; omega), bz_w8_id h01.1 h01.2] at h9
                exact h9
              exact W.zret hx hb hrt hc (hq rfl (fun v h => by cases h; exact hI.Sw.head)) hS2 k2
            · cases hret
          · rename_i xv hrt0
            cases hret
            have hrn : ret = some .long := by
              rw [hrt0] at g2
              rcases g2 with ⟨h, -⟩ | ⟨h, -⟩ | ⟨h, -⟩ | ⟨h, -⟩ | ⟨h, -⟩ | ⟨-, h⟩ | ⟨h, -⟩ <;> first | exact h | cases h
            have hi : e0.1 = .lreturn := by
              rcases hins with h | h | h | h
              · rw [h, hrt0] at k3; rcases k3 with k3 | k3 | k3 | k3 <;> cases k3
              · exact h
              · rw [h, hrt0] at k3; cases k3
              · rw [h, hrt0] at k3; cases k3
            rw [hi] at k2
            rw [hrn] at hrt
            exact W.lret hx hb hrt (hq rfl (fun v h => by cases h; exact hI.Sw.head)) hS2 k2
          · rename_i xv hrt0
            cases hret
            have hrn : (∃ z, ret = some (.object z)) ∨ ∃ z, ret = some (.array z) := by
              rw [hrt0] at g2
              rcases g2 with ⟨h, -⟩ | ⟨h, -⟩ | ⟨h, -⟩ | ⟨h, -⟩ | ⟨h, -⟩ | ⟨h, -⟩ | ⟨-, h⟩ <;> first | exact h | cases h
            have hi : e0.1 = .areturn := by
              rcases hins with h | h | h | h
              · rw [h, hrt0] at k3; rcases k3 with k3 | k3 | k3 | k3 <;> cases k3
              · rw [h, hrt0] at k3; cases k3
              · exact h
              · rw [h, hrt0] at k3; cases k3
            rw [hi] at k2
            have e2 : bz_mv ad (.inr (.inr xv)) = .null ∨ ∃ a, bz_mv ad (.inr (.inr xv)) = .ref a := by
              unfold bz_mv
              dsimp only
              split
              · exact Or.inl rfl
              · exact Or.inr ⟨_, rfl⟩
            rcases hrn with ⟨z, hz⟩ | ⟨z, hz⟩
            · rw [hz] at hrt
              exact W.aret hx hb hrt (Or.inl ⟨z, rfl⟩) e2 (hq rfl (fun v h => by cases h; exact hI.Sw.head)) hS2 k2
            · rw [hz] at hrt
              exact W.aret hx hb hrt (Or.inr ⟨z, rfl⟩) e2 (hq rfl (fun v h => by cases h; exact hI.Sw.head)) hS2 k2
          · cases hret
        · -- on in the same method
          obtain ⟨pc', L', st', M'⟩ := n
          dsimp only at hrun
          have hN2 := bz_run_N hC.1 f d mi pc' L' st' M' _ hrun
          dsimp only at hN2
          have hm1 : bz_sl P.1 nf (bz_Nn M') ≤ bz_sl P.1 nf (bz_Nn M2) := bz_sl_mono hN2
          refine bz_stepN hF hC hwl1 hwl2 hwo hsf ⟨by omega, by omega⟩ hA (bz_ckR hgd hck hF.1 hF.2.1 hF.2.2.1 hF.2.2.2.1 hF.2.2.2.2.1 hZ ⟨by omega, by omega⟩) k1 k2 hI ⟨by omega, by omega⟩ hs (fun ad' H' locs' ls' hI' => ?_)
          exact ih d mi y cc nL ret pc' L' st' M' r M2 hm hrun p e R s m args below meth c N0 ad0 ad' H' locs' ls' hF hZ hA hR hI'
        · -- a call
          obtain ⟨m', a, pc', L', st', rk⟩ := g
          cases d with
          | zero => cases hrun
          | succ d' =>
            dsimp only at hrun
            cases h1 : bz_run P f d' m' 0 (bz_ent a (P.2.2.2.2.1 m')) [] M with
            | none => rw [h1] at hrun; cases hrun
            | some yy =>
              rw [h1] at hrun
              obtain ⟨v, M'⟩ := yy
              dsimp only at hrun
              cases h2 : bz_back rk v st' with
              | none => rw [h2] at hrun; cases hrun
              | some st'' =>
                rw [h2] at hrun
                dsimp only at hrun
                have hst2 := bz_back_at h2
                have hNa := bz_run_N hC.1 f d' m' 0 _ [] M _ h1
                have hNb := bz_run_N hC.1 f (d' + 1) mi pc' L' st'' M' _ hrun
                dsimp only at hNa hNb
                have hm1 : bz_sl P.1 nf (bz_Nn M) ≤ bz_sl P.1 nf (bz_Nn M') := bz_sl_mono hNa
                have hm2 : bz_sl P.1 nf (bz_Nn M') ≤ bz_sl P.1 nf (bz_Nn M2) := bz_sl_mono hNb
                have hm0 : bz_sl P.1 nf N0 ≤ bz_sl P.1 nf (bz_Nn M) := bz_sl_mono hI.iN
                have hN0 := hI.iN
                obtain ⟨hx, hb, hml, hown, hts, hrt, hlk, hnm, hK, hnw, hao⟩ := id hF
                -- behind the call
                have after : ∀ (pcx : Nat), pcx + 3 = pc' → ∀ (st0 : List Value) (a' : Array Value), bz_Sw (bz_Nn M) st' → L' = bz_fg e0.2.2.2.2 L → va_Run p l e R s m args below meth c H locs (bz_Nn M - N0) (bz_sl P.1 nf (bz_Nn M) - bz_sl P.1 nf N0) (bz_Nn M' - bz_Nn M) (bz_sl P.1 nf (bz_Nn M') - bz_sl P.1 nf (bz_Nn M)) (F0 m pcx ls st0) (st'.map (bz_mv ad)) (bz_Qc P.1 tc nf cA wl P.2.2.1 sM sf sc D cl A nw (bz_Nn M) ad v M' a') A → W p l e R s m args below meth c H locs (bz_Nn M - N0) (bz_sl P.1 nf (bz_Nn M) - bz_sl P.1 nf N0) (MQ below (bz_Qc P.1 tc nf cA wl P.2.2.1 sM sf sc D cl A nw N0 ad0 r M2) args s (bz_Nn M2 - N0) (bz_sl P.1 nf (bz_Nn M2) - bz_sl P.1 nf N0) A) (F0 m pcx ls st0) := by
                  intro pcx hpc st0 a' hsw hL hrr
                  refine bz_callx hrr hI.iS (fun ad2 H1 locs1 hag hP hDD hwf hvw hN hS1 => ?_)
                  have e1 : bz_Nn M - N0 + (bz_Nn M' - bz_Nn M) = bz_Nn M' - N0 := by omega
                  have e2 : bz_sl P.1 nf (bz_Nn M) - bz_sl P.1 nf N0 + (bz_sl P.1 nf (bz_Nn M') - bz_sl P.1 nf (bz_Nn M)) = bz_sl P.1 nf (bz_Nn M') - bz_sl P.1 nf N0 := by omega
                  rw [e1, e2, hpc]
                  have e3 : (v.map (bz_mv ad2)).toList ++ st'.map (bz_mv ad) = st''.map (bz_mv ad2) := by
                    rw [hst2, List.map_append]
                    have : st'.map (bz_mv ad2) = st'.map (bz_mv ad) := List.map_congr_left fun z hz => bz_mv_ag hag (hsw z hz)
                    rw [this]
                    cases v <;> rfl
                  rw [e3]
                  refine ih (d' + 1) mi y cc nL ret pc' L' st'' M' r M2 hm hrun p e R s m args below meth c N0 ad0 ad2 H1 locs1 ls hF hZ hA hR ⟨hP, hDD, hS1, hwf, ?_, ?_, ?_, ?_, fun q hq => by rw [hag q (by omega)]; exact hI.ag q hq, by omega⟩
                  · rw [hL]
                    have hl := hI.lr.fg e0.2.2.2.2
                    refine ⟨hl.1, hl.2.1, hl.2.2.1, fun i z hz => ?_⟩
                    rw [bz_mv_ag hag ((hI.Lw.fg e0.2.2.2.2) i z hz)]
                    exact hl.2.2.2 i z hz
                  · rw [hL]
                    exact fun i z hz => ((hI.Lw.fg e0.2.2.2.2) i z hz).mono hN
                  · rw [hst2]
                    intro z hz
                    rcases List.mem_append.mp hz with hz | hz
                    · cases v with
                      | none => exact absurd hz List.not_mem_nil
                      | some u =>
                        have : z = u := by simpa using hz
                        rw [this]
                        exact hvw u rfl
                    · exact (hsw z hz).mono hN
                  · refine bz_St_ag hag hI.wf.1 (fun r k h3 h4 => ?_) hsf hI.St
                    have g := hI.wf.2.1 r k h3 (Nat.le_trans h4 hI.wf.1)
                    rw [hI.wf.2.2.1 r h3 h4] at g
                    exact g
                have words : m' ≠ 0 → ∀ {y' : MethodName} {cc' : ByteArray} {nL' : Nat} {ret' : Option FieldType}, mt m' = some (y', cc', nL', ret') → ∀ w ∈ (Cond.code y' cc' nL' ret' :: Ts), ∀ (a' : Array Value) (U : State), s.WarmedH U.vm → w.before a' U = true := by
                  intro hm0 y' cc' nL' ret' hm' w hw a' U hU
                  have hc5 := (hMt m' y' cc' nL' ret' hm').2.2.2.2.1 hm0
                  rcases List.mem_cons.mp hw with rfl | hw
                  · exact word_at hU (hgd _ hc5) (hts _ hc5)
                  · exact word_at hU (hgd _ hw) (hts _ hw)
                rcases bz_step_C hs with ⟨hkind, hinv⟩ | ⟨hkind, hinv⟩
                · unfold bz_invV bz_call at hinv
                  split at hinv
                  · rename_i b r0 st2 hargs
                    split at hinv
                    · rename_i hkr
                      split at hinv
                      · rename_i hcat
                        cases hinv
                        obtain ⟨b0, hb1, hb2, hb3⟩ := bz_args_at _ _ _ _ _ hargs
                        rw [List.append_nil] at hb3
                        subst hb3
                        have hsw0 : bz_Sw (bz_Nn M) (b0 ++ Sum.inr (Sum.inr r0) :: st') := by rw [← hb2]; exact hI.Sw
                        have hswr : bz_vw (bz_Nn M) (Sum.inr (Sum.inr r0)) := hsw0 _ (List.mem_append_right _ List.mem_cons_self)
                        have hswt : bz_Sw (bz_Nn M) st' := fun z hz => hsw0 z (List.mem_append_right _ (List.mem_cons_of_mem _ hz))
                        have hswa : bz_Sw (bz_Nn M) (Sum.inr (Sum.inr r0) :: b0.reverse) := hswr |> fun h => bz_Sw.cons h (fun z hz => hsw0 z (List.mem_append_left _ (List.mem_reverse.mp hz)))
                        have hr0 : r0 ≠ 0 := fun e1 => by rw [e1, hC.1] at hkr; cases hkr
                        have hstk : st.map (bz_mv ad) = ((b0.reverse.map (bz_mv ad)).reverse ++ .ref (ad r0) :: st'.map (bz_mv ad)) := by
                          rw [hb2, List.map_append, List.map_cons, bz_mvr hr0, List.map_reverse, List.reverse_reverse]
                        have hmap : (Sum.inr (Sum.inr r0) :: b0.reverse).map (bz_mv ad) = .ref (ad r0) :: b0.reverse.map (bz_mv ad) := by rw [List.map_cons, bz_mvr hr0]
                        obtain ⟨hm0, hok⟩ := k4 (by rcases hkind with h | h; exact Or.inl h; exact Or.inr (Or.inr h))
                        have hsize : ls.size = nL := hI.lr.1
                        rcases hok with ⟨x, hins, y', cc', nL', ret', c1, c2, c3, c4, c5, c6, c7⟩ | ⟨x, hins, -⟩ | ⟨x, hins, y', cc', nL', c1, c2, c3, c4, c5, c6⟩
                        · obtain ⟨q1, q2, q3, q4, q5, q6, q7, -⟩ := hMt _ y' cc' nL' ret' c1
                          have hln : e0.2.1 = 3 := by have := k1.1; rw [hins] at this; exact this
                          rw [hins, hln] at k2
                          rw [q1] at h1
                          have hmet := bz_met (ad := ad) ih hD c1 h1 hI.wf hswa (by rw [c2]; exact hcat.2)
                          rw [hmap] at hmet
                          rw [hstk]
                          refine after pc (by rw [hln]) _ _ hswt rfl (va_runV (Ts := Ts) (C := y'.cls) (n := e0.2.2.1.getD 2 0) (index := x) ⟨hx, hb, hml, hown, hts⟩ hmet ⟨⟨rfl, rfl, ?_, ?_, words hm0 c1, List.mem_cons_self, hts _ (q5 hm0), hts _ (q6 hm0), q7, ?_, hts _ c4⟩, hts _ c5, hts _ c6⟩ ⟨bz_Pre_blind hnwk, ?_, fun U hU hW => ⟨rfl, bz_preU hnwk hA hI.iP hK hI.iD hI.iS hI.St hnw hao hZ hU hW⟩⟩ rfl (by rw [List.length_map, List.length_reverse]; exact hb1) hsize rfl (lv_room (by rw [bz_catm]; exact hcat.1)) k2 ⟨by omega, by omega⟩)
                          · show d' + 2 + 1 ≤ R.frames
                            omega
                          · show 8 + (nL' + 11) + 40 * (d' + 2) ≤ R.locals
                            omega
                          · intro sig h9
                            rw [h9] at c3
                            exact (Option.some.inj c3).symm
                          · rcases c7 with ⟨T, nn, c7⟩ | ⟨c7, gg, nn, c8⟩
                            · have hci : e0.2.2.1.getD 4 0 < 12 := bz_clt (fun _ => trivial) hC c7
                              have hns : bz_ns < r0 := by
                                have := hC.2.1 r0 _ hkr
                                omega
                              exact va_recv hK hI.iP c7 (by rw [bz_ws_get hns hswr, bz_cell_obj hkr])
                            · have hns : r0 ≤ bz_ns := (hC.2.1 r0 _ hkr).mpr c7
                              obtain ⟨q, u1, u2, -⟩ := hI.St.2.2.1 r0 _ hr0 hns hkr
                              rw [c8] at u1
                              cases u1
                              obtain ⟨cell, z1, z2, z3, -⟩ := u2.kept hI.iS.2.1
                              exact ⟨cell, z1, z2, z3⟩
                        · exfalso
                          rcases hkind with ⟨z, h⟩ | ⟨z, h, -⟩ <;> rw [h] at hins <;> cases hins
                        · obtain ⟨q1, q2, q3, q4, q5, q6, q7, -⟩ := hMt _ y' cc' nL' none c1
                          have hln : e0.2.1 = 3 := by have := k1.1; rw [hins] at this; exact this
                          rw [hins, hln] at k2
                          rw [q1] at h1
                          have hmet := bz_met (ad := ad) ih hD c1 h1 hI.wf hswa (by rw [c2]; exact hcat.2)
                          rw [hmap] at hmet
                          rw [hstk]
                          have hl9 : 8 + (nL' + 11) + 40 * (d' + 2) ≤ R.locals := by omega
                          have hf9 : d' + 2 + 1 ≤ R.frames := by omega
                          have hd9 : ∀ sig, parseMethodDescriptor y'.desc = some sig → e0.2.2.1.getD 2 0 = sig.parameters.length := by
                            intro sig h9
                            rw [h9] at c3
                            exact (Option.some.inj c3).symm
                          rcases c6 with c6 | ⟨hh, c6⟩
                          · refine after pc (by rw [hln]) _ _ hswt rfl (va_runI (Ts := Ts) (n := e0.2.2.1.getD 2 0) (index := x) ⟨hx, hb, hml, hown, hts⟩ hmet ⟨⟨rfl, rfl, hf9, hl9, words hm0 c1, List.mem_cons_self, hts _ (q5 hm0), hts _ (q6 hm0), q7, hd9, hts _ c6⟩, c4, hts _ c5⟩ ⟨bz_Pre_blind hnwk, fun U hU hW => ⟨rfl, bz_preU hnwk hA hI.iP hK hI.iD hI.iS hI.St hnw hao hZ hU hW⟩⟩ rfl (by rw [List.length_map, List.length_reverse]; exact hb1) hsize rfl (lv_room (by rw [bz_catm]; exact hcat.1)) k2 ⟨by omega, by omega⟩)
                          · refine after pc (by rw [hln]) _ _ hswt rfl (va_runIN (Ts := Ts) (n := e0.2.2.1.getD 2 0) (index := x) (host := hh) ⟨hx, hb, hml, hown, hts⟩ hmet ⟨⟨⟨rfl, rfl, hf9, hl9, words hm0 c1, List.mem_cons_self⟩, hts _ (q5 hm0), hts _ (q6 hm0), q7, hd9, va_Nw.use rfl (hnw _ c6)⟩, c4, hts _ c5⟩ ⟨bz_Pre_blind hnwk, fun U hU hW => ⟨rfl, bz_preU hnwk hA hI.iP hK hI.iD hI.iS hI.St hnw hao hZ hU hW⟩⟩ rfl (by rw [List.length_map, List.length_reverse]; exact hb1) hsize rfl (lv_room (by rw [bz_catm]; exact hcat.1)) k2 ⟨by omega, by omega⟩)
                      · cases hinv
                    · cases hinv
                  · cases hinv
                · unfold bz_invS bz_call at hinv
                  split at hinv
                  · rename_i b st2 hargs
                    split at hinv
                    · rename_i hcat
                      cases hinv
                      obtain ⟨b0, hb1, hb2, hb3⟩ := bz_args_at _ _ _ _ _ hargs
                      rw [List.append_nil] at hb3
                      subst hb3
                      have hsw0 : bz_Sw (bz_Nn M) (b0 ++ st') := by rw [← hb2]; exact hI.Sw
                      have hswt : bz_Sw (bz_Nn M) st' := fun z hz => hsw0 z (List.mem_append_right _ hz)
                      have hswa : bz_Sw (bz_Nn M) b0.reverse := fun z hz => hsw0 z (List.mem_append_left _ (List.mem_reverse.mp hz))
                      have hstk : st.map (bz_mv ad) = ((b0.reverse.map (bz_mv ad)).reverse ++ st'.map (bz_mv ad)) := by
                        rw [hb2, List.map_append, List.map_reverse, List.reverse_reverse]
                      obtain ⟨hm0, hok⟩ := k4 (Or.inr (Or.inl hkind))
                      have hsize : ls.size = nL := hI.lr.1
                      rcases hok with ⟨x, hins, -⟩ | ⟨x, hins, y', cc', nL', ret', c1, c2, c3, c4, c5⟩ | ⟨x, hins, -⟩
                      · exfalso
                        obtain ⟨z, h, -⟩ := hkind
                        rw [h] at hins; cases hins
                      · obtain ⟨q1, q2, q3, q4, q5, q6, q7, -⟩ := hMt _ y' cc' nL' ret' c1
                        have hln : e0.2.1 = 3 := by have := k1.1; rw [hins] at this; exact this
                        rw [hins, hln] at k2
                        rw [q1] at h1
                        have hmet := bz_met (ad := ad) ih hD c1 h1 hI.wf hswa (by rw [c2]; exact hcat.2)
                        rw [hstk]
                        have hd9 : ∀ sig, parseMethodDescriptor y'.desc = some sig → e0.2.2.1.getD 2 0 = sig.parameters.length := by
                          intro sig h9
                          rw [h9] at c3
                          exact (Option.some.inj c3).symm
                        have hl9 : 8 + (nL' + 11) + 40 * (d' + 2) ≤ R.locals := by omega
                        have hf9 : d' + 2 + 1 ≤ R.frames := by omega
                        refine after pc (by rw [hln]) _ _ hswt rfl (va_runS (Ts := Ts) (n := e0.2.2.1.getD 2 0) (index := x) ⟨hx, hb, hml, hown, hts⟩ hmet ⟨⟨rfl, rfl, hf9, hl9, words hm0 c1, List.mem_cons_self, hts _ (q5 hm0), hts _ (q6 hm0), q7, hd9, hts _ c4⟩, hts _ c5⟩ ⟨bz_Pre_blind hnwk, fun U hU hW => ⟨rfl, bz_preU hnwk hA hI.iP hK hI.iD hI.iS hI.St hnw hao hZ hU hW⟩⟩ rfl (by rw [List.length_map, List.length_reverse]; exact hb1) hsize rfl (lv_room (by rw [bz_catm]; exact hcat.1)) k2 ⟨by omega, by omega⟩)
                      · exfalso
                        obtain ⟨z, h, -⟩ := hkind
                        rw [h] at hins; cases hins
                    · cases hinv
                  · cases hinv
end SU

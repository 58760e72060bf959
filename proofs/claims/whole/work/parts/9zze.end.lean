/-! THE CLAIM -/
/-! THE CLAIM OUT OF ONE WALK OF THE LAW'S BODY. Your part is whole_start (and what it stands on); all else here is the same for every law, but numbers. -/
def R_law : String := "BentRiverLaw"
def lw_P (b : Addr) (xs : List Int32) (args : Array Value) (s : State) : Prop := args = #[.ref b] ∧ s.IntsAt b xs ∧ xs.length ≤ 3072 ∧ (Jvm.Cond.and given_1 narrow_1).before args s = true
def lw_Q (_ : Array Value) (s : State) (o : Outcome) (t : State) : Prop := o = .returned (some (.int 1)) ∧ Framed s o t [] 600000 7302250
def lw_Z (below : List Frame) (a : Array Value) (s : State) : State → Prop := fun t => ∃ o, t.status = .running ∧ Ended t below o ∧ lw_Q a s o t
/-- the law's own end, with 1 on the stack, nothing written that was there before, its room as the claim has it -/
theorem lw_ret {p : Program} {l : Launch} {e : Env} {s : State} {m : MethodId} {below : List Frame} {meth : Method} {c : Code} {b : Nat} (hx : p.tables.exec = Jvm.exec) (hb : c.code = code) (hr : meth.sig.returnType = ret) (hlocks : meth.locks = false) {pc : Nat} {H : Heap} {ls : Array Slot} (hdg : decode code pc = .ok (.ireturn, 1)) : W p l e room_1 s m #[Value.ref b] below meth c H [] 600000 7302250 (lw_Z below #[Value.ref b] s) (F0 m pc ls [.int 1]) := by
  intro T hT X
  obtain ⟨fs, hret, hrun, hended, hW, hframe⟩ := X.leave (v := some (.int 1)) (hlocks := hlocks) (fun h => by rw [hr] at h; cases h)
  have hmeth' : T.vm.method? m = some meth := X.method'
  refine ⟨T.setFrames fs, ?_, .returned (some (.int 1)), hrun, hended, rfl, ⟨_, rfl⟩, hW, hframe⟩
  jvm_step X.here [X.here.top, hx, hb, hdg, hmeth', hr, ret, narrow_b1]
  (try refine ⟨rfl, ?_⟩); (try refine ⟨rfl, ?_⟩)
  first | (intro acts; rw [hret _ acts rfl rfl rfl]) | rw [hret _ _ rfl rfl rfl]
  exact Steps.refl _
/-- what holds at the law's entry: the machine, the code, the tables' words (any of lw_tbl by 'hts w (by decide +kernel)'), the script of L ints xs at the cell b, what the Statement gives of the start (any of its parts by flat_of_before) -/
def lw_At (p : Program) (s : State) (m : MethodId) (meth : Method) (c : Code) (b L : Nat) (xs : Nat → Int32) : Prop :=
  p.tables.exec = Jvm.exec ∧ c.code = code ∧ meth.sig.returnType = ret ∧ c.maxLocals = 4 ∧ s.vm.findClass R_law = some m.cls ∧ (∀ w ∈ lw_tbl, w.before #[Value.ref b] s = true) ∧ va_X b L xs s s.heap ∧ b < s.heap.size ∧ meth.locks = false ∧ (Jvm.Cond.and given_1 narrow_1).before #[Value.ref b] s = true
set_option maxRecDepth 100000 in
theorem st_rg : (List.range 122).all (fun r => (List.range (bz_sml.getD r []).length).all (fun k => decide (-2147483648 ≤ st_i r k ∧ st_i r k < 2147483648 ∧ (bz_tr (bz_kd 0) bz_tc r k = 2 → 0 ≤ st_i r k ∧ (st_i r k).toNat ≤ 121)))) = true := by decide +kernel
theorem rg_of {t N : Nat} {x : Int} (h : -2147483648 ≤ x ∧ x < 2147483648) (h2 : t = 2 → 0 ≤ x ∧ x.toNat ≤ N) : bz_rg t N x := by
  unfold bz_rg
  split
  · unfold bz_in64; omega
  · exact h2 rfl
  · unfold bz_in32; omega
set_option maxRecDepth 100000 in
theorem st_nw : bz_nw.all (fun w => w.onTables && decide (w ∈ tables_1)) = true := by decide +kernel
set_option maxRecDepth 100000 in
theorem st_cl : bz_cl.all (fun q => decide (Cond.instantiable q.1 q.2.2 ∈ tables_1)) = true := by decide +kernel
section ZO
variable {s : State} {args : Array Value}
theorem st_ac {ty : FieldType} (h : (Cond.arrayClass ty).before args s = true) : ∃ cA : ClassId, ArrOfT s cA ty ∧ s.vm.findClass ("[" ++ ty.toString) = some cA := by
  obtain ⟨cA, kA, comp, h1, h2, h3⟩ := Cond.arrayClass_spec h
  exact ⟨cA, fun n z => ⟨fun k h => (by cases h), kA, h2, comp, h3⟩, h1⟩
theorem st_ao {C : String} (h : (Cond.arrayOver (.object C)).before args s = true) : ∃ cA : ClassId, ArrOfT s cA (.object C) ∧ va_RA s cA (.object C) := by
  obtain ⟨comp, c, k, h1, h2, h3, h4, h5⟩ := Cond.arrayOver_spec h
  exact ⟨c, fun n z => ⟨fun k h => (by cases h), k, h3, comp, h4⟩, k, comp, h3, h4, h1, h5⟩
end ZO
theorem st_wf {L : Nat} {xs : Nat → Int32} : bz_wfM (bz_kd L) bz_tc (bz_sM xs) bz_wl false (mm (bz_sM xs) 121 []) := by
  have hm : ∀ r k, r ≠ 0 → mm (bz_sM xs) 121 [] r k = bz_sM xs r k := fun r k h => by rw [mm_r h]; rfl
  refine ⟨by rw [mm_Nn]; decide, fun r k h0 h1 => ?_, fun r h0 h1 => funext fun k => hm r k h0, fun h => by cases h⟩
  rw [mm_Nn] at h1 ⊢
  rw [hm r k h0]
  by_cases e : r = 1
  · subst e
    refine rg_of ?_ ?_
    · show -2147483648 ≤ (xs k).toInt ∧ (xs k).toInt < 2147483648
      have := (xs k).toInt_lt
      have := (xs k).le_toInt
      omega
    · intro h; cases h
  · rw [st_sM e]
    have et : bz_tr (bz_kd L) bz_tc r k = bz_tr (bz_kd 0) bz_tc r k := by
      unfold bz_tr
      rw [kd_0 e]
    rw [et]
    by_cases hk : k < (bz_sml.getD r []).length
    · have g := of_decide_eq_true (List.all_eq_true.mp (List.all_eq_true.mp st_rg r (List.mem_range.mpr (by omega))) k (List.mem_range.mpr hk))
      exact rg_of ⟨g.1, g.2.1⟩ g.2.2
    · have e0 : st_i r k = 0 := by
        unfold st_i
        rw [List.getD_eq_getElem?_getD, List.getElem?_eq_none (by omega)]
        rfl
      rw [e0]
      exact rg_of (by omega) (fun _ => by decide)
set_option maxHeartbeats 4000000 in
set_option maxRecDepth 100000 in
/-- from the entry, for every script of at most 3072 ints, the law comes to its end with true -/
theorem whole_start {p : Program} {e : Env} {s : State} {m : MethodId} {below : List Frame} {meth : Method} {c : Code} (l : Launch) {b L : Nat} {xs : Nat → Int32} (hL : L ≤ 3072) (C0 : lw_At p s m meth c b L xs) : W p l e room_1 s m #[Value.ref b] below meth c s.heap [] 0 0 (lw_Z below #[Value.ref b] s) (entryFrame m ([Value.ref b] : List Value).toArray 4) := by
  obtain ⟨hx, hb, hr, hml, hown, hts, hX, hbl, hlocks, hgv⟩ := id C0
  have hA : ∀ q : Nat, s.heap.size ≤ q → (fun q : Nat => s.heap.size ≤ q) q := fun _ h => h
  have hA' : ∀ a : Nat, a < s.heap.size → ¬ (fun q : Nat => s.heap.size ≤ q) a := fun a h => Nat.not_le.mpr h
  have hw := st_get hgv
  obtain ⟨ad, ha1, hSt⟩ := st_at hX hbl (by omega) hw hts
  have hTs : ∀ w ∈ bz_Ts, w.before #[Value.ref b] s = true := fun w h => hts w (List.mem_filter.mp h).1
  have hD := bz_Pok L false (by omega)
  have hC := hD.1.2.2.2.1
  have h0 : ∀ k : Nat, ∃ d : ClassId × (Nat → Nat), ∀ q : vw_C, bz_cl[k]? = some q → u_Kn s q.1 q.2.1 q.2.2 d.1 d.2 := by
    intro k
    cases hk : bz_cl[k]? with
    | none => exact ⟨(0, fun _ => 0), fun q h => by cases h⟩
    | some q =>
      obtain ⟨C, T, n⟩ := q
      have hin := (hC k C T n hk).2.1
      have hi := of_decide_eq_true (List.all_eq_true.mp st_cl _ (List.mem_of_getElem? hk))
      obtain ⟨cC, iS, h⟩ := u_known (C := C) (T := T) (N := n) (n := n) hTs hin (hts _ (bz_tbl_in hi))
      exact ⟨(cC, iS), fun q h' => by cases h'; exact h⟩
  obtain ⟨dd, hdd⟩ := Classical.axiomOfChoice h0
  obtain ⟨cI, kI, nI⟩ := st_ac (hts (.arrayClass .int) (bz_tbl_in (by decide +kernel)))
  obtain ⟨cJ, kJ, nJ⟩ := st_ac (hts (.arrayClass .long) (bz_tbl_in (by decide +kernel)))
  obtain ⟨cB, kB, nB⟩ := st_ac (hts (.arrayClass .byte) (bz_tbl_in (by decide +kernel)))
  obtain ⟨cZ, kZ, nZ⟩ := st_ac (hts (.arrayClass .boolean) (bz_tbl_in (by decide +kernel)))
  obtain ⟨cC, kC, nC⟩ := st_ac (hts (.arrayClass .char) (bz_tbl_in (by decide +kernel)))
  have hao := hts (.arrayOver (.object "BentRiver$State")) (bz_tbl_in (by decide +kernel))
  obtain ⟨cS, kS, nS⟩ := st_ao hao
  let cA : Nat → ClassId := fun t => if t = 0 then cI else if t = 1 then cJ else if t = 2 then cB else if t = 3 then cZ else if t = 4 then cC else cS
  have hK : va_K ((fun k => (dd k).1), (fun k => (dd k).2)) bz_cl (bz_tys cA) s := by
    refine ⟨fun k q hq => hdd k q hq, fun k q hq => ?_⟩
    match k, hq with
    | 0, hq => cases hq; exact ⟨kI, nI⟩
    | 1, hq => cases hq; exact ⟨kJ, nJ⟩
    | 2, hq => cases hq; exact ⟨kB, nB⟩
    | 3, hq => cases hq; exact ⟨kZ, nZ⟩
    | 4, hq => cases hq; exact ⟨kC, nC⟩
    | 5, hq => cases hq; exact ⟨kS, nS⟩
    | k + 6, hq => cases hq
  have hnw : ∀ w ∈ bz_nw, va_Nw w s := fun w h => by
    have g := List.all_eq_true.mp st_nw w h
    rw [Bool.and_eq_true] at g
    exact va_Nw.of g.1 (hts w (bz_tbl_in (of_decide_eq_true g.2)))
  have hF : bz_Fx bz_Ts bz_nw x code 4 (some .boolean) ((fun k => (dd k).1), (fun k => (dd k).2)) bz_cl cA p m c s #[Value.ref b] meth := ⟨hx, hb, hml, hown, hTs, hr, hlocks, fun h => absurd h (by decide), hK, hnw, hao⟩
  have hZ : bz_Zk (fun q : Nat => s.heap.size ≤ q) s s.heap := va_Zqof (hts _ (bz_tbl_in (by decide +kernel))) (hts _ (bz_tbl_in (by decide +kernel))) (hw _ (st_ij (List.mem_cons_of_mem _ List.mem_cons_self))) hA'
  have hl := lv_entry ([.ref b]) (n := 4) (Nat.le_of_ble_eq_true rfl)
  rw [lg_entry_eq]
  generalize (lg_sl ([.ref b]) ++ List.replicate (4 - (lg_sl ([.ref b])).length) Slot.unset).toArray = ls at hl ⊢
  have hl : lv_has ls 4 [(0, .ref b)] := hl
  have hws : ∀ M : bz_M, bz_Nn M = 121 → bz_ws (bz_kd L) bz_tc bz_nf cA ad M = [] := fun M h => by
    unfold bz_ws
    rw [h]
    rfl
  have hI : bz_Inv (bz_kd L) bz_tc bz_nf cA bz_wl false (bz_sM xs) bz_sf bz_sc ((fun k => (dd k).1), (fun k => (dd k).2)) bz_cl (fun q : Nat => s.heap.size ≤ q) s 4 121 ad [some (.inr (.inr 1)), none, none, none] [] (mm (bz_sM xs) 121 []) ad s.heap [] ls := by
    refine ⟨?_, ?_, va_S.rf, st_wf, ⟨hl.1, hl.2.1, rfl, fun i v hv => ?_⟩, fun i v hv => ?_, fun v hv => absurd hv List.not_mem_nil, hSt, fun _ _ => rfl, by rw [mm_Nn]; decide⟩
    · rw [hws _ mm_Nn]; exact fun k q h => by simp at h
    · rw [hws _ mm_Nn]; exact ⟨fun i j p q h => by simp at h, fun k q h => by simp at h⟩
    · match i, hv with
      | 0, hv =>
        cases hv
        rw [hl.2.2 _ List.mem_cons_self]
        unfold bz_mv
        dsimp only
        rw [if_neg (by decide), ha1]
      | 1, hv => cases hv
      | 2, hv => cases hv
      | 3, hv => cases hv
      | i + 4, hv => cases hv
    · rw [mm_Nn]
      match i, hv with
      | 0, hv => cases hv; show (1 : Nat) ≤ 121; decide
      | 1, hv => cases hv
      | 2, hv => cases hv
      | 3, hv => cases hv
      | i + 4, hv => cases hv
  obtain ⟨M2, hN, hW⟩ := bz_law (l := l) (e := e) (R := room_1) (below := below) (by omega) (y := x) (cc := code) rfl hF hZ hA ⟨by decide, by decide, by decide, by decide⟩ hI
  intro T hT X
  obtain ⟨t, a1, o, b1, b2, b3, K, b4, b5⟩ := hW T hT X
  obtain ⟨⟨ad2, c1, -⟩, -⟩ := b3
  refine ⟨t, a1, o, b1, b2, c1, b4.1, b4.2.1, ?_⟩
  refine State.sameButNew.mono (State.sameButNew.drop_fresh (L := []) (J := K) b4.2.2 b5) (by decide) (Nat.le_trans (sl_411 L (Nat.le_refl _)) (by decide))
set_option maxHeartbeats 4000000 in
theorem lw_walk (l : Launch) (b : Addr) (xs : List Int32) : MetFree l x (headSpec (Jvm.Cond.code x code maxLocals ret :: tables_1) room_1) (lw_P b xs) (fun _ _ _ _ _ => True) lw_Q := by
  refine MetFree.of_bodyS (code := code) (maxLocals := maxLocals) (ret := ret) (by decide) ?_ ?_
  · intro args s m h hn
    obtain ⟨meth, c, h1, h2, h3, h4, h5, h6, -, -⟩ := Cond.code_spec hn (atoms_spec (ws := Jvm.Cond.code x code maxLocals ret :: tables_1) h _ List.mem_cons_self)
    exact ⟨meth, c, h1, h2, h3, h4, h5, h6⟩
  · intro p e s m args below meth c s₁ B hml0 hP _
    obtain ⟨rfl, hx, hbd, hgv⟩ := hP
    obtain ⟨scr, harrAt, hlist, hof, hsmall⟩ := hx
    obtain ⟨hcb, hkn, -, -⟩ := State.arrayAt?_spec harrAt
    have hown : s.vm.findClass R_law = some m.cls := findClass_of_methodNamed B.named
    have hts0 : ∀ c ∈ (Jvm.Cond.code x code maxLocals ret :: tables_1), c.before #[Value.ref b] s = true := atoms_spec (ws := Jvm.Cond.code x code maxLocals ret :: tables_1) B.pre
    have hts : ∀ w ∈ lw_tbl, w.before #[Value.ref b] s = true := k2_hts_sels lw_privs (fun w hw => hts0 w (List.mem_cons_of_mem _ hw)) lw_privs_ok
    have hml : c.maxLocals = 4 := B.maxLocals_eq (hts0 _ List.mem_cons_self)
    have X₀ : Stand p l e room_1 s m #[Value.ref b] below meth c s₁ [] 0 0 := Stand.of_body B
    have hh0 : s₁.heap = s.heap := by rw [B.state]; rfl
    have hsz : scr.slots.size = xs.length := by rw [← Array.length_toList, hlist, List.length_map]
    have hval : ∀ j : Nat, j < xs.length → scr.slots[j]? = some (.int (xs.getD j 0)) := fun j hj => by
      rw [← Array.getElem?_toList, hlist]
      simp [hj]
    have hbl : b < s.heap.size := (Array.getElem?_eq_some_iff.mp hcb).1
    have hX : va_X b xs.length (fun j => xs.getD j 0) s s.heap := ⟨scr, hcb, hof, hkn, hsz, hval⟩
    have K : W p l e room_1 s m #[Value.ref b] below meth c s₁.heap [] 0 0 (lw_Z below #[Value.ref b] s) (entryFrame m ([Value.ref b] : List Value).toArray 4) := by
      rw [hh0]
      exact whole_start l hbd ⟨B.exec, B.bytes, B.returns, hml, hown, hts, hX, hbl, B.notSynchronized, hgv⟩
    obtain ⟨t, a1, o, b1, b2, b3⟩ := K s₁ rfl X₀
    exact ⟨t, o, a1, b1, b2, b3⟩
theorem lw_pre_spec {args : Array Value} {s : State} (h : (Jvm.Cond.and given_1 narrow_1).before args s = true) (hr : rest_1_c.before args s = true) : ∃ (b : Addr) (xs : List Int32), lw_P b xs args s := by
  have hs := flat_of_before _ h
  have hq := flat_of_before _ hr
  have hc : (Cond.count 1).before args s = true := hs _ (by decide +kernel)
  have harr : (Cond.arrayOf (.arg 0) .int).before args s = true := hs _ (by decide +kernel)
  have hle : (Cond.le (.length (.arg 0)) (.int 3072)).before args s = true := hs _ (by decide +kernel)
  have hlen : (Cond.isInt (.length (.arg 0))).before args s = true := hq _ (by decide +kernel)
  have hall : (Cond.all (.arg 0) (.isInt (.elem (.arg 0) (.index 0)))).before args s = true := hq _ (by decide +kernel)
  obtain ⟨b, xs, hb, hx⟩ := State.ints_of_pre rfl harr hlen hall
  have hsm : xs.length < 2 ^ 31 := hx.choose_spec.2.2.2
  have hev : (Term.length (.arg 0)).eval args s none [] s = some (.int xs.length.toInt32) := hx.length_eval hb
  have hv := Cond.le_ints hev (show (Term.int 3072).eval args s none [] s = some (.int 3072) from rfl)
  have hd : xs.length.toInt32 ≤ 3072 := by
    simpa [Cond.before, Cond.holds, hv] using hle
  have hN : xs.length ≤ 3072 := (Int32.ofNat_le_ofNat hsm (by decide)).mp (show Int32.ofNat xs.length ≤ Int32.ofNat 3072 from hd)
  exact ⟨b, xs, Cond.one_arg hc (show args[0]? = some (.ref b) from hb), hx, hN, h⟩
theorem lw_comes (l : Launch) : Comes l x (Jvm.Cond.code x code maxLocals ret :: tables_1) room_1 (fun tb e args s => Calls_1 tb e args s ∧ rest_1 tb e args s ∧ Pre_1 tb e args s)
    (fun _ _ args s o t => lw_Q args s o t) := by
  intro p e ha hc hk s m args below hf hfit hheap happ hpre
  obtain ⟨b, xs, hP⟩ := lw_pre_spec hpre.2.2 hpre.2.1
  obtain ⟨k, o, h1, h2, h3, hQ⟩ := lw_walk l b xs p e ha hc hk s m args below hf ((Spec.applies_iff_loose hf).mp happ).1 hP trivial
  exact ⟨k, o, h1, h2, h3, hQ⟩
theorem lw_frame {s t : State} {o : Outcome} {args : Array Value} (h : Framed s o t [] 600000 7302250) :
    Framed s o t (fieldLocs frame_1_writes args s ++ arrayLocs frame_1_arrays args s ++ staticLocs frame_1_statics s) 600000 7302250 := h
theorem lw_limb (L : Cond) (hL : ∀ (args : Array Value) (s t : State), L.after args s (.returned (some (.int 1))) t = true) :
    ArmFor flags0 classFile x code maxLocals ret World_1 tables_1 room_1 Calls_1 rest_1 Pre_1
      (fun tb e a s o t => postC L tb e a s o t ∧ Framed s o t (fieldLocs frame_1_writes a s ++ arrayLocs frame_1_arrays a s ++ staticLocs frame_1_statics s) 600000 7302250) := by
  intro l _ _ _ p e ha hc hk s m args below hf hfit hheap happ hpre
  obtain ⟨k, o, h1, h2, h3, rfl, hF⟩ := lw_comes l p e ha hc hk s m args below hf hfit hheap happ hpre
  exact ⟨k, _, h1, h2, h3, hL args s _, lw_frame hF⟩
theorem i_vc : Claimed_1_1 ∧ Claimed_1_2 := ⟨lw_limb limb_1_1 (fun args s t => by simp [limb_1_1, Cond.after, Cond.holds, Cond.value]), lw_limb limb_1_2 (fun args s t => Cond.after_iff.mpr (by
  first | (rw [show limb_1_2 = Cond.eq .result (.int 1) from rfl, Cond.eq_ints (x := 1) (y := 1) rfl rfl]; simp; done) | (simp [limb_1_2, Cond.value, Term.eval]; done)))⟩

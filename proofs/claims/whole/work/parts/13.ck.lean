/-! String.checkIndex, the one method of the JDK that is walked by hand: an index in range is nothing -/
def bz_pcN : MethodName := ⟨"jdk/internal/util/Preconditions", "checkIndex", "(IILjava/util/function/BiFunction;)I"⟩
def bz_Zk (A : Nat → Prop) (U : State) (H : Heap) : Prop := va_Zq "jdk/internal/util/Preconditions" "SIOOBE_FORMATTER" "Ljava/util/function/BiFunction;" A U H
def bz_gd (Ts : List Cond) : Prop := ∀ w ∈ Ts, (w.onTables && w.keeps) = true ∨ ∃ ty, w = .arrayClass ty
def bz_ckW (Ts : List Cond) : Prop := Cond.code bz_ckN prog_18_method_155_code 2 none ∈ Ts ∧ Cond.static bz_ckN ∈ Ts ∧ Cond.initialized "java/lang/String" ∈ Ts ∧ Cond.fieldLink "java/lang/String" 1053 "jdk/internal/util/Preconditions" "SIOOBE_FORMATTER" "Ljava/util/function/BiFunction;" ∈ Ts ∧ Cond.methodLink "java/lang/String" 1059 bz_pcN ∈ Ts ∧ Cond.static bz_pcN ∈ Ts ∧ Cond.initialized "jdk/internal/util/Preconditions" ∈ Ts ∧ Cond.code bz_pcN prog_22_method_11_code 3 (some .int) ∈ Ts
theorem bz_pc0 : decode prog_22_method_11_code 0 = .ok (.iload_n 0, 1) := by decide +kernel
theorem bz_pc1 : decode prog_22_method_11_code 1 = .ok (.ifCond .lt 8, 3) := by decide +kernel
theorem bz_pc4 : decode prog_22_method_11_code 4 = .ok (.iload_n 0, 1) := by decide +kernel
theorem bz_pc5 : decode prog_22_method_11_code 5 = .ok (.iload_n 1, 1) := by decide +kernel
theorem bz_pc6 : decode prog_22_method_11_code 6 = .ok (.if_icmp .lt 10, 3) := by decide +kernel
theorem bz_pc16 : decode prog_22_method_11_code 16 = .ok (.iload_n 0, 1) := by decide +kernel
theorem bz_pc17 : decode prog_22_method_11_code 17 = .ok (.ireturn, 1) := by decide +kernel
theorem bz_ck0 : decode prog_18_method_155_code 0 = .ok (.iload_n 0, 1) := by decide +kernel
theorem bz_ck1 : decode prog_18_method_155_code 1 = .ok (.iload_n 1, 1) := by decide +kernel
theorem bz_ck2 : decode prog_18_method_155_code 2 = .ok (.getstatic 1053, 3) := by decide +kernel
theorem bz_ck5 : decode prog_18_method_155_code 5 = .ok (.invokestatic 1059, 3) := by decide +kernel
theorem bz_ck8 : decode prog_18_method_155_code 8 = .ok (.pop, 1) := by decide +kernel
theorem bz_ck9 : decode prog_18_method_155_code 9 = .ok (.return_, 1) := by decide +kernel
set_option maxHeartbeats 4000000 in
set_option maxRecDepth 100000 in
theorem bz_pck (l : Launch) (Ts : List Cond) (H0 : Heap) {j n : Int} (hj : bz_in32 j) (hn : bz_in32 n) (h0 : 0 ≤ j) (h1 : j < n) (v : Value) (hv1 : v.category = 1) : Met l bz_pcN (Cond.code bz_pcN prog_22_method_11_code 3 (some .int) :: Ts) ({ frames := 0, cells := 0, slots := 0, locals := 0 }) (va_Pc [.int (Int32.ofInt j), .int (Int32.ofInt n), v] (fun U => U.heap = H0)) (va_Qi (S := Unit) (fun r _ => r = Int32.ofInt j) (fun _ t => t.heap = H0) (fun _ => False)) 0 0 (fun _ => False) := by
  refine Met.ofW (cc := prog_22_method_11_code) (maxL := 3) (ret := (some .int)) (by decide +kernel) rfl ?_
  intro p e s m args below meth c s₁ B hml hv
  obtain ⟨rfl, hH⟩ := hv
  have hx := B.exec
  have hb := B.bytes
  have hr := B.returns
  have hlocks := B.notSynchronized
  have hS : va_S (fun _ => False) s.heap s.heap [] := va_S.rf
  have hln : (lg_sl ([.int (Int32.ofInt j), .int (Int32.ofInt n), v])).length ≤ 3 := by
    have e1 : lg_sl ([.int (Int32.ofInt j), .int (Int32.ofInt n), v]) = [.val (.int (Int32.ofInt j)), .val (.int (Int32.ofInt n)), .val v] := by
      unfold lg_sl
      simp only [List.flatMap_cons, List.flatMap_nil, hv1]
      rfl
    rw [e1]
    exact Nat.le_refl 3
  have hl := lv_entry ([.int (Int32.ofInt j), .int (Int32.ofInt n), v]) (n := 3) hln
  rw [lg_entry_eq]
  generalize (lg_sl ([.int (Int32.ofInt j), .int (Int32.ofInt n), v]) ++ List.replicate (3 - (lg_sl ([.int (Int32.ofInt j), .int (Int32.ofInt n), v])).length) Slot.unset).toArray = ls at hl ⊢
  have hl : lv_has ls 3 [(0, .int (Int32.ofInt j)), (1, .int (Int32.ofInt n)), (2, v)] := hl
  refine lv_iload_n hx hb bz_pc0 rfl (lv_at hl 0 rfl) ?_
  refine lv_if_lt hx hb bz_pc1 (tgt := 9) (by decide) (fun h => ?_) (fun _ => ?_)
  · have := (bz_olt hj bz_i0).mp h
    omega
  refine lv_iload_n hx hb bz_pc4 rfl (lv_at hl 0 rfl) ?_
  refine lv_iload_n hx hb bz_pc5 rfl (lv_at hl 1 rfl) ?_
  refine lv_icmp_lt hx hb bz_pc6 (tgt := 16) (by decide) (fun _ => ?_) (fun h => ?_)
  · refine lv_iload_n hx hb bz_pc16 rfl (lv_at hl 0 rfl) ?_
    exact W.iret (v := Int32.ofInt j) hx hb hr (fun t ht hW => ⟨⟨_, (), rfl, rfl, ht.trans hH⟩, hS.F ht⟩) hS.2.2 bz_pc17
  · exact absurd ((bz_olt hj hn).mpr h1) h
set_option maxHeartbeats 4000000 in
set_option maxRecDepth 100000 in
theorem bz_ckM (l : Launch) (Ts : List Cond) (hg : bz_gd Ts) (hW : bz_ckW Ts) (A : Nat → Prop) (H0 : Heap) {j n : Int} (hj : bz_in32 j) (hn : bz_in32 n) (h0 : 0 ≤ j) (h1 : j < n) : Met l bz_ckN (Cond.code bz_ckN prog_18_method_155_code 2 none :: Ts) ({ frames := 1, cells := 0, slots := 0, locals := 40 }) (va_Pc [.int (Int32.ofInt j), .int (Int32.ofInt n)] (fun U => U.heap = H0 ∧ bz_Zk A U U.heap)) (va_Qv (S := Unit) (fun _ => True) (fun _ t => t.heap = H0) (fun _ => False)) 0 0 (fun _ => False) := by
  refine Met.ofW (cc := prog_18_method_155_code) (maxL := 2) (ret := none) (by decide +kernel) rfl ?_
  intro p e s m args below meth c s₁ B hml hv
  obtain ⟨rfl, hH, hZ⟩ := hv
  have hx := B.exec
  have hb := B.bytes
  have hr := B.returns
  have hts0 := atoms_spec (ws := Cond.code bz_ckN prog_18_method_155_code 2 none :: Ts) B.pre
  have hts : ∀ w ∈ Ts, w.before _ s = true := fun w hw => hts0 w (List.mem_cons_of_mem _ hw)
  have hown : s.vm.findClass "java/lang/String" = some m.cls := findClass_of_methodNamed B.named
  have hlocks := B.notSynchronized
  have hS : va_S (fun _ => False) s.heap s.heap [] := va_S.rf
  have hSA : va_S A s.heap s.heap [] := va_S.rf
  have hl := lv_entry ([.int (Int32.ofInt j), .int (Int32.ofInt n)]) (n := 2) (Nat.le_of_ble_eq_true rfl)
  rw [lg_entry_eq]
  generalize (lg_sl ([.int (Int32.ofInt j), .int (Int32.ofInt n)]) ++ List.replicate (2 - (lg_sl ([.int (Int32.ofInt j), .int (Int32.ofInt n)])).length) Slot.unset).toArray = ls at hl ⊢
  have hl : lv_has ls 2 [(0, .int (Int32.ofInt j)), (1, .int (Int32.ofInt n))] := hl
  obtain ⟨w1, w2, w3, w4, w5, w6, w7, w8⟩ := hW
  refine lv_iload_n hx hb bz_ck0 rfl (lv_at hl 0 rfl) ?_
  refine lv_iload_n hx hb bz_ck1 rfl (lv_at hl 1 rfl) ?_
  have go : ∀ v : Value, v.category = 1 → W p l e ({ frames := 1, cells := 0, slots := 0, locals := 40 } : Room) s m ([.int (Int32.ofInt j), .int (Int32.ofInt n)] : List Value).toArray below meth c s.heap [] 0 0 (MQ below (va_Qv (S := Unit) (fun _ => True) (fun _ t => t.heap = H0) (fun _ => False)) ([.int (Int32.ofInt j), .int (Int32.ofInt n)] : List Value).toArray s 0 0 (fun _ => False)) (F0 m (1 + 1 + 3) ls [v, .int (Int32.ofInt n), .int (Int32.ofInt j)]) := by
    intro v hv1
    refine va_calli (va_runS (Ts := Ts) (cc := prog_18_method_155_code) (own := "java/lang/String") (index := 1059) (nL := 2) (bytes := prog_22_method_11_code) (maxL := 3) (ret := some .int) (n := 3) (As := [.int (Int32.ofInt j), .int (Int32.ofInt n), v]) (rest := []) ⟨hx, hb, hml, hown, hts⟩ (bz_pck l Ts s.heap hj hn h0 h1 v hv1) ⟨⟨rfl, rfl, by decide, by decide, fun w hw a' U hU => ?_, List.mem_cons_self, hts _ w8, hts _ w7, ⟨by decide, by decide⟩, fun sig h => ?_, hts _ w5⟩, hts _ w6⟩ ⟨fun a U g mk q => q, fun U h1 h2 => ⟨rfl, h1⟩⟩ rfl rfl hl.1 rfl (Nat.le_of_ble_eq_true rfl) bz_ck5 ⟨by decide, by decide⟩) hS (fun q h1 h2 => h2) (fun q h => h) (fun r u t H1 locs1 ht hvm hp hB hz hk hS1 => ?_)
    · rcases List.mem_cons.mp hw with rfl | hw
      · exact word_at hU (hg _ w8) (hts _ w8)
      · exact word_at hU (hg _ hw) (hts _ hw)
    · have h2 : (parseMethodDescriptor bz_pcN.desc).map (fun d => d.parameters.length) = some 3 := by decide +kernel
      rw [h] at h2
      exact (Option.some.inj h2).symm
    · refine lv_pop hx hb bz_ck8 rfl ?_
      exact W.vret hx hb hr (fun t2 ht2 hW => ⟨⟨(), rfl, trivial, ht2.trans (ht.symm.trans (hB.trans hH))⟩, hS1.F ht2⟩) hS1.2.2 bz_ck9
  rcases hZ with hZ | ⟨t, hZ⟩
  · exact va_gets hx hb hZ hSA hown (hts _ w4) (fun _ h => h) bz_ck2 (go .null rfl)
  · exact va_gets hx hb hZ hSA hown (hts _ w4) (fun _ h => h) bz_ck2 (go (.ref t) rfl)
set_option maxHeartbeats 4000000 in
/-- in any method, as bz_stepN wants it -/
theorem bz_ckR {p : Program} {l : Launch} {e : Env} {R : Room} {s : State} {m : MethodId} {args : Array Value} {below : List Frame} {meth : Method} {c : Code} {Q : State → Prop} {cc : ByteArray} {nL : Nat} {A : Nat → Prop} {Ts : List Cond} {y : MethodName} (hg : bz_gd Ts) (hW : bz_ckW Ts) (hx : p.tables.exec = Jvm.exec) (hb : c.code = cc) (hml : c.maxLocals = nL) (hown : s.vm.findClass y.cls = some m.cls) (hts : ∀ w ∈ Ts, w.before args s = true) (hZ : bz_Zk A s s.heap) (hR : 2 ≤ R.frames ∧ 80 ≤ R.locals) :
    ∀ (x pc : Nat) (H : Heap) (locs : List Loc) (ce sl : Nat) (ls : Array Slot) (j n : Int) (rest : List Value), ce ≤ R.cells → sl ≤ R.slots → decode cc pc = .ok (.invokestatic x, 3) → Cond.methodLink y.cls x bz_ckN ∈ Ts → ls.size = nL → va_S A s.heap H locs → (rest.map fun v => v.category).sum ≤ 8 → bz_in32 j → bz_in32 n → 0 ≤ j → j < n → (∀ locs1 : List Loc, va_S A s.heap H locs1 → W p l e R s m args below meth c H locs1 ce sl Q (F0 m (pc + 3) ls rest)) → W p l e R s m args below meth c H locs ce sl Q (F0 m pc ls (.int (Int32.ofInt n) :: .int (Int32.ofInt j) :: rest)) := by
  intro x pc H locs ce sl ls j n rest hce hsl hdg hlk hls hS hcat hj hn h0 h1 kk
  have hW' := hW
  obtain ⟨w1, w2, w3, w4, w5, w6, w7, w8⟩ := hW'
  refine va_callv (va_runS (Ts := Ts) (cc := cc) (own := y.cls) (index := x) (nL := nL) (bytes := prog_18_method_155_code) (maxL := 2) (ret := none) (n := 2) (As := [.int (Int32.ofInt j), .int (Int32.ofInt n)]) (rest := rest) ⟨hx, hb, hml, hown, hts⟩ (bz_ckM l Ts hg hW A H hj hn h0 h1) ⟨⟨rfl, rfl, hR.1, ?_, fun w hw a' U hU => ?_, List.mem_cons_self, hts _ w1, hts _ w3, ⟨by decide, by decide⟩, fun sig h => ?_, hts _ hlk⟩, hts _ w2⟩ ⟨fun a U g mk q => ⟨q.1, q.2.1, q.2.2⟩, fun U g1 g2 => ⟨rfl, g1, ?_⟩⟩ rfl rfl hls rfl (lv_room hcat) hdg ⟨hce, hsl⟩) hS (fun q h1 h2 => h2.elim) (fun q h => h.elim) (fun u t H1 locs1 ht hvm hp hB hz hk hS1 => ?_)
  · show 8 + (2 + 11) + 40 ≤ R.locals
    omega
  · rcases List.mem_cons.mp hw with rfl | hw
    · exact word_at hU (hg _ w1) (hts _ w1)
    · exact word_at hU (hg _ hw) (hts _ hw)
  · have h2 : (parseMethodDescriptor bz_ckN.desc).map (fun d => d.parameters.length) = some 2 := by decide +kernel
    rw [h] at h2
    exact (Option.some.inj h2).symm
  · have hZ2 := (hZ.moved g2.alike).kept (H1 := U.heap) (fun a h3 h4 => by rw [g1]; exact hS.2.1 a h3 h4)
    exact hZ2
  · have e : H1 = H := ht.symm.trans hB
    subst e
    exact kk locs1 hS1

/-! ONE INSTRUCTION (5): all that go on in the same method -/
def bz_Fx (Ts nw : List Cond) (y : MethodName) (cc : ByteArray) (nL : Nat) (ret : Option FieldType) (D : va_G) (cl : List vw_C) (cA : Nat → ClassId) (p : Program) (m : MethodId) (c : Code) (s : State) (args : Array Value) (meth : Method) : Prop :=
  p.tables.exec = Jvm.exec ∧ c.code = cc ∧ c.maxLocals = nL ∧ s.vm.findClass y.cls = some m.cls ∧ (∀ w ∈ Ts, w.before args s = true) ∧ meth.sig.returnType = ret ∧ meth.locks = false ∧ (y.name = "<init>" → meth.name = "<init>") ∧ va_K D cl (bz_tys cA) s ∧ (∀ w ∈ nw, va_Nw w s) ∧ va_AO "BentRiver$State" s
def bz_ckN : MethodName := ⟨"java/lang/String", "checkIndex", "(II)V"⟩
def bz_ln (i : Instr) : Nat := match i with
  | .aaload => 1
  | .aastore => 1
  | .aconst_null => 1
  | .aload _ => 2
  | .aload_n _ => 1
  | .areturn => 1
  | .arraylength => 1
  | .astore _ => 2
  | .astore_n _ => 1
  | .baload => 1
  | .bastore => 1
  | .bipush _ => 2
  | .caload => 1
  | .castore => 1
  | .dup => 1
  | .dup2 => 1
  | .i2b => 1
  | .i2c => 1
  | .i2l => 1
  | .iadd => 1
  | .iaload => 1
  | .iand => 1
  | .iastore => 1
  | .iconst _ => 1
  | .idiv => 1
  | .iload _ => 2
  | .iload_n _ => 1
  | .imul => 1
  | .ineg => 1
  | .ior => 1
  | .irem => 1
  | .ireturn => 1
  | .ishl => 1
  | .ishr => 1
  | .istore _ => 2
  | .istore_n _ => 1
  | .isub => 1
  | .iushr => 1
  | .ixor => 1
  | .l2i => 1
  | .ladd => 1
  | .laload => 1
  | .land => 1
  | .lastore => 1
  | .lcmp => 1
  | .lconst _ => 1
  | .ldc _ => 2
  | .ldiv => 1
  | .lload _ => 2
  | .lload_n _ => 1
  | .lmul => 1
  | .lor => 1
  | .lrem => 1
  | .lreturn => 1
  | .lstore _ => 2
  | .lstore_n _ => 1
  | .lsub => 1
  | .newarray _ => 2
  | .pop => 1
  | .return_ => 1
  | _ => 3
def bz_lnok (i : Instr) (n : Nat) : Prop := match i with
  | .tableswitch _ _ _ _ => True
  | .lookupswitch _ _ => True
  | i => n = bz_ln i
def bz_okX (cl : List vw_C) (sc : bz_Sc) (tc : Nat → Nat → Nat) (Ts nw : List Cond) (sf : List (String × String × String × bz_V)) (y : MethodName) (pc : Nat) (ins : Instr) (i : List Nat) (vl : Int) : Prop := match ins with
  | .getfield x => bz_okG cl sc tc Ts y.cls x i
  | .putfield x => bz_okP cl tc Ts y x i
  | .getstatic x => ∃ C n d, (C, n, d, (if i.getD 1 0 = 1 then Sum.inl vl else Sum.inr (Sum.inr (i.getD 0 0)) : bz_V)) ∈ sf ∧ (Cond.fieldLink y.cls x C n d ∈ Ts ∨ ∃ h, Cond.fieldLinkNest y.cls x C n d h ∈ nw)
  | .ldc x => Cond.constant y.cls x (Int32.ofInt vl) ∈ Ts ∧ bz_in32 vl
  | .ldc_w x => Cond.constant y.cls x (Int32.ofInt vl) ∈ Ts ∧ bz_in32 vl
  | .ldc2_w x => Cond.constantLong y.cls x (Int64.ofInt vl) ∈ Ts ∧ bz_in64 vl
  | .iconst n => -128 ≤ n ∧ n < 128
  | .bipush n => -128 ≤ n ∧ n < 128
  | .sipush n => -32768 ≤ n ∧ n < 32768
  | .iinc _ n => -128 ≤ n ∧ n < 128
  | .new x => ∃ C T n, cl[i.getD 0 0]? = some (C, T, n) ∧ Cond.classLink y.cls x C ∈ Ts ∧ Cond.instantiable C n ∈ Ts ∧ Cond.initialized C ∈ Ts
  | .newarray a => i.getD 0 0 < 5 ∧ newarray.typeOf a = bz_sty (i.getD 0 0) ∧ Cond.arrayClass (bz_sty (i.getD 0 0)) ∈ Ts
  | .anewarray x => i.getD 0 0 = 5 ∧ Cond.classLink y.cls x "BentRiver$State" ∈ Ts
  | .ifCond _ o => 0 ≤ (pc : Int) + o
  | .if_icmp _ o => 0 ≤ (pc : Int) + o
  | .if_acmp _ o => 0 ≤ (pc : Int) + o
  | .ifnull o => 0 ≤ (pc : Int) + o
  | .goto o => 0 ≤ (pc : Int) + o
  | .tableswitch d lo hi os => 0 ≤ (pc : Int) + d ∧ (∀ o ∈ os.toList, 0 ≤ (pc : Int) + o) ∧ (os.size : Int) = hi - lo + 1
  | .lookupswitch d ps => 0 ≤ (pc : Int) + d ∧ (∀ o ∈ ps.toList, 0 ≤ (pc : Int) + o.2) ∧ (ps.toList.zip (ps.toList.drop 1)).all (fun (a, next) => a.1 < next.1) = true
  | .invokestatic x => (i.getD 0 0 = 2 → Cond.methodLink y.cls x arraycopyName ∈ Ts ∧ Cond.native arraycopyName ∈ Ts ∧ Cond.static arraycopyName ∈ Ts ∧ Cond.initialized "java/lang/System" ∈ Ts) ∧ (i.getD 0 0 = 5 → Cond.methodLink y.cls x bz_ckN ∈ Ts)
  | .invokespecial x => i.getD 0 0 = 1 → Cond.methodLink y.cls x objectInit ∈ Ts ∧ Cond.instanceMethod objectInit ∈ Ts ∧ Cond.code objectInit ⟨#[0xb1]⟩ 1 none ∈ Ts
  | _ => True
def bz_okE (cl : List vw_C) (sc : bz_Sc) (tc : Nat → Nat → Nat) (Ts nw : List Cond) (sf : List (String × String × String × bz_V)) (y : MethodName) (pc : Nat) (e : bz_E) : Prop := bz_lnok e.1 e.2.1 ∧ bz_okX cl sc tc Ts nw sf y pc e.1 e.2.2.1 e.2.2.2.1
theorem bz_o_bi {n : Int} (h : -128 ≤ n ∧ n < 128) : (Int8.ofInt n).toInt32 = Int32.ofInt n := by
  rw [← Int32.toInt_inj, Int8.toInt_toInt32, Int8.toInt_ofInt_of_le (by omega) (by omega), bz_oi (by unfold bz_in32; omega)]
theorem bz_o_si {n : Int} (h : -32768 ≤ n ∧ n < 32768) : (Int16.ofInt n).toInt32 = Int32.ofInt n := by
  rw [← Int32.toInt_inj, Int16.toInt_toInt32, Int16.toInt_ofInt_of_le (by omega) (by omega), bz_oi (by unfold bz_in32; omega)]
theorem bz_tgt {pc : Nat} {o : Int} (h : 0 ≤ (pc : Int) + o) : (pc : Int) + o = (bz_tg pc o : Int) := by unfold bz_tg; omega
theorem bz_narC {z : Int} (h1 : 0 ≤ z) (h2 : z < 65536) : vp_nar .char (Int32.ofInt z) = Int32.ofInt z := by
  obtain ⟨n, rfl⟩ := Int.eq_ofNat_of_zero_le h1
  have := pk_charN (q := n) (by omega)
  unfold vp_nar
  have e : Int32.ofInt (n : Int) = nI n := rfl
  rw [e, this.1]
theorem bz_lk_no {ps : List (Int × Int)} {d x : Int} (h : ∀ q ∈ ps, q.1 ≠ x) : Op.lookupswitch.offset ps d x = d := by
  induction ps with
  | nil => rfl
  | cons a ps ih =>
    obtain ⟨a, o⟩ := a
    rw [Op.lookupswitch.offset_cons, if_neg (h (a, o) List.mem_cons_self)]
    exact ih (fun q hq => h q (List.mem_cons_of_mem _ hq))
theorem bz_lk_at {ps : List (Int × Int)} {d x : Int} {z : Int × Int} (hz : z.1 = x) : ∀ {j : Nat}, ps[j]? = some z → (∀ k, k < j → ∀ q, ps[k]? = some q → q.1 ≠ x) → Op.lookupswitch.offset ps d x = z.2 := by
  induction ps with
  | nil => intro j hj; simp at hj
  | cons a ps ih =>
    intro j hj h
    obtain ⟨a, o⟩ := a
    cases j with
    | zero =>
      rw [List.getElem?_cons_zero] at hj
      cases hj
      rw [Op.lookupswitch.offset_cons, if_pos hz]
    | succ j =>
      rw [List.getElem?_cons_succ] at hj
      rw [Op.lookupswitch.offset_cons, if_neg (h 0 (by omega) (a, o) rfl)]
      exact ih hj (fun k hk q hq => h (k + 1) (by omega) q (by rw [List.getElem?_cons_succ]; exact hq))
theorem bz_sl_mono {kd : Nat → Option bz_Kd} {nf : Nat → Nat} {a b : Nat} (h : a ≤ b) : bz_sl kd nf a ≤ bz_sl kd nf b := by
  induction h with
  | refl => exact Nat.le_refl _
  | step _ ih => rw [bz_sl_succ]; omega
section SN
variable {p : Program} {l : Launch} {e : Env} {R : Room} {s : State} {m : MethodId} {args : Array Value} {below : List Frame} {meth : Method} {c : Code} {H : Heap} {locs : List Loc} {Q : State → Prop}
variable {cc : ByteArray} {pc : Nat} {ls : Array Slot} {D : va_G} {cl : List vw_C} {A : Nat → Prop}
variable {kd : Nat → Option bz_Kd} {tc : Nat → Nat → Nat} {nf : Nat → Nat} {cA : Nat → ClassId} {wl : List (Nat × Nat × Nat)} {w : Bool} {sM : bz_M} {sf : List (String × String × String × bz_V)} {sc : bz_Sc} {ad ad0 : Nat → Nat} {M : bz_M} {Ts : List Cond} {nL N0 : Nat} {L : bz_Ls} {st : bz_S}
theorem bz_h_popr {pc' q1 : Nat} {q2 : bz_Ls} {q3 : bz_S} {q4 : bz_M} (hI : bz_Inv kd tc nf cA wl w sM sf sc D cl A s nL N0 ad0 L st M ad H locs ls) (row : ∀ (r : Nat) rest, (rest.map fun v => v.category).sum ≤ 8 → W p l e R s m args below meth c H locs (bz_Nn M - N0) (bz_sl kd nf (bz_Nn M) - bz_sl kd nf N0) Q (F0 m (pc') ls rest) → W p l e R s m args below meth c H locs (bz_Nn M - N0) (bz_sl kd nf (bz_Nn M) - bz_sl kd nf N0) Q (F0 m pc ls (.ref r :: rest))) (ho : bz_popr pc' L st M = some (.inr (.inl (q1, q2, q3, q4)))) (kk : (∀ (ad' : Nat → Nat) (H' : Heap) (locs' : List Loc) (ls' : Array Slot), bz_Inv kd tc nf cA wl w sM sf sc D cl A s nL N0 ad0 q2 q3 q4 ad' H' locs' ls' → W p l e R s m args below meth c H' locs' (bz_Nn q4 - N0) (bz_sl kd nf (bz_Nn q4) - bz_sl kd nf N0) Q (F0 m q1 ls' (q3.map (bz_mv ad'))))) : W p l e R s m args below meth c H locs (bz_Nn M - N0) (bz_sl kd nf (bz_Nn M) - bz_sl kd nf N0) Q (F0 m pc ls (st.map (bz_mv ad))) := by
  unfold bz_popr at ho
  split at ho
  · split at ho
    · rename_i r st' h
      obtain ⟨rfl, rfl, rfl, rfl⟩ := bz_Nx ho
      rw [List.map_cons, bz_mvr h.1]
      exact row _ _ (by rw [bz_catm]; exact h.2) (kk ad H locs ls (hI.sw hI.Sw.tail))
    · cases ho
  · cases ho
set_option maxHeartbeats 4000000 in
set_option maxRecDepth 100000 in
theorem bz_stepN {fty : Nat → Nat → FieldType} {wr : Nat → Nat → Nat} {nw : List Cond} {y : MethodName} {ret : Option FieldType} {e0 : bz_E} {rt q1 : Nat} {q2 : bz_Ls} {q3 : bz_S} {q4 : bz_M} (hF : bz_Fx Ts nw y cc nL ret D cl cA p m c s args meth) (hC : bz_Cok kd tc nf cl Ts fty) (hwl1 : ∀ r k, wr r k ≠ 0 → (r, k, wr r k) ∈ wl) (hwl2 : ∀ q ∈ wl, wr q.1 q.2.1 ≠ 0) (hwo : ∀ q ∈ wl, ∃ ci, kd q.1 = some (.inl ci)) (hsf : ∀ q ∈ sf, bz_vw bz_ns q.2.2.2) (hR : 2 ≤ R.frames ∧ 80 ≤ R.locals) (hA : ∀ q, s.heap.size ≤ q → A q)
    (hck : ∀ (x pc : Nat) (H : Heap) (locs : List Loc) (ce sl : Nat) (ls : Array Slot) (j n : Int) (rest : List Value), ce ≤ R.cells → sl ≤ R.slots → decode cc pc = .ok (.invokestatic x, 3) → Cond.methodLink y.cls x bz_ckN ∈ Ts → ls.size = nL → va_S A s.heap H locs → (rest.map fun v => v.category).sum ≤ 8 → bz_in32 j → bz_in32 n → 0 ≤ j → j < n → (∀ locs1 : List Loc, va_S A s.heap H locs1 → W p l e R s m args below meth c H locs1 ce sl Q (F0 m (pc + 3) ls rest)) → W p l e R s m args below meth c H locs ce sl Q (F0 m pc ls (.int (Int32.ofInt n) :: .int (Int32.ofInt j) :: rest)))
    (hok : bz_okE cl sc tc Ts nw sf y pc e0) (hdg : decode cc pc = .ok (e0.1, e0.2.1)) (hI : bz_Inv kd tc nf cA wl w sM sf sc D cl A s nL N0 ad0 L st M ad H locs ls) (hRc : bz_Nn q4 - N0 ≤ R.cells ∧ bz_sl kd nf (bz_Nn q4) - bz_sl kd nf N0 ≤ R.slots) (ho : bz_step kd wr w rt e0 pc L st M = some (.inr (.inl (q1, q2, q3, q4)))) (kk : (∀ (ad' : Nat → Nat) (H' : Heap) (locs' : List Loc) (ls' : Array Slot), bz_Inv kd tc nf cA wl w sM sf sc D cl A s nL N0 ad0 q2 q3 q4 ad' H' locs' ls' → W p l e R s m args below meth c H' locs' (bz_Nn q4 - N0) (bz_sl kd nf (bz_Nn q4) - bz_sl kd nf N0) Q (F0 m q1 ls' (q3.map (bz_mv ad'))))) : W p l e R s m args below meth c H locs (bz_Nn M - N0) (bz_sl kd nf (bz_Nn M) - bz_sl kd nf N0) Q (F0 m pc ls (st.map (bz_mv ad))) := by
  obtain ⟨hx, hb, hml, hown, hts, hret, hlk, hnm, hK, hnw, hao⟩ := hF
  obtain ⟨ins, lnn, i, vl, fg⟩ := e0
  obtain ⟨hln, hok⟩ := hok
  unfold bz_step at ho
  dsimp only at ho hln hok hdg
  replace hI := hI.fg fg
  generalize bz_fg fg L = L2 at hI ho
  cases ins
  case aload_n k =>
    have e9 := hln; unfold bz_lnok bz_ln at e9; dsimp only at e9; subst e9; dsimp only at ho
    refine bz_h_ldA hI ?_ ?_ ho kk
    · exact fun x r h k9 => lv_aload_n hx hb hdg rfl h k9
    · exact fun r h k9 => lv_aload_nN hx hb hdg rfl h k9
  case aload k =>
    have e9 := hln; unfold bz_lnok bz_ln at e9; dsimp only at e9; subst e9; dsimp only at ho
    refine bz_h_ldA hI ?_ ?_ ho kk
    · exact fun x r h k9 => lv_aload hx hb hdg h k9
    · exact fun r h k9 => lv_aloadN hx hb hdg h k9
  case iload_n k =>
    have e9 := hln; unfold bz_lnok bz_ln at e9; dsimp only at e9; subst e9; dsimp only at ho
    refine bz_h_ldI hI ?_ ho kk
    · exact fun x r h k9 => lv_iload_n hx hb hdg rfl h k9
  case iload k =>
    have e9 := hln; unfold bz_lnok bz_ln at e9; dsimp only at e9; subst e9; dsimp only at ho
    refine bz_h_ldI hI ?_ ho kk
    · exact fun x r h k9 => lv_iload hx hb hdg h k9
  case lload_n k =>
    have e9 := hln; unfold bz_lnok bz_ln at e9; dsimp only at e9; subst e9; dsimp only at ho
    refine bz_h_ldL hI ?_ ho kk
    · exact fun x r h k9 => lv_lload_n hx hb hdg rfl h k9
  case lload k =>
    have e9 := hln; unfold bz_lnok bz_ln at e9; dsimp only at e9; subst e9; dsimp only at ho
    refine bz_h_ldL hI ?_ ho kk
    · exact fun x r h k9 => lv_lload hx hb hdg h k9
  case astore_n k =>
    have e9 := hln; unfold bz_lnok bz_ln at e9; dsimp only at e9; subst e9; dsimp only at ho
    refine bz_h_stA hI ?_ ?_ ho kk
    · exact fun x r h k9 => lv_astore_n hx hb hdg rfl hI.lr.has h rfl k9
    · exact fun r h k9 => lv_astore_nN hx hb hdg rfl hI.lr.has h rfl k9
  case astore k =>
    have e9 := hln; unfold bz_lnok bz_ln at e9; dsimp only at e9; subst e9; dsimp only at ho
    refine bz_h_stA hI ?_ ?_ ho kk
    · exact fun x r h k9 => lv_astore hx hb hdg hI.lr.has h rfl k9
    · exact fun r h k9 => lv_astoreN hx hb hdg hI.lr.has h rfl k9
  case istore_n k =>
    have e9 := hln; unfold bz_lnok bz_ln at e9; dsimp only at e9; subst e9; dsimp only at ho
    refine bz_h_stI hI ?_ ho kk
    · exact fun x r h k9 => lv_istore_n hx hb hdg rfl hI.lr.has h rfl k9
  case istore k =>
    have e9 := hln; unfold bz_lnok bz_ln at e9; dsimp only at e9; subst e9; dsimp only at ho
    refine bz_h_stI hI ?_ ho kk
    · exact fun x r h k9 => lv_istore hx hb hdg hI.lr.has h rfl k9
  case lstore_n k =>
    have e9 := hln; unfold bz_lnok bz_ln at e9; dsimp only at e9; subst e9; dsimp only at ho
    refine bz_h_stL hI ?_ ho kk
    · exact fun x r h k9 => lv_lstore_n hx hb hdg rfl hI.lr.has h rfl k9
  case lstore k =>
    have e9 := hln; unfold bz_lnok bz_ln at e9; dsimp only at e9; subst e9; dsimp only at ho
    refine bz_h_stL hI ?_ ho kk
    · exact fun x r h k9 => lv_lstore hx hb hdg hI.lr.has h rfl k9
  case iinc k n =>
    have e9 := hln; unfold bz_lnok bz_ln at e9; dsimp only at e9; subst e9; dsimp only at ho
    refine bz_h_inc hI ?_ ho kk
    · exact fun x k r h1 h2 k9 => lv_iinc hx hb hdg hI.lr.has h1 rfl h2 rfl k9
  case iconst n =>
    have e9 := hln; unfold bz_lnok bz_ln at e9; dsimp only at e9; subst e9; dsimp only at ho
    refine bz_h_push hI ?_ ?_ ho kk
    · exact show bz_in32 n by have := hok.1; have := hok.2; unfold bz_in32; omega
    · exact fun r k9 => lv_iconst hx hb hdg rfl k9
  case bipush n =>
    have e9 := hln; unfold bz_lnok bz_ln at e9; dsimp only at e9; subst e9; dsimp only at ho
    refine bz_h_push hI ?_ ?_ ho kk
    · exact show bz_in32 n by have := hok.1; have := hok.2; unfold bz_in32; omega
    · exact fun r k9 => lv_bipush hx hb hdg (bz_o_bi hok) k9
  case sipush n =>
    have e9 := hln; unfold bz_lnok bz_ln at e9; dsimp only at e9; subst e9; dsimp only at ho
    refine bz_h_push hI ?_ ?_ ho kk
    · exact show bz_in32 n by have := hok.1; have := hok.2; unfold bz_in32; omega
    · exact fun r k9 => lv_sipush hx hb hdg (bz_o_si hok) k9
  case lconst n =>
    have e9 := hln; unfold bz_lnok bz_ln at e9; dsimp only at e9; subst e9; dsimp only at ho
    refine bz_h_push hI ?_ ?_ ho kk
    · exact show bz_in64 (n.val : Int) by have := n.isLt; unfold bz_in64; omega
    · exact fun r k9 => lv_lconst hx hb hdg rfl k9
  case ldc x =>
    have e9 := hln; unfold bz_lnok bz_ln at e9; dsimp only at e9; subst e9; dsimp only at ho
    refine bz_h_push hI ?_ ?_ ho kk
    · exact show bz_in32 vl from hok.2
    · exact fun r k9 => lv_ldc hx hb hown (hts _ hok.1) hdg k9
  case ldc_w x =>
    have e9 := hln; unfold bz_lnok bz_ln at e9; dsimp only at e9; subst e9; dsimp only at ho
    refine bz_h_push hI ?_ ?_ ho kk
    · exact show bz_in32 vl from hok.2
    · exact fun r k9 => lv_ldcw hx hb hown (hts _ hok.1) hdg k9
  case ldc2_w x =>
    have e9 := hln; unfold bz_lnok bz_ln at e9; dsimp only at e9; subst e9; dsimp only at ho
    refine bz_h_push hI ?_ ?_ ho kk
    · exact show bz_in64 vl from hok.2
    · exact fun r k9 => lv_ldc2 hx hb hown (hts _ hok.1) hdg k9
  case aconst_null =>
    have e9 := hln; unfold bz_lnok bz_ln at e9; dsimp only at e9; subst e9; dsimp only at ho
    refine bz_h_push hI ?_ ?_ ho kk
    · exact show 0 ≤ bz_Nn M from Nat.zero_le _
    · exact fun r k9 => lv_null hx hb hdg k9
  case getstatic x =>
    have e9 := hln; unfold bz_lnok bz_ln at e9; dsimp only at e9; subst e9; dsimp only at ho
    obtain ⟨C, n, d, h1, h2⟩ := hok
    have hz := hI.St.1 _ h1
    have hv := (hsf _ h1).mono hI.wf.1
    dsimp only at hz hv
    have row : ∀ rest, W p l e R s m args below meth c H locs (bz_Nn M - N0) (bz_sl kd nf (bz_Nn M) - bz_sl kd nf N0) Q (F0 m (pc + 3) ls (bz_mv ad (if i.getD 1 0 = 1 then Sum.inl vl else Sum.inr (Sum.inr (i.getD 0 0))) :: rest)) → W p l e R s m args below meth c H locs (bz_Nn M - N0) (bz_sl kd nf (bz_Nn M) - bz_sl kd nf N0) Q (F0 m pc ls rest) := fun rest k9 => by
      rcases h2 with h2 | ⟨h, h2⟩
      · exact va_gets hx hb hz hI.iS hown (hts _ h2) (fun _ h => h) hdg k9
      · exact va_getsN hx hb hz hI.iS hown (va_Nw.use rfl (hnw _ h2)) (fun _ h => h) hdg k9
    split at ho
    · rename_i h9
      rw [if_pos h9] at row hv
      exact bz_h_push hI hv row ho kk
    · rename_i h9
      rw [if_neg h9] at row hv
      exact bz_h_push hI hv row ho kk
  case getfield x =>
    have e9 := hln; unfold bz_lnok bz_ln at e9; dsimp only at e9; subst e9; dsimp only at ho
    refine bz_h_get hx hb hts hown hK hC hwl1 hok hdg hI ho kk
  case putfield x =>
    have e9 := hln; unfold bz_lnok bz_ln at e9; dsimp only at e9; subst e9; dsimp only at ho
    refine bz_h_put hx hb hts hown hnm hK hC hwl2 hok hdg hI ho kk
  case iaload =>
    have e9 := hln; unfold bz_lnok bz_ln at e9; dsimp only at e9; subst e9; dsimp only at ho
    refine bz_h_ald hC hI (fun t r x h1 h2 _ => ?_) (fun r t n j rest h1 h2 h3 h4 h5 h6 h7 k9 => ?_) (fun r t n j rest h1 h2 h3 h4 h5 k9 => ?_) ho kk
    · rcases List.mem_singleton.mp h1 with rfl; exact h2
    · rcases List.mem_singleton.mp h1 with rfl; exact va_iald hx hb hK hI.iP (r - bz_ns - 1) 0 (bz_ws_arrI h2 h3 h4 (by decide) (by decide)) rfl h6 hdg (by (try dsimp only); rw [h7]; exact k9)
    · rcases List.mem_singleton.mp h1 with rfl; exact va_ti hx hb h3 hI.iS h4 (by (try dsimp only); rw [h5]; rfl) hdg k9
  case caload =>
    have e9 := hln; unfold bz_lnok bz_ln at e9; dsimp only at e9; subst e9; dsimp only at ho
    refine bz_h_ald hC hI (fun t r x h1 h2 _ => ?_) (fun r t n j rest h1 h2 h3 h4 h5 h6 h7 k9 => ?_) (fun r t n j rest h1 h2 h3 h4 h5 k9 => ?_) ho kk
    · rcases List.mem_singleton.mp h1 with rfl; exact h2
    · rcases List.mem_singleton.mp h1 with rfl; exact va_cald hx hb hK hI.iP (r - bz_ns - 1) 4 (bz_ws_arrI h2 h3 h4 (by decide) (by decide)) rfl h6 hdg (by (try dsimp only); rw [h7]; exact k9)
    · rcases List.mem_singleton.mp h1 with rfl; omega
  case laload =>
    have e9 := hln; unfold bz_lnok bz_ln at e9; dsimp only at e9; subst e9; dsimp only at ho
    refine bz_h_ald hC hI (fun t r x h1 h2 _ => ?_) (fun r t n j rest h1 h2 h3 h4 h5 h6 h7 k9 => ?_) (fun r t n j rest h1 h2 h3 h4 h5 k9 => ?_) ho kk
    · rcases List.mem_singleton.mp h1 with rfl; exact h2
    · rcases List.mem_singleton.mp h1 with rfl; exact va_lald hx hb hK hI.iP (r - bz_ns - 1) 1 (bz_ws_arrL h2 h3 h4) rfl h6 hdg (by (try dsimp only); rw [h7]; exact k9)
    · rcases List.mem_singleton.mp h1 with rfl; omega
  case baload =>
    have e9 := hln; unfold bz_lnok bz_ln at e9; dsimp only at e9; subst e9; dsimp only at ho
    refine bz_h_ald hC hI (fun t r x h1 h2 _ => ?_) (fun r t n j rest h1 h2 h3 h4 h5 h6 h7 k9 => ?_) (fun r t n j rest h1 h2 h3 h4 h5 k9 => ?_) ho kk
    · have h1 : t = 2 ∨ t = 3 := by simpa using h1
      rcases h1 with rfl | rfl <;> exact h2
    · have h1 : t = 2 ∨ t = 3 := by simpa using h1
      rcases h1 with rfl | rfl
      · exact va_bald hx hb hK hI.iP (r - bz_ns - 1) 2 (bz_ws_arrI h2 h3 h4 (by decide) (by decide)) rfl h6 hdg (by (try dsimp only); rw [h7]; exact k9)
      · exact va_zald hx hb hK hI.iP (r - bz_ns - 1) 3 (bz_ws_arrI h2 h3 h4 (by decide) (by decide)) rfl h6 hdg (by (try dsimp only); rw [h7]; exact k9)
    · have h1 : t = 2 ∨ t = 3 := by simpa using h1
      rcases h1 with rfl | rfl
      · exact va_tb hx hb h3 hI.iS h4 (by (try dsimp only); rw [h5]; rfl) hdg k9
      · omega
  case aaload =>
    have e9 := hln; unfold bz_lnok bz_ln at e9; dsimp only at e9; subst e9; dsimp only at ho
    refine bz_h_ald hC hI (fun t r x h1 h2 _ => ?_) (fun r t n j rest h1 h2 h3 h4 h5 h6 h7 k9 => ?_) (fun r t n j rest h1 h2 h3 h4 h5 k9 => ?_) ho kk
    · have h1 : t = 5 ∨ t = 6 := by simpa using h1
      rcases h1 with rfl | rfl <;> exact h2.2
    · have h1 : t = 5 ∨ t = 6 := by simpa using h1
      rcases h1 with rfl | rfl
      · exact va_aldq hx hb hK hI.iP (r - bz_ns - 1) 5 (bz_ws_arrA h2 h3 h4) rfl h6 hdg (by (try dsimp only); rw [h7]; rw [bz_mv_ao] at k9; exact k9)
      · omega
    · have h1 : t = 5 ∨ t = 6 := by simpa using h1
      rcases h1 with rfl | rfl
      · omega
      · exact vb_tq hx hb h3 hI.iS h4 (by (try dsimp only); rw [h5]; rfl) hdg k9
  case iastore =>
    have e9 := hln; unfold bz_lnok bz_ln at e9; dsimp only at e9; subst e9; dsimp only at ho
    refine bz_h_ast (wr := wr) hC hwo hI (fun v x h1 h2 => ?_) (fun r n j x v rest h1 h2 h3 h4 h5 h6 h7 k9 => ?_) ho kk
    · rcases v with z | z | z <;> cases h1
      exact h2
    · rcases v with z | z | z <;> cases h1
      refine va_iast hx hb hK hI.iP hI.iD hI.iS (r - bz_ns - 1) 0 (bz_ws_arrI h3 h4 h5 (by decide) (by decide)) rfl h6 hdg (fun H1 locs1 a1 a2 a3 => ?_)
      rw [h7, ← bz_ws_upI h3 h4 h5 (by decide) (by decide)] at a1 a2
      exact k9 H1 locs1 a1 a2 a3
  case lastore =>
    have e9 := hln; unfold bz_lnok bz_ln at e9; dsimp only at e9; subst e9; dsimp only at ho
    refine bz_h_ast (wr := wr) hC hwo hI (fun v x h1 h2 => ?_) (fun r n j x v rest h1 h2 h3 h4 h5 h6 h7 k9 => ?_) ho kk
    · rcases v with z | z | z <;> cases h1
      exact h2
    · rcases v with z | z | z <;> cases h1
      refine va_last hx hb hK hI.iP hI.iD hI.iS (r - bz_ns - 1) 1 (bz_ws_arrL h3 h4 h5) rfl h6 hdg (fun H1 locs1 a1 a2 a3 => ?_)
      rw [h7, ← bz_ws_upL h3 h4 h5] at a1 a2
      exact k9 H1 locs1 a1 a2 a3
  case castore =>
    have e9 := hln; unfold bz_lnok bz_ln at e9; dsimp only at e9; subst e9; dsimp only at ho
    refine bz_h_ast (wr := wr) hC hwo hI (fun v x h1 h2 => ?_) (fun r n j x v rest h1 h2 h3 h4 h5 h6 h7 k9 => ?_) ho kk
    · unfold bz_asC at h1
      split at h1
      · split at h1
        · have h1 := Option.some.inj h1; subst h1; exact h2
        · cases h1
      · cases h1
    · unfold bz_asC at h1
      split at h1
      · rename_i z
        split at h1
        · rename_i hz
          have h1 := Option.some.inj h1
          subst h1
          refine va_cast hx hb hK hI.iP hI.iD hI.iS (r - bz_ns - 1) 4 (bz_ws_arrI h3 h4 h5 (by decide) (by decide)) rfl h6 hdg (fun H1 locs1 a1 a2 a3 => ?_)
          rw [show vp_nar .char (Int32.ofInt z) = Int32.ofInt z from bz_narC hz.1 hz.2, h7, ← bz_ws_upI h3 h4 h5 (by decide) (by decide)] at a1 a2
          exact k9 H1 locs1 a1 a2 a3
        · cases h1
      · cases h1
  case aastore =>
    have e9 := hln; unfold bz_lnok bz_ln at e9; dsimp only at e9; subst e9; dsimp only at ho
    refine bz_h_astA hC hwo hI (fun r n x j rest h1 h2 h3 h4 h5 h6 h7 h8 k9 => ?_) ho kk
    obtain ⟨T, nn, h10⟩ := hC.2.2.2.2.2
    refine va_astq hx hb hK hI.iP hI.iD hI.iS (r - bz_ns - 1) 5 (x - bz_ns - 1) 7 (bz_ws_arrA h4 h5 h6) rfl (by rw [bz_ws_get h2 h3, bz_cell_obj h1]) h10 h7 hdg (fun H1 locs1 a1 a2 a3 => ?_)
    rw [h8, ← bz_ws_upA (by omega) h4 h5 h6] at a1 a2
    exact k9 H1 locs1 a1 a2 a3
  case bastore =>
    have e9 := hln; unfold bz_lnok bz_ln at e9; dsimp only at e9; subst e9; dsimp only at ho
    split at ho
    · refine bz_h_ast (wr := wr) hC hwo hI (fun v x h1 h2 => ?_) (fun r n j x v rest h1 h2 h3 h4 h5 h6 h7 k9 => ?_) ho kk
      · unfold bz_asZ at h1
        split at h1
        · split at h1
          · have h1 := Option.some.inj h1; subst h1; exact h2
          · cases h1
        · cases h1
      · unfold bz_asZ at h1
        split at h1
        · rename_i z
          split at h1
          · rename_i hz
            have h1 := Option.some.inj h1
            subst h1
            refine va_zast hx hb hK hI.iP hI.iD hI.iS (r - bz_ns - 1) 3 (bz_ws_arrI h3 h4 h5 (by decide) (by decide)) rfl h6 hdg (fun H1 locs1 a1 a2 a3 => ?_)
            rw [show vp_nar .boolean (Int32.ofInt z) = Int32.ofInt z by rcases hz with rfl | rfl <;> rfl, h7, ← bz_ws_upI h3 h4 h5 (by decide) (by decide)] at a1 a2
            exact k9 H1 locs1 a1 a2 a3
          · cases h1
        · cases h1
    · refine bz_h_ast (wr := wr) hC hwo hI (fun v x h1 h2 => ?_) (fun r n j x v rest h1 h2 h3 h4 h5 h6 h7 k9 => ?_) ho kk
      · rcases v with z | z | z <;> cases h1
        have := bz_w8_rg z
        show bz_in32 (bz_w8 z)
        unfold bz_in32
        omega
      · rcases v with z | z | z <;> cases h1
        refine va_bast hx hb hK hI.iP hI.iD hI.iS (r - bz_ns - 1) 2 (bz_ws_arrI h3 h4 h5 (by decide) (by decide)) rfl h6 hdg (fun H1 locs1 a1 a2 a3 => ?_)
        rw [show vp_nar .byte (Int32.ofInt z) = Int32.ofInt (bz_w8 z) by rw [vp_nar_byte]; exact bz_o_i2b h2, h7, ← bz_ws_upI h3 h4 h5 (by decide) (by decide)] at a1 a2
        exact k9 H1 locs1 a1 a2 a3
  case arraylength =>
    have e9 := hln; unfold bz_lnok bz_ln at e9; dsimp only at e9; subst e9; dsimp only at ho
    refine bz_h_len hC hI (fun r t n rest h1 h2 h3 h4 k9 => ?_) (fun r t n g rest h1 k9 => va_tlen hx hb h1 hI.iS rfl hdg k9) ho kk
    have ht : (bz_tys cA)[t]? = some (cA t, bz_sty t) := by
      have : t = 0 ∨ t = 1 ∨ t = 2 ∨ t = 3 ∨ t = 4 ∨ t = 5 := by omega
      rcases this with rfl | rfl | rfl | rfl | rfl | rfl <;> rfl
    exact va_alen hx hb hK hI.iP (r - bz_ns - 1) t (bz_ws_arr h1 h2 h3) ht rfl hdg k9
  case iadd =>
    have e9 := hln; unfold bz_lnok bz_ln at e9; dsimp only at e9; subst e9; dsimp only at ho
    refine bz_h_i2 hI ?_ ?_ ho kk
    · exact fun a b _ _ => bz_w32_in _
    · exact fun a b r _ _ k9 => lv_iadd hx hb hdg (by rw [← bz_o_add]; exact k9)
  case isub =>
    have e9 := hln; unfold bz_lnok bz_ln at e9; dsimp only at e9; subst e9; dsimp only at ho
    refine bz_h_i2 hI ?_ ?_ ho kk
    · exact fun a b _ _ => bz_w32_in _
    · exact fun a b r _ _ k9 => lv_isub hx hb hdg (by rw [← bz_o_sub]; exact k9)
  case imul =>
    have e9 := hln; unfold bz_lnok bz_ln at e9; dsimp only at e9; subst e9; dsimp only at ho
    refine bz_h_i2 hI ?_ ?_ ho kk
    · exact fun a b _ _ => bz_w32_in _
    · exact fun a b r _ _ k9 => lv_imul hx hb hdg (by rw [← bz_o_mul]; exact k9)
  case idiv =>
    have e9 := hln; unfold bz_lnok bz_ln at e9; dsimp only at e9; subst e9; dsimp only at ho
    refine bz_h_i2d hI ?_ ?_ ho kk
    · exact fun a b _ _ => bz_w32_in _
    · exact fun a b r h1 h2 h3 k9 => lv_idiv hx hb hdg (fun z => h3 ((bz_oinj h2 bz_i0).mp z)) (by rw [← bz_o_div h1 h2]; exact k9)
  case irem =>
    have e9 := hln; unfold bz_lnok bz_ln at e9; dsimp only at e9; subst e9; dsimp only at ho
    refine bz_h_i2d hI ?_ ?_ ho kk
    · exact fun a b h _ => bz_tm_in h (by decide) (by decide)
    · exact fun a b r h1 h2 h3 k9 => lv_irem hx hb hdg (fun z => h3 ((bz_oinj h2 bz_i0).mp z)) (by rw [← bz_o_rem h1 h2]; exact k9)
  case iand =>
    have e9 := hln; unfold bz_lnok bz_ln at e9; dsimp only at e9; subst e9; dsimp only at ho
    refine bz_h_i2 hI ?_ ?_ ho kk
    · exact fun a b _ _ => bz_I32 _
    · exact fun a b r _ _ k9 => lv_iand hx hb hdg (by simpa only [bz_and, Int32.ofInt_toInt] using k9)
  case ior =>
    have e9 := hln; unfold bz_lnok bz_ln at e9; dsimp only at e9; subst e9; dsimp only at ho
    refine bz_h_i2 hI ?_ ?_ ho kk
    · exact fun a b _ _ => bz_I32 _
    · exact fun a b r _ _ k9 => lv_ior hx hb hdg (by simpa only [bz_or, Int32.ofInt_toInt] using k9)
  case ixor =>
    have e9 := hln; unfold bz_lnok bz_ln at e9; dsimp only at e9; subst e9; dsimp only at ho
    refine bz_h_i2 hI ?_ ?_ ho kk
    · exact fun a b _ _ => bz_I32 _
    · exact fun a b r _ _ k9 => lv_ixor hx hb hdg (by simpa only [bz_xor, Int32.ofInt_toInt] using k9)
  case ishl =>
    have e9 := hln; unfold bz_lnok bz_ln at e9; dsimp only at e9; subst e9; dsimp only at ho
    refine bz_h_i2 hI ?_ ?_ ho kk
    · exact fun a b _ _ => bz_I32 _
    · exact fun a b r _ _ k9 => lv_ishl hx hb hdg (by simpa only [bz_shl, Int32.ofInt_toInt] using k9)
  case ishr =>
    have e9 := hln; unfold bz_lnok bz_ln at e9; dsimp only at e9; subst e9; dsimp only at ho
    refine bz_h_i2 hI ?_ ?_ ho kk
    · exact fun a b _ _ => bz_I32 _
    · exact fun a b r _ _ k9 => lv_ishr hx hb hdg (by simpa only [bz_shr, Int32.ofInt_toInt] using k9)
  case iushr =>
    have e9 := hln; unfold bz_lnok bz_ln at e9; dsimp only at e9; subst e9; dsimp only at ho
    refine bz_h_i2 hI ?_ ?_ ho kk
    · exact fun a b _ _ => bz_I32 _
    · exact fun a b r _ _ k9 => lv_iushr hx hb hdg rfl (by simpa only [bz_ushr, Int32.ofInt_toInt] using k9)
  case ineg =>
    have e9 := hln; unfold bz_lnok bz_ln at e9; dsimp only at e9; subst e9; dsimp only at ho
    refine bz_h_i1 hI ?_ ?_ ho kk
    · exact fun a _ => bz_w32_in _
    · exact fun a r _ k9 => lv_ineg hx hb hdg (by rw [← bz_o_neg]; exact k9)
  case i2l =>
    have e9 := hln; unfold bz_lnok bz_ln at e9; dsimp only at e9; subst e9; dsimp only at ho
    refine bz_h_i1 hI ?_ ?_ ho kk
    · exact fun a h => show bz_in64 a by have := h.1; have := h.2; unfold bz_in64; omega
    · exact fun a r h k9 => lv_i2l hx hb hdg (bz_o_i2l h) k9
  case i2b =>
    have e9 := hln; unfold bz_lnok bz_ln at e9; dsimp only at e9; subst e9; dsimp only at ho
    refine bz_h_i1 hI ?_ ?_ ho kk
    · exact fun a h => show bz_in32 (bz_w8 a) by have := bz_w8_rg a; unfold bz_in32; omega
    · exact fun a r h k9 => lv_i2b hx hb hdg (bz_o_i2b h) k9
  case i2c =>
    have e9 := hln; unfold bz_lnok bz_ln at e9; dsimp only at e9; subst e9; dsimp only at ho
    refine bz_h_i1 hI ?_ ?_ ho kk
    · exact fun a h => show bz_in32 (a % 65536) by unfold bz_in32; omega
    · exact fun a r h k9 => lv_i2c hx hb hdg (bz_i2c h) k9
  case l2i =>
    have e9 := hln; unfold bz_lnok bz_ln at e9; dsimp only at e9; subst e9; dsimp only at ho
    refine bz_h_l1 hI ?_ ?_ ho kk
    · exact fun a _ => bz_w32_in _
    · exact fun a r h k9 => lv_l2i hx hb hdg (bz_o_l2i a) k9
  case ladd =>
    have e9 := hln; unfold bz_lnok bz_ln at e9; dsimp only at e9; subst e9; dsimp only at ho
    refine bz_h_l2 hI ?_ ?_ ho kk
    · exact fun a b _ _ => bz_w64_in _
    · exact fun a b r _ _ k9 => lv_ladd hx hb hdg (by rw [← bz_l_add]; exact k9)
  case lsub =>
    have e9 := hln; unfold bz_lnok bz_ln at e9; dsimp only at e9; subst e9; dsimp only at ho
    refine bz_h_l2 hI ?_ ?_ ho kk
    · exact fun a b _ _ => bz_w64_in _
    · exact fun a b r _ _ k9 => lv_lsub hx hb hdg (by rw [← bz_l_sub]; exact k9)
  case lmul =>
    have e9 := hln; unfold bz_lnok bz_ln at e9; dsimp only at e9; subst e9; dsimp only at ho
    refine bz_h_l2 hI ?_ ?_ ho kk
    · exact fun a b _ _ => bz_w64_in _
    · exact fun a b r _ _ k9 => lv_lmul hx hb hdg (by rw [← bz_l_mul]; exact k9)
  case ldiv =>
    have e9 := hln; unfold bz_lnok bz_ln at e9; dsimp only at e9; subst e9; dsimp only at ho
    refine bz_h_l2d hI ?_ ?_ ho kk
    · exact fun a b _ _ => bz_w64_in _
    · exact fun a b r h1 h2 h3 k9 => lv_ldiv hx hb hdg (fun z => h3 ((bz_linj h2 (show bz_in64 0 by unfold bz_in64; omega)).mp z)) (by rw [← bz_l_div h1 h2]; exact k9)
  case lrem =>
    have e9 := hln; unfold bz_lnok bz_ln at e9; dsimp only at e9; subst e9; dsimp only at ho
    refine bz_h_l2d hI ?_ ?_ ho kk
    · exact fun a b h _ => bz_tm_in h (by decide) (by decide)
    · exact fun a b r h1 h2 h3 k9 => lv_lrem hx hb hdg (fun z => h3 ((bz_linj h2 (show bz_in64 0 by unfold bz_in64; omega)).mp z)) (by rw [← bz_l_rem h1 h2]; exact k9)
  case land =>
    have e9 := hln; unfold bz_lnok bz_ln at e9; dsimp only at e9; subst e9; dsimp only at ho
    refine bz_h_l2 hI ?_ ?_ ho kk
    · exact fun a b _ _ => bz_I64 _
    · exact fun a b r _ _ k9 => lv_land hx hb hdg (by simpa only [bz_mv, bz_land, Int64.ofInt_toInt] using k9)
  case lor =>
    have e9 := hln; unfold bz_lnok bz_ln at e9; dsimp only at e9; subst e9; dsimp only at ho
    refine bz_h_l2 hI ?_ ?_ ho kk
    · exact fun a b _ _ => bz_I64 _
    · exact fun a b r _ _ k9 => lv_lor hx hb hdg (by simpa only [bz_mv, bz_lor, Int64.ofInt_toInt] using k9)
  case lcmp =>
    have e9 := hln; unfold bz_lnok bz_ln at e9; dsimp only at e9; subst e9; dsimp only at ho
    refine bz_h_l2 hI ?_ ?_ ho kk
    · exact fun a b _ _ => show bz_in32 (bz_lcmp a b) by unfold bz_lcmp bz_in32; split <;> (try split) <;> omega
    · exact fun a b r h1 h2 k9 => W.lcmp hx hb hdg (by rw [bz_lg_cmp h1 h2]; exact k9)
  case dup =>
    have e9 := hln; unfold bz_lnok bz_ln at e9; dsimp only at e9; subst e9; dsimp only at ho
    refine bz_h_dup hI ?_ ho kk
    · exact fun v r h k9 => lv_dup hx hb hdg h k9
  case dup2 =>
    have e9 := hln; unfold bz_lnok bz_ln at e9; dsimp only at e9; subst e9; dsimp only at ho
    refine bz_h_dup2 hI ?_ ho kk
    · exact fun u v r h1 h2 k9 => lv_dup2_11 hx hb hdg h1 h2 k9
  case pop =>
    have e9 := hln; unfold bz_lnok bz_ln at e9; dsimp only at e9; subst e9; dsimp only at ho
    refine bz_h_pop hI ?_ ho kk
    · exact fun v r h k9 => lv_pop hx hb hdg h k9
  case ifCond c0 o =>
    have e9 := hln; unfold bz_lnok bz_ln at e9; dsimp only at e9; subst e9; dsimp only at ho
    unfold bz_if at ho
    split at ho
    · rename_i x st'
      have g := bz_h_br (show bz_in32 x from hI.Sw.head) bz_i0 (hI.sw hI.Sw.tail) ho kk
      rw [List.map_cons]
      cases c0
      · exact lv_if_eq hx hb hdg (bz_tgt hok) g.1 g.2
      · exact lv_if_ne hx hb hdg (bz_tgt hok) g.1 (fun h => g.2 (fun z => z h))
      · exact lv_if_lt hx hb hdg (bz_tgt hok) g.1 g.2
      · exact lv_if_ge hx hb hdg (bz_tgt hok) g.1 g.2
      · exact lv_if_gt hx hb hdg (bz_tgt hok) g.1 g.2
      · exact lv_if_le hx hb hdg (bz_tgt hok) g.1 g.2
    · cases ho
  case if_icmp c0 o =>
    have e9 := hln; unfold bz_lnok bz_ln at e9; dsimp only at e9; subst e9; dsimp only at ho
    unfold bz_icmp at ho
    split at ho
    · rename_i y x st'
      have g := bz_h_br (show bz_in32 x from hI.Sw.tail.head) (show bz_in32 y from hI.Sw.head) (hI.sw hI.Sw.tail.tail) ho kk
      rw [List.map_cons, List.map_cons]
      cases c0
      · exact lv_icmp_eq hx hb hdg (bz_tgt hok) g.1 g.2
      · exact lv_icmp_ne hx hb hdg (bz_tgt hok) g.1 (fun h => g.2 (fun z => z h))
      · exact lv_icmp_lt hx hb hdg (bz_tgt hok) g.1 g.2
      · exact lv_icmp_ge hx hb hdg (bz_tgt hok) g.1 g.2
      · exact lv_icmp_gt hx hb hdg (bz_tgt hok) g.1 g.2
      · exact lv_icmp_le hx hb hdg (bz_tgt hok) g.1 g.2
    · cases ho
  case if_acmp c0 o =>
    have e9 := hln; unfold bz_lnok bz_ln at e9; dsimp only at e9; subst e9; dsimp only at ho
    refine bz_h_acmp hC hI (fun rx ry rest k1 k2 => ?_) ho kk
    cases c0
    · exact lv_acmp_eq hx hb hdg (bz_tgt hok) (fun h => k1 (Or.inl ⟨rfl, h⟩)) (fun h => k2 (Or.inl ⟨rfl, h⟩))
    · exact lv_acmp_ne hx hb hdg (bz_tgt hok) (fun h => k1 (Or.inr ⟨rfl, h⟩)) (fun h => k2 (Or.inr ⟨rfl, h⟩))
  case ifnull o =>
    have e9 := hln; unfold bz_lnok bz_ln at e9; dsimp only at e9; subst e9; dsimp only at ho
    refine bz_h_ifn hI ?_ ?_ ho kk
    · exact fun x r k9 => lv_ifnull hx hb hdg k9
    · exact fun r k9 => lv_ifnullN hx hb hdg (bz_tgt hok) k9
  case goto o =>
    have e9 := hln; unfold bz_lnok bz_ln at e9; dsimp only at e9; subst e9; dsimp only at ho
    obtain ⟨rfl, rfl, rfl, rfl⟩ := bz_Nx ho
    exact lv_goto hx hb hdg (bz_tgt hok) (kk ad H locs ls hI)
  case tableswitch d lo hi os =>
    dsimp only at ho
    unfold bz_tsw at ho
    split at ho
    · rename_i x st'
      obtain ⟨rfl, rfl, rfl, h4⟩ := bz_sw_at ho
      have hx32 : bz_in32 x := hI.Sw.head
      have k9 := kk ad H locs ls (hI.sw hI.Sw.tail)
      rw [List.map_cons]
      rcases h4 with ⟨h5, rfl⟩ | ⟨j, h5, -⟩
      · refine lv_tableOut hx hb hdg ?_ (bz_tgt hok.1) k9
        rw [bz_oi hx32]
        by_cases g1 : x < lo
        · exact Or.inl g1
        · by_cases g2 : hi < x
          · exact Or.inr g2
          · exfalso
            have g3 := hok.2.2
            exact h5 (lo + ((x - lo).toNat : Int), bz_tg pc (os.getD (x - lo).toNat 0)) (List.mem_map.mpr ⟨(x - lo).toNat, List.mem_range.mpr (by omega), rfl⟩) (by show lo + ((x - lo).toNat : Int) = x; omega)
      · rw [List.getElem?_map] at h5
        cases hj : (List.range os.size)[j]? with
        | none => rw [hj] at h5; cases h5
        | some z =>
          rw [hj] at h5
          have hz : z = j ∧ j < os.size := by
            have g := (List.getElem?_eq_some_iff.mp hj)
            obtain ⟨g1, g2⟩ := g
            simp at g1 g2
            exact ⟨g2.symm, g1⟩
          obtain ⟨rfl, hjl⟩ := hz
          simp only [Option.map_some, Option.some.injEq, Prod.mk.injEq] at h5
          obtain ⟨h6, h7⟩ := h5
          have g3 := hok.2.2
          have hidx : ((Int32.ofInt x).toInt - lo).toNat = z := by rw [bz_oi hx32]; omega
          refine lv_tableIn hx hb hdg (by rw [bz_oi hx32]; omega) (by rw [bz_oi hx32]; omega) (off := os.getD z 0) (by rw [hidx, Array.getElem?_eq_getElem hjl]; simp [Array.getD, hjl]) (tgt := q1) ?_ k9
          rw [← h7]
          exact bz_tgt (hok.2.1 _ (by simp [Array.getD, hjl]))
    · cases ho
  case lookupswitch d ps =>
    dsimp only at ho
    unfold bz_lsw at ho
    split at ho
    · rename_i x st'
      obtain ⟨rfl, rfl, rfl, h4⟩ := bz_sw_at ho
      have hx32 : bz_in32 x := hI.Sw.head
      have k9 := kk ad H locs ls (hI.sw hI.Sw.tail)
      rw [List.map_cons]
      rcases h4 with ⟨h5, rfl⟩ | ⟨j, h5, h6⟩
      · refine lv_lookup hx hb hdg hok.2.2 ?_ (bz_tgt hok.1) k9
        rw [bz_oi hx32]
        exact bz_lk_no (fun q hq z => h5 (q.1, bz_tg pc q.2) (List.mem_map.mpr ⟨q, hq, rfl⟩) z)
      · rw [List.getElem?_map] at h5
        cases hj : ps.toList[j]? with
        | none => rw [hj] at h5; cases h5
        | some z =>
          rw [hj] at h5
          simp only [Option.map_some, Option.some.injEq, Prod.mk.injEq] at h5
          obtain ⟨h7, h8⟩ := h5
          refine lv_lookup hx hb hdg hok.2.2 (off := z.2) ?_ (tgt := q1) ?_ k9
          · rw [bz_oi hx32]
            refine bz_lk_at h7 hj (fun k hk q hq e => h6 k hk (q.1, bz_tg pc q.2) ?_ e)
            rw [List.getElem?_map, hq]; rfl
          · rw [← h8]
            exact bz_tgt (hok.2.1 _ (List.mem_of_getElem? hj))
    · cases ho
  case ireturn =>
    dsimp only at ho
    unfold bz_ret at ho
    split at ho <;> first | cases ho | (split at ho <;> cases ho)
  case lreturn =>
    dsimp only at ho
    unfold bz_ret at ho
    split at ho <;> first | cases ho | (split at ho <;> cases ho)
  case areturn =>
    dsimp only at ho
    unfold bz_ret at ho
    split at ho <;> first | cases ho | (split at ho <;> cases ho)
  case return_ =>
    dsimp only at ho
    unfold bz_ret at ho
    split at ho <;> first | cases ho | (split at ho <;> cases ho)
  case new x =>
    have e9 := hln; unfold bz_lnok bz_ln at e9; dsimp only at e9; subst e9; dsimp only at ho
    obtain ⟨C, T, n, h1, h2, h3, h4⟩ := hok
    unfold bz_new at ho
    split at ho
    · rename_i h
      obtain ⟨rfl, rfl, rfl, e4⟩ := bz_Nx ho
      have e4 : bz_Mn M = q4 := e4
      subst e4
      have hcc := hC.2.2.2.1 _ C T n h1
      rw [bz_Mn_N, bz_sl_succ] at hRc
      have hrs : bz_rsz kd nf (bz_Nn M + 1) = n := by
        have h5 : kd (bz_Nn M + 1) = some (.inl (i.getD 0 0)) := h.2
        unfold bz_rsz; rw [h5]; exact hcc.1
      rw [hrs] at hRc
      have hN0 := hI.iN
      have hmono : bz_sl kd nf N0 ≤ bz_sl kd nf (bz_Nn M) := bz_sl_mono hN0
      refine va_new hx hb hts hcc.2.1 (fty (i.getD 0 0)) hcc.2.2.1 hown (hts _ h2) (hts _ h3) (hts _ h4) hK hI.iP hI.iD hI.iS hA h1 (fs := (List.range (nf (i.getD 0 0))).map fun k => bz_val ad (tc (i.getD 0 0) k) 0) (fun j hj => ?_) (by omega) (by omega) hdg (fun a H1 a1 a2 a3 => ?_)
      · have hty := hcc.2.2.2.2 j hj
        have e1 : vp_V ((List.range (nf (i.getD 0 0))).map fun k => bz_val ad (tc (i.getD 0 0) k) 0) j = bz_val ad (tc (i.getD 0 0) j) 0 := by
          unfold vp_V
          rw [List.getD_eq_getElem?_getD, List.getElem?_map, List.getElem?_range (by rw [hcc.1]; exact hj)]
          rfl
        rw [e1]
        rcases hty with ⟨g1, g2⟩ | ⟨g1, g2⟩ | ⟨g1, g2⟩ | ⟨g1, ⟨z, g2⟩ | ⟨z, g2⟩⟩ <;> rw [g1, g2] <;> rfl
      · have e2 : bz_cell kd tc nf cA (bz_adn ad (bz_Nn M + 1) a) (bz_Mn M) (bz_Nn M + 1) = .inr (i.getD 0 0, (List.range (nf (i.getD 0 0))).map fun k => bz_val ad (tc (i.getD 0 0) k) 0) := by
          rw [bz_cell_obj (show kd (bz_Nn M + 1) = some (.inl (i.getD 0 0)) from h.2), bz_Mn_new]
          congr 2
        rw [← e2, ← bz_ws_new hI.wf] at a1 a2
        have k9 := kk (bz_adn ad (bz_Nn M + 1) a) H1 locs ls (hI.new h.1 hsf hI.Sw a1 a2 a3)
        rw [List.map_cons, show (M 0 0).toNat = bz_Nn M from rfl, bz_map_adn hI.Sw, bz_mvr (show bz_Nn M + 1 ≠ 0 by omega), bz_adn_at, bz_Mn_N, bz_sl_succ, hrs] at k9
        rw [show bz_Nn M - N0 + 1 = bz_Nn M + 1 - N0 by omega, show bz_sl kd nf (bz_Nn M) - bz_sl kd nf N0 + n = bz_sl kd nf (bz_Nn M) + n - bz_sl kd nf N0 by omega]
        exact k9
    · cases ho
  case newarray at0 =>
    have e9 := hln; unfold bz_lnok bz_ln at e9; dsimp only at e9; subst e9; dsimp only at ho
    obtain ⟨h1, h2, h3⟩ := hok
    unfold bz_newa at ho
    split at ho
    · rename_i n st'
      split at ho
      · rename_i h
        obtain ⟨hw, hn, hkd⟩ := h
        obtain ⟨rfl, rfl, rfl, e4⟩ := bz_Nx ho
        have e4 : bz_Mn M = q4 := e4
        subst e4
        have hkd : kd (bz_Nn M + 1) = some (.inr (i.getD 0 0, n.toNat)) := hkd
        have hn32 : bz_in32 n := hI.Sw.head
        rw [bz_Mn_N, bz_sl_succ] at hRc
        have hrs : bz_rsz kd nf (bz_Nn M + 1) = n.toNat := by unfold bz_rsz; rw [hkd]
        rw [hrs] at hRc
        have hN0 := hI.iN
        have h0 := hI.wf.1
        have hmono : bz_sl kd nf N0 ≤ bz_sl kd nf (bz_Nn M) := bz_sl_mono hN0
        have hsz := ((hC.2.2.1 _ _ _ hkd).2.1 (by omega)).2
        have hcl : (Int32.ofInt n).toNatClampNeg = n.toNat := Int32.toNatClampNeg_ofInt_of_le (by have := hn32.1; omega) (by have := hn32.2; omega)
        have hcb : n.toNat * componentBytes (bz_sty (i.getD 0 0)) ≤ 536870912 := by
          have hc8 : componentBytes (bz_sty (i.getD 0 0)) ≤ 8 := by
            have : i.getD 0 0 = 0 ∨ i.getD 0 0 = 1 ∨ i.getD 0 0 = 2 ∨ i.getD 0 0 = 3 ∨ i.getD 0 0 = 4 := by omega
            rcases this with e | e | e | e | e <;> rw [e] <;> decide
          exact Nat.le_trans (Nat.mul_le_mul_left _ hc8) hsz
        rw [List.map_cons]
        refine va_newa hx hb (by rw [h2]; exact hts _ h3) h2 hK hI.iP hI.iD hI.iS hA (a0 := bz_con ad (i.getD 0 0) n.toNat (fun _ => 0)) (fun cB => ?_) (fun hl => by have := (bz_olt hn32 bz_i0).mp hl; omega) hcl hcb (by omega) (by omega) hdg (fun a cB H1 b1 a1 a2 a3 => ?_)
        · have : i.getD 0 0 = 0 ∨ i.getD 0 0 = 1 ∨ i.getD 0 0 = 2 ∨ i.getD 0 0 = 3 ∨ i.getD 0 0 = 4 := by omega
          rcases this with e | e | e | e | e <;> rw [e] <;> rfl
        · have ht : (bz_tys cA)[i.getD 0 0]? = some (cA (i.getD 0 0), bz_sty (i.getD 0 0)) := by
            have : i.getD 0 0 = 0 ∨ i.getD 0 0 = 1 ∨ i.getD 0 0 = 2 ∨ i.getD 0 0 = 3 ∨ i.getD 0 0 = 4 := by omega
            rcases this with e | e | e | e | e <;> rw [e] <;> rfl
          have hcB : cB = cA (i.getD 0 0) := by
            have g1 := (hK.2 _ _ ht).2
            have g2 := (b1.2 6 (cB, bz_sty (i.getD 0 0)) rfl).2
            dsimp only at g1 g2
            have : i.getD 0 0 = 0 ∨ i.getD 0 0 = 1 ∨ i.getD 0 0 = 2 ∨ i.getD 0 0 = 3 ∨ i.getD 0 0 = 4 := by omega
            rcases this with e | e | e | e | e <;> rw [e] at g1 g2 ⊢ <;> exact Option.some.inj (g2.symm.trans g1)
          subst hcB
          have e2 : bz_cell kd tc nf cA (bz_adn ad (bz_Nn M + 1) a) (bz_Mn M) (bz_Nn M + 1) = .inl (cA (i.getD 0 0), bz_con ad (i.getD 0 0) n.toNat (fun _ => 0)) := by
            rw [bz_cell_arr hkd, bz_Mn_new]
            have : i.getD 0 0 = 0 ∨ i.getD 0 0 = 1 ∨ i.getD 0 0 = 2 ∨ i.getD 0 0 = 3 ∨ i.getD 0 0 = 4 := by omega
            rcases this with e | e | e | e | e <;> rw [e] <;> rfl
          rw [← e2, ← bz_ws_new hI.wf] at a1 a2
          have k9 := kk (bz_adn ad (bz_Nn M + 1) a) H1 locs ls (hI.new hw hsf hI.Sw.tail a1 a2 a3)
          rw [List.map_cons, show (M 0 0).toNat = bz_Nn M from rfl, bz_map_adn hI.Sw.tail, bz_mvr (show bz_Nn M + 1 ≠ 0 by omega), bz_adn_at, bz_Mn_N, bz_sl_succ, hrs] at k9
          rw [show bz_Nn M - N0 + 1 = bz_Nn M + 1 - N0 by omega, show bz_sl kd nf (bz_Nn M) - bz_sl kd nf N0 + n.toNat = bz_sl kd nf (bz_Nn M) + n.toNat - bz_sl kd nf N0 by omega]
          exact k9
      · cases ho
    · cases ho
  case anewarray x =>
    have e9 := hln; unfold bz_lnok bz_ln at e9; dsimp only at e9; subst e9; dsimp only at ho
    obtain ⟨h1, h2⟩ := hok
    rw [h1] at ho
    unfold bz_newa at ho
    split at ho
    · rename_i n st'
      split at ho
      · rename_i h
        obtain ⟨hw, hn, hkd⟩ := h
        obtain ⟨rfl, rfl, rfl, e4⟩ := bz_Nx ho
        have e4 : bz_Mn M = q4 := e4
        subst e4
        have hkd : kd (bz_Nn M + 1) = some (.inr (5, n.toNat)) := hkd
        have hn32 : bz_in32 n := hI.Sw.head
        rw [bz_Mn_N, bz_sl_succ] at hRc
        have hrs : bz_rsz kd nf (bz_Nn M + 1) = n.toNat := by unfold bz_rsz; rw [hkd]
        rw [hrs] at hRc
        have hN0 := hI.iN
        have h0 := hI.wf.1
        have hmono : bz_sl kd nf N0 ≤ bz_sl kd nf (bz_Nn M) := bz_sl_mono hN0
        have hsz := ((hC.2.2.1 _ _ _ hkd).2.1 (by omega)).2
        have hcl : (Int32.ofInt n).toNatClampNeg = n.toNat := Int32.toNatClampNeg_ofInt_of_le (by have := hn32.1; omega) (by have := hn32.2; omega)
        rw [List.map_cons]
        refine va_newq hx hb hown (hts _ h2) hao hK hI.iP hI.iD hI.iS hA (fun hl => by have := (bz_olt hn32 bz_i0).mp hl; omega) hcl (by omega) (by omega) (by omega) hdg (fun a cB H1 b1 a1 a2 a3 => ?_)
        have hcB : cB = cA 5 := by
          obtain ⟨kA1, comp1, -, -, -, g1⟩ := (hK.2 5 (cA 5, .object "BentRiver$State") rfl).2
          obtain ⟨kA2, comp2, -, -, -, g2⟩ := (b1.2 6 (cB, .object "BentRiver$State") rfl).2
          exact Option.some.inj (g2.symm.trans g1)
        subst hcB
        have e2 : bz_cell kd tc nf cA (bz_adn ad (bz_Nn M + 1) a) (bz_Mn M) (bz_Nn M + 1) = .inl (cA 5, n.toNat, .inr (.inr (.inr (.inr (fun _ => none))))) := by
          rw [bz_cell_arr hkd, bz_Mn_new]
          rfl
        rw [← e2, ← bz_ws_new hI.wf] at a1 a2
        have k9 := kk (bz_adn ad (bz_Nn M + 1) a) H1 locs ls (hI.new hw hsf hI.Sw.tail a1 a2 a3)
        rw [List.map_cons, show (M 0 0).toNat = bz_Nn M from rfl, bz_map_adn hI.Sw.tail, bz_mvr (show bz_Nn M + 1 ≠ 0 by omega), bz_adn_at, bz_Mn_N, bz_sl_succ, hrs] at k9
        rw [show bz_Nn M - N0 + 1 = bz_Nn M + 1 - N0 by omega, show bz_sl kd nf (bz_Nn M) - bz_sl kd nf N0 + n.toNat = bz_sl kd nf (bz_Nn M) + n.toNat - bz_sl kd nf N0 by omega]
        exact k9
      · cases ho
    · cases ho
  case invokevirtual x =>
    dsimp only at ho
    unfold bz_invV bz_call at ho
    split at ho
    · split at ho
      · split at ho <;> cases ho
      · cases ho
    · cases ho
  case invokestatic x =>
    have e9 := hln; unfold bz_lnok bz_ln at e9; dsimp only at e9; subst e9; dsimp only at ho
    split at ho
    · rename_i h
      exact bz_h_acpy hx hb hml hts hown hK hC hwo (hok.1 h) ⟨by omega, by omega⟩ hdg hI ho kk
    · split at ho
      · rename_i h
        have e4 := bz_chk_M ho
        rw [← e4] at hRc
        exact bz_h_chk hI (fun j n st' h1 h2 h3 h4 h5 k9 => hck x pc H locs _ _ ls j n _ hRc.1 hRc.2 hdg (hok.2 h) hI.lr.1 hI.iS (by rw [bz_catm]; exact h5) h1 h2 h3 h4 k9) ho kk
      · unfold bz_invS bz_call at ho
        split at ho
        · split at ho <;> cases ho
        · cases ho
  case invokespecial x =>
    have e9 := hln; unfold bz_lnok bz_ln at e9; dsimp only at e9; subst e9; dsimp only at ho
    split at ho
    · rename_i h
      have hok := hok h
      refine bz_h_popr hI (fun r rest h1 k9 => ?_) ho kk
      refine W.objInit hx hb hown (hts _ hok.1) (hts _ hok.2.1) (hts _ hok.2.2) rfl (by rw [hml]; exact hI.lr.1) rfl hdg (by omega) ?_ k9
      have h9 := lv_room (m := m) (pc := pc) (ls := ls) (rest := (.ref r :: rest)) h1
      omega
    · unfold bz_invV bz_call at ho
      split at ho
      · split at ho
        · split at ho <;> cases ho
        · cases ho
      · cases ho
  all_goals cases ho
end SN

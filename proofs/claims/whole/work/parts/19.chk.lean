/-! A PROGRAM THAT LOOKS AT A ROW, AND WHAT IT SAYS -/
noncomputable def bz_Ts : List Cond := lw_tbl.filter goodWord
def bz_fn (ci k : Nat) : String × String × String := match bz_cl[ci]? with
  | some q => ((q.2.1 k).1, (q.2.1 k).2.1, (q.2.1 k).2.2.1)
  | none => match bz_sc ci with
    | some q => q.2.1 k
    | none => ("", "", "")
def bz_nfx (ci : Nat) : Nat := match bz_cl[ci]? with
  | some q => q.2.2
  | none => match bz_sc ci with
    | some q => q.2.2
    | none => 0
def bz_fin (ci k : Nat) : Bool := match bz_cl[ci]? with
  | some q => (q.2.1 k).2.2.2
  | none => true
def bz_cn (ci : Nat) : String := match bz_cl[ci]? with
  | some q => q.1
  | none => match bz_sc ci with
    | some q => q.1
    | none => ""
def bz_lnB (i : Instr) (n : Nat) : Bool := match i with
  | .tableswitch _ _ _ _ => true
  | .lookupswitch _ _ => true
  | i => n == bz_ln i
def bz_ini (m : Nat) : Bool := (bz_y m).name == "<init>"
/-- m: the method, o: its class, fw: the rows of fields, links and constants by their places -/
def bz_okB (m o pc : Nat) (ins : Instr) (n : Nat) (i : List Nat) (vl : Int) : Bool :=
  bz_lnB ins n && (match ins with
  | .getfield x => decide (bz_fr[i.getD 3 0]? = some (o, x, i.getD 0 0, i.getD 1 0)) && decide (i.getD 1 0 < bz_nfx (i.getD 0 0)) && decide (i.getD 0 0 < 14) && decide ((i.getD 2 9 = 0 ∧ (bz_tc (i.getD 0 0) (i.getD 1 0) = 0 ∨ bz_tc (i.getD 0 0) (i.getD 1 0) = 4)) ∨ (i.getD 2 9 = 1 ∧ bz_tc (i.getD 0 0) (i.getD 1 0) = 1) ∨ ((i.getD 2 9 = 2 ∨ i.getD 2 9 = 3) ∧ bz_tc (i.getD 0 0) (i.getD 1 0) = 2))
  | .putfield x => decide (bz_fr[i.getD 3 0]? = some (o, x, i.getD 0 0, i.getD 1 0)) && decide (i.getD 1 0 < bz_nfx (i.getD 0 0)) && decide (i.getD 0 0 < 12) && decide (bz_fin (i.getD 0 0) (i.getD 1 0) = false ∨ (bz_ini m = true ∧ (bz_fn (i.getD 0 0) (i.getD 1 0)).1 = bz_own o)) && decide (i.getD 2 9 = bz_tc (i.getD 0 0) (i.getD 1 0))
  | .getstatic x => (match bz_sf[if i.getD 2 0 = 1 then ((bz_nwf[i.getD 3 0]?).map (fun q => i.getD 0 0 - 2)).getD 99 else ((bz_sr[i.getD 3 0]?).map (fun q => q.2.2)).getD 99]? with
    | some q => decide (q.2.2.2 = (if i.getD 1 0 = 1 then Sum.inl vl else Sum.inr (Sum.inr (i.getD 0 0)) : bz_V)) && (if i.getD 2 0 = 1 then decide (bz_nwf[i.getD 3 0]? = some (bz_own o, x, q.1, q.2.1, q.2.2.1, "BentRiver")) else decide ((bz_sr[i.getD 3 0]?).map (fun z => (z.1, z.2.1)) = some (o, x)))
    | none => false)
  | .ldc x => decide (bz_cr[i.getD 0 0]? = some (o, x, vl, false)) && decide (-2147483648 ≤ vl ∧ vl < 2147483648)
  | .ldc_w x => decide (bz_cr[i.getD 0 0]? = some (o, x, vl, false)) && decide (-2147483648 ≤ vl ∧ vl < 2147483648)
  | .ldc2_w x => decide (bz_cr[i.getD 0 0]? = some (o, x, vl, true)) && decide (-9223372036854775808 ≤ vl ∧ vl < 9223372036854775808)
  | .iconst n => decide (-128 ≤ n ∧ n < 128)
  | .bipush n => decide (-128 ≤ n ∧ n < 128)
  | .sipush n => decide (-32768 ≤ n ∧ n < 32768)
  | .iinc _ n => decide (-128 ≤ n ∧ n < 128)
  | .new x => decide (bz_kr[i.getD 1 0]? = some (o, x, i.getD 0 0)) && decide (i.getD 0 0 < 12)
  | .newarray a => decide (i.getD 0 0 < 5) && decide (newarray.typeOf a = bz_sty (i.getD 0 0))
  | .anewarray x => decide (i.getD 0 0 = 5) && decide (bz_kr[i.getD 1 0]? = some (o, x, 7))
  | .ifCond _ t => decide (0 ≤ (pc : Int) + t)
  | .if_icmp _ t => decide (0 ≤ (pc : Int) + t)
  | .if_acmp _ t => decide (0 ≤ (pc : Int) + t)
  | .ifnull t => decide (0 ≤ (pc : Int) + t)
  | .goto t => decide (0 ≤ (pc : Int) + t)
  | .tableswitch d lo hi os => decide (0 ≤ (pc : Int) + d ∧ (∀ t ∈ os.toList, 0 ≤ (pc : Int) + t) ∧ (os.size : Int) = hi - lo + 1)
  | .lookupswitch d ps => decide (0 ≤ (pc : Int) + d ∧ (∀ t ∈ ps.toList, 0 ≤ (pc : Int) + t.2) ∧ (ps.toList.zip (ps.toList.drop 1)).all (fun (a, next) => a.1 < next.1) = true)
  | .ireturn => decide (bz_rt m = 1 ∨ bz_rt m = 4 ∨ bz_rt m = 5 ∨ bz_rt m = 6)
  | .lreturn => decide (bz_rt m = 2)
  | .areturn => decide (bz_rt m = 3)
  | .return_ => decide (bz_rt m = 0)
  | .invokevirtual x => decide (bz_mr[i.getD 7 0]? = some (o, x, i.getD 1 0)) && decide (i.getD 0 9 = 0 ∧ i.getD 1 0 ≠ 0 ∧ i.getD 1 0 < 316 ∧ i.getD 4 0 < 14 ∧ bz_nL (i.getD 1 0) = i.getD 5 0 ∧ (bz_y (i.getD 1 0)).cls = bz_cn (i.getD 4 0) ∧ i.getD 1 0 ∈ bz_iml ∧ (i.getD 1 0 ∈ bz_sel ∨ i.getD 1 0 ∈ bz_spr) ∧ bz_pnl.getD (i.getD 1 0) 99 = i.getD 2 0)
  | .invokestatic x => if i.getD 0 9 = 2 then decide (o = 8 ∧ x = 45) else if i.getD 0 9 = 5 then decide (o = 17 ∧ x = 9) else decide (bz_mr[i.getD 7 0]? = some (o, x, i.getD 1 0)) && decide (i.getD 0 9 = 0 ∧ i.getD 1 0 ≠ 0 ∧ i.getD 1 0 < 316 ∧ bz_nL (i.getD 1 0) = i.getD 5 0 ∧ i.getD 1 0 ∈ bz_stl ∧ bz_pnl.getD (i.getD 1 0) 99 = i.getD 2 0)
  | .invokespecial x => if i.getD 0 9 = 1 then decide ((bz_own o, x) ∈ bz_oi0) else decide (i.getD 0 9 = 0 ∧ i.getD 1 0 ≠ 0 ∧ i.getD 1 0 < 316 ∧ bz_nL (i.getD 1 0) = i.getD 5 0 ∧ bz_ini (i.getD 1 0) = true ∧ bz_rt (i.getD 1 0) = 0 ∧ i.getD 1 0 ∈ bz_iml ∧ bz_pnl.getD (i.getD 1 0) 99 = i.getD 2 0) && (if i.getD 6 0 = 1 then decide (bz_nwm[i.getD 7 0]? = some (bz_own o, x, i.getD 1 0)) else decide (bz_mr[i.getD 7 0]? = some (o, x, i.getD 1 0)))
  | _ => true)
def bz_cc (m : Nat) : ByteArray := ((bz_mtl[m]?).map (fun q => q.2.1)).getD ⟨#[]⟩
noncomputable def bz_ckm (m : Nat) : Bool := (bz_tbl.getD m []).all (fun q => bz_okB m (bz_mo.getD m 0) q.1 q.2.1 q.2.2.1 q.2.2.2.1 q.2.2.2.2.1)

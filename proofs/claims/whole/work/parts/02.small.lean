/-! THE SMALL MACHINE: whole numbers, regions and places instead of heap and slots. -/
abbrev bz_V : Type := Int ⊕ (Int ⊕ Nat)
abbrev bz_M : Type := Nat → Nat → Int
abbrev bz_S : Type := List bz_V
abbrev bz_Ls : Type := List (Option bz_V)
abbrev bz_Kd : Type := Nat ⊕ (Nat × Nat)
/-- instruction, its length, what it means, a number, slots that are forgotten ahead of it -/
abbrev bz_E : Type := Instr × Nat × List Nat × Int × List Nat
abbrev bz_N : Type := Nat × bz_Ls × bz_S × bz_M
abbrev bz_C : Type := Nat × bz_S × Nat × bz_Ls × bz_S × Nat
abbrev bz_O : Type := (Option bz_V × bz_M) ⊕ (bz_N ⊕ bz_C)
def bz_w32 (z : Int) : Int := Int.bmod z 4294967296
def bz_w64 (z : Int) : Int := Int.bmod z 18446744073709551616
def bz_w8 (z : Int) : Int := Int.bmod z 256
def bz_up (M : bz_M) (r k : Nat) (v : Int) : bz_M := fun r' => if r' = r then (fun k' => if k' = k then v else M r k') else M r'
def bz_zero (M : bz_M) (r : Nat) : bz_M := fun r' => if r' = r then (fun _ => 0) else M r'
def bz_cpy (M : bz_M) (a i b j n : Nat) : bz_M := fun r' => if r' = b then (fun k' => if j ≤ k' ∧ k' < j + n then M a (i + (k' - j)) else M b k') else M r'
def bz_and (a b : Int) : Int := (Int32.ofInt a &&& Int32.ofInt b).toInt
def bz_or (a b : Int) : Int := (Int32.ofInt a ||| Int32.ofInt b).toInt
def bz_xor (a b : Int) : Int := (Int32.ofInt a ^^^ Int32.ofInt b).toInt
def bz_shl (a b : Int) : Int := (Int32.ofInt a <<< (Int32.ofInt b &&& 31)).toInt
def bz_shr (a b : Int) : Int := (Int32.ofInt a >>> (Int32.ofInt b &&& 31)).toInt
def bz_ushr (a b : Int) : Int := ((Int32.ofInt a).toUInt32 >>> ((Int32.ofInt b).toUInt32 &&& Int32.toUInt32 31)).toInt32.toInt
def bz_land (a b : Int) : Int := (Int64.ofInt a &&& Int64.ofInt b).toInt
def bz_lor (a b : Int) : Int := (Int64.ofInt a ||| Int64.ofInt b).toInt
def bz_lcmp (a b : Int) : Int := if a < b then -1 else if a = b then 0 else 1
def bz_cat (st : bz_S) : Nat := (st.map (fun v => match v with | .inr (.inl _) => 2 | _ => 1)).sum
def bz_fg (ks : List Nat) (L : bz_Ls) : bz_Ls := ks.foldl (fun L k => L.set k none) L
def bz_cl1 (L : bz_Ls) (i : Nat) : bz_Ls := match i with
  | 0 => L
  | j + 1 => match L[j]? with
    | some (some (.inr (.inl _))) => L.set j none
    | _ => L
def bz_st1 (L : bz_Ls) (i : Nat) (v : bz_V) : bz_Ls := (bz_cl1 L i).set i (some v)
def bz_st2 (L : bz_Ls) (i : Nat) (v : bz_V) : bz_Ls := ((bz_cl1 L i).set i (some v)).set (i + 1) none
def bz_nx (pc : Nat) (L : bz_Ls) (st : bz_S) (M : bz_M) : Option bz_O := some (.inr (.inl (pc, L, st, M)))
def bz_push (pc : Nat) (L : bz_Ls) (st : bz_S) (M : bz_M) (v : bz_V) : Option bz_O := bz_nx pc L (v :: st) M
def bz_ldI (pc : Nat) (L : bz_Ls) (st : bz_S) (M : bz_M) (i : Nat) : Option bz_O := match L[i]? with
  | some (some (.inl x)) => bz_nx pc L (.inl x :: st) M
  | _ => none
def bz_ldL (pc : Nat) (L : bz_Ls) (st : bz_S) (M : bz_M) (i : Nat) : Option bz_O := match L[i]? with
  | some (some (.inr (.inl x))) => bz_nx pc L (.inr (.inl x) :: st) M
  | _ => none
def bz_ldA (pc : Nat) (L : bz_Ls) (st : bz_S) (M : bz_M) (i : Nat) : Option bz_O := match L[i]? with
  | some (some (.inr (.inr x))) => bz_nx pc L (.inr (.inr x) :: st) M
  | _ => none
def bz_stI (pc : Nat) (L : bz_Ls) (st : bz_S) (M : bz_M) (i : Nat) : Option bz_O := match st with
  | .inl x :: st' => if i < L.length then bz_nx pc (bz_st1 L i (.inl x)) st' M else none
  | _ => none
def bz_stL (pc : Nat) (L : bz_Ls) (st : bz_S) (M : bz_M) (i : Nat) : Option bz_O := match st with
  | .inr (.inl x) :: st' => if i + 1 < L.length then bz_nx pc (bz_st2 L i (.inr (.inl x))) st' M else none
  | _ => none
def bz_stA (pc : Nat) (L : bz_Ls) (st : bz_S) (M : bz_M) (i : Nat) : Option bz_O := match st with
  | .inr (.inr x) :: st' => if i < L.length then bz_nx pc (bz_st1 L i (.inr (.inr x))) st' M else none
  | _ => none
def bz_inc (pc : Nat) (L : bz_Ls) (st : bz_S) (M : bz_M) (i : Nat) (n : Int) : Option bz_O := match L[i]? with
  | some (some (.inl x)) => bz_nx pc (bz_st1 L i (.inl (bz_w32 (x + n)))) st M
  | _ => none
def bz_i1 (pc : Nat) (L : bz_Ls) (st : bz_S) (M : bz_M) (f : Int → bz_V) : Option bz_O := match st with
  | .inl a :: st' => bz_nx pc L (f a :: st') M
  | _ => none
def bz_l1 (pc : Nat) (L : bz_Ls) (st : bz_S) (M : bz_M) (f : Int → bz_V) : Option bz_O := match st with
  | .inr (.inl a) :: st' => bz_nx pc L (f a :: st') M
  | _ => none
def bz_i2 (pc : Nat) (L : bz_Ls) (st : bz_S) (M : bz_M) (f : Int → Int → Int) : Option bz_O := match st with
  | .inl b :: .inl a :: st' => bz_nx pc L (.inl (f a b) :: st') M
  | _ => none
def bz_l2 (pc : Nat) (L : bz_Ls) (st : bz_S) (M : bz_M) (f : Int → Int → bz_V) : Option bz_O := match st with
  | .inr (.inl b) :: .inr (.inl a) :: st' => bz_nx pc L (f a b :: st') M
  | _ => none
/-- division: by 0 there is nothing -/
def bz_i2d (pc : Nat) (L : bz_Ls) (st : bz_S) (M : bz_M) (f : Int → Int → Int) : Option bz_O := match st with
  | .inl b :: .inl a :: st' => if b = 0 then none else bz_nx pc L (.inl (f a b) :: st') M
  | _ => none
def bz_l2d (pc : Nat) (L : bz_Ls) (st : bz_S) (M : bz_M) (f : Int → Int → Int) : Option bz_O := match st with
  | .inr (.inl b) :: .inr (.inl a) :: st' => if b = 0 then none else bz_nx pc L (.inr (.inl (f a b)) :: st') M
  | _ => none
def bz_dup (pc : Nat) (L : bz_Ls) (st : bz_S) (M : bz_M) : Option bz_O := match st with
  | .inl a :: st' => bz_nx pc L (.inl a :: .inl a :: st') M
  | .inr (.inr a) :: st' => bz_nx pc L (.inr (.inr a) :: .inr (.inr a) :: st') M
  | _ => none
def bz_dup2 (pc : Nat) (L : bz_Ls) (st : bz_S) (M : bz_M) : Option bz_O := match st with
  | .inl b :: .inr (.inr a) :: st' => bz_nx pc L (.inl b :: .inr (.inr a) :: .inl b :: .inr (.inr a) :: st') M
  | _ => none
def bz_pop (pc : Nat) (L : bz_Ls) (st : bz_S) (M : bz_M) : Option bz_O := match st with
  | .inl _ :: st' => bz_nx pc L st' M
  | .inr (.inr _) :: st' => bz_nx pc L st' M
  | _ => none
/-- an object's first constructor: nothing -/
def bz_popr (pc : Nat) (L : bz_Ls) (st : bz_S) (M : bz_M) : Option bz_O := match st with
  | .inr (.inr r) :: st' => if r ≠ 0 ∧ bz_cat st' ≤ 8 then bz_nx pc L st' M else none
  | _ => none
def bz_br (c : ClassFile.Cond) (x y : Int) (A B : Option bz_O) : Option bz_O := match c with
  | .eq => if x = y then A else B
  | .ne => if x = y then B else A
  | .lt => if x < y then A else B
  | .ge => if x < y then B else A
  | .gt => if y < x then A else B
  | .le => if y < x then B else A
def bz_tg (pc : Nat) (o : Int) : Nat := ((pc : Int) + o).toNat
def bz_if (c : ClassFile.Cond) (t pc : Nat) (L : bz_Ls) (st : bz_S) (M : bz_M) : Option bz_O := match st with
  | .inl x :: st' => bz_br c x 0 (bz_nx t L st' M) (bz_nx pc L st' M)
  | _ => none
def bz_icmp (c : ClassFile.Cond) (t pc : Nat) (L : bz_Ls) (st : bz_S) (M : bz_M) : Option bz_O := match st with
  | .inl y :: .inl x :: st' => bz_br c x y (bz_nx t L st' M) (bz_nx pc L st' M)
  | _ => none
/-- only constants of one enum, or null, are compared -/
def bz_wd (kd : Nat → Option bz_Kd) (x : Nat) : Prop := x = 0 ∨ kd x = some (.inl 12)
def bz_acmp (kd : Nat → Option bz_Kd) (c : ACond) (t pc : Nat) (L : bz_Ls) (st : bz_S) (M : bz_M) : Option bz_O := match st with
  | .inr (.inr y) :: .inr (.inr x) :: st' => if (x = 0 ∨ kd x = some (.inl 12)) ∧ (y = 0 ∨ kd y = some (.inl 12)) then (match c with
    | .eq => if x = y then bz_nx t L st' M else bz_nx pc L st' M
    | .ne => if x = y then bz_nx pc L st' M else bz_nx t L st' M) else none
  | _ => none
def bz_ifn (t pc : Nat) (L : bz_Ls) (st : bz_S) (M : bz_M) : Option bz_O := match st with
  | .inr (.inr x) :: st' => if x = 0 then bz_nx t L st' M else bz_nx pc L st' M
  | _ => none
/-- a switch: pairs of a number and a target, and the target of all others -/
def bz_sw (ps : List (Int × Nat)) (dflt : Nat) (x : Int) (L : bz_Ls) (st : bz_S) (M : bz_M) : Option bz_O := match ps with
  | [] => bz_nx dflt L st M
  | (v, t) :: ps' => if x = v then bz_nx t L st M else bz_sw ps' dflt x L st M
def bz_tsw (pc : Nat) (dflt lo hi : Int) (offs : Array Int) (L : bz_Ls) (st : bz_S) (M : bz_M) : Option bz_O := match st with
  | .inl x :: st' => bz_sw ((List.range offs.size).map (fun (i : Nat) => (lo + (i : Int), bz_tg pc (offs.getD i 0)))) (bz_tg pc dflt) x L st' M
  | _ => none
def bz_lsw (pc : Nat) (dflt : Int) (ps : Array (Int × Int)) (L : bz_Ls) (st : bz_S) (M : bz_M) : Option bz_O := match st with
  | .inl x :: st' => bz_sw (ps.toList.map (fun q => (q.1, bz_tg pc q.2))) (bz_tg pc dflt) x L st' M
  | _ => none
/-- how many regions are there at the start: script, constants -/
def bz_ns : Nat := 121
def bz_get (kd : Nat → Option bz_Kd) (wr : Nat → Nat → Nat) (w : Bool) (i : List Nat) (pc : Nat) (L : bz_Ls) (st : bz_S) (M : bz_M) : Option bz_O := match st with
  | .inr (.inr r) :: st' => if kd r = some (.inl (i.getD 0 0)) then
      (match i.getD 2 9 with
      | 0 => bz_nx pc L (.inl (M r (i.getD 1 0)) :: st') M
      | 1 => bz_nx pc L (.inr (.inl (M r (i.getD 1 0))) :: st') M
      | 2 => bz_nx pc L (.inr (.inr (M r (i.getD 1 0)).toNat) :: st') M
      | 3 => if w = true ∧ wr r (i.getD 1 0) ≠ 0 then bz_nx pc L (.inr (.inr (wr r (i.getD 1 0))) :: st') M else none
      | _ => none) else none
  | _ => none
def bz_put (kd : Nat → Option bz_Kd) (wr : Nat → Nat → Nat) (w : Bool) (i : List Nat) (pc : Nat) (L : bz_Ls) (st : bz_S) (M : bz_M) : Option bz_O := match st with
  | v :: .inr (.inr r) :: st' => if kd r = some (.inl (i.getD 0 0)) ∧ (w = true → wr r (i.getD 1 0) = 0) then
      (match i.getD 2 9, v with
      | 0, .inl x => bz_nx pc L st' (bz_up M r (i.getD 1 0) x)
      | 4, .inl x => if x = 0 ∨ x = 1 then bz_nx pc L st' (bz_up M r (i.getD 1 0) x) else none
      | 1, .inr (.inl x) => bz_nx pc L st' (bz_up M r (i.getD 1 0) x)
      | 2, .inr (.inr x) => bz_nx pc L st' (bz_up M r (i.getD 1 0) x)
      | _, _ => none) else none
  | _ => none
def bz_ald (kd : Nat → Option bz_Kd) (ts : List Nat) (f : Int → bz_V) (pc : Nat) (L : bz_Ls) (st : bz_S) (M : bz_M) : Option bz_O := match st with
  | .inl j :: .inr (.inr r) :: st' => (match kd r with
    | some (.inr (t, n)) => if t ∈ ts then (if 0 ≤ j ∧ j < (n : Int) then bz_nx pc L (f (M r j.toNat) :: st') M else none) else none
    | _ => none)
  | _ => none
def bz_ast (kd : Nat → Option bz_Kd) (t0 : Nat) (f : bz_V → Option Int) (pc : Nat) (L : bz_Ls) (st : bz_S) (M : bz_M) : Option bz_O := match st with
  | v :: .inl j :: .inr (.inr r) :: st' => (match kd r, f v with
    | some (.inr (t, n)), some x => if t = t0 ∧ bz_ns < r then (if 0 ≤ j ∧ j < (n : Int) then bz_nx pc L st' (bz_up M r j.toNat x) else none) else none
    | _, _ => none)
  | _ => none
def bz_astA (kd : Nat → Option bz_Kd) (pc : Nat) (L : bz_Ls) (st : bz_S) (M : bz_M) : Option bz_O := match st with
  | .inr (.inr x) :: .inl j :: .inr (.inr r) :: st' => (match kd r with
    | some (.inr (5, n)) => if bz_ns < r ∧ bz_ns < x ∧ kd x = some (.inl 7) then (if 0 ≤ j ∧ j < (n : Int) then bz_nx pc L st' (bz_up M r j.toNat (x : Int)) else none) else none
    | _ => none)
  | _ => none
def bz_len (kd : Nat → Option bz_Kd) (pc : Nat) (L : bz_Ls) (st : bz_S) (M : bz_M) : Option bz_O := match st with
  | .inr (.inr r) :: st' => (match kd r with
    | some (.inr (_, n)) => bz_nx pc L (.inl (n : Int) :: st') M
    | _ => none)
  | _ => none
def bz_new (kd : Nat → Option bz_Kd) (w : Bool) (ci pc : Nat) (L : bz_Ls) (st : bz_S) (M : bz_M) : Option bz_O :=
  if w = false ∧ kd ((M 0 0).toNat + 1) = some (.inl ci) then bz_nx pc L (.inr (.inr ((M 0 0).toNat + 1)) :: st) (bz_up (bz_zero M ((M 0 0).toNat + 1)) 0 0 (((M 0 0).toNat + 1 : Nat) : Int)) else none
def bz_newa (kd : Nat → Option bz_Kd) (w : Bool) (t pc : Nat) (L : bz_Ls) (st : bz_S) (M : bz_M) : Option bz_O := match st with
  | .inl n :: st' => if w = false ∧ 0 ≤ n ∧ kd ((M 0 0).toNat + 1) = some (.inr (t, n.toNat)) then bz_nx pc L (.inr (.inr ((M 0 0).toNat + 1)) :: st') (bz_up (bz_zero M ((M 0 0).toNat + 1)) 0 0 (((M 0 0).toNat + 1 : Nat) : Int)) else none
  | _ => none
/-- the last n of a stack, the deepest first, and what lies below -/
def bz_args : Nat → bz_S → bz_S → Option (bz_S × bz_S)
  | 0, acc, st => some (acc, st)
  | n + 1, acc, v :: st => bz_args n (v :: acc) st
  | _ + 1, _, [] => none
/-- where a method's arguments lie as it begins; nL: how many slots it has -/
def bz_entry : bz_S → bz_Ls
  | [] => []
  | .inr (.inl x) :: a => some (.inr (.inl x)) :: none :: bz_entry a
  | v :: a => some v :: bz_entry a
def bz_ent (a : bz_S) (nL : Nat) : bz_Ls := bz_entry a ++ List.replicate (nL - (bz_entry a).length) none
def bz_call (m pc : Nat) (a : bz_S) (L : bz_Ls) (st : bz_S) (rk nL : Nat) : Option bz_O := if bz_cat st ≤ 8 ∧ (bz_entry a).length ≤ nL then some (.inr (.inr (m, a, pc, L, st, rk))) else none
/-- i: what is called, how many arguments, what comes back, the receiver's class, the callee's slots -/
def bz_invV (kd : Nat → Option bz_Kd) (i : List Nat) (pc : Nat) (L : bz_Ls) (st : bz_S) (M : bz_M) : Option bz_O := match bz_args (i.getD 2 0) [] st with
  | some (a, .inr (.inr r) :: st') => if kd r = some (.inl (i.getD 4 0)) then bz_call (i.getD 1 0) pc (.inr (.inr r) :: a) L st' (i.getD 3 0) (i.getD 5 0) else none
  | _ => none
def bz_invS (i : List Nat) (pc : Nat) (L : bz_Ls) (st : bz_S) : Option bz_O := match bz_args (i.getD 2 0) [] st with
  | some (a, st') => bz_call (i.getD 1 0) pc a L st' (i.getD 3 0) (i.getD 5 0)
  | _ => none
def bz_acpy (kd : Nat → Option bz_Kd) (pc : Nat) (L : bz_Ls) (st : bz_S) (M : bz_M) : Option bz_O := match st with
  | .inl n :: .inl j :: .inr (.inr b) :: .inl i :: .inr (.inr a) :: st' => (match kd a, kd b with
    | some (.inr (0, la)), some (.inr (0, lb)) => if a ≠ b ∧ bz_ns < a ∧ bz_ns < b ∧ 0 ≤ i ∧ 0 ≤ j ∧ 0 ≤ n ∧ i + n ≤ (la : Int) ∧ j + n ≤ (lb : Int) ∧ bz_cat st' ≤ 8 then bz_nx pc L st' (bz_cpy M a i.toNat b j.toNat n.toNat) else none
    | _, _ => none)
  | _ => none
/-- an index that is looked at: in range, or nothing -/
def bz_chk (pc : Nat) (L : bz_Ls) (st : bz_S) (M : bz_M) : Option bz_O := match st with
  | .inl n :: .inl j :: st' => if 0 ≤ j ∧ j < n ∧ bz_cat st' ≤ 8 then bz_nx pc L st' M else none
  | _ => none
def bz_ret (rt : Nat) (st : bz_S) (M : bz_M) : Option bz_O := match rt, st with
  | 0, [] => some (.inl (none, M))
  | 1, [.inl x] => some (.inl (some (.inl x), M))
  | 4, [.inl x] => if x = 0 ∨ x = 1 then some (.inl (some (.inl x), M)) else none
  | 5, [.inl x] => if 0 ≤ x ∧ x < 65536 then some (.inl (some (.inl x), M)) else none
  | 6, [.inl x] => if -128 ≤ x ∧ x < 128 then some (.inl (some (.inl x), M)) else none
  | 2, [.inr (.inl x)] => some (.inl (some (.inr (.inl x)), M))
  | 3, [.inr (.inr x)] => some (.inl (some (.inr (.inr x)), M))
  | _, _ => none
def bz_asI (v : bz_V) : Option Int := match v with
  | .inl x => some x
  | _ => none
def bz_asB (v : bz_V) : Option Int := match v with
  | .inl x => some (bz_w8 x)
  | _ => none
def bz_asZ (v : bz_V) : Option Int := match v with
  | .inl x => if x = 0 ∨ x = 1 then some x else none
  | _ => none
def bz_asC (v : bz_V) : Option Int := match v with
  | .inl x => if 0 ≤ x ∧ x < 65536 then some x else none
  | _ => none
def bz_asL (v : bz_V) : Option Int := match v with
  | .inr (.inl x) => some x
  | _ => none
/-- one instruction: kd: what the regions are; wr: references that never change; w: they stand; rt: what the method gives -/
def bz_step (kd : Nat → Option bz_Kd) (wr : Nat → Nat → Nat) (w : Bool) (rt : Nat) (e : bz_E) (p : Nat) (L0 : bz_Ls) (st : bz_S) (M : bz_M) : Option bz_O :=
  (fun (L : bz_Ls) (pc : Nat) (i : List Nat) => match e.1 with
  | .aload_n k => bz_ldA pc L st M k.val
  | .aload k => bz_ldA pc L st M k
  | .iload_n k => bz_ldI pc L st M k.val
  | .iload k => bz_ldI pc L st M k
  | .lload_n k => bz_ldL pc L st M k.val
  | .lload k => bz_ldL pc L st M k
  | .astore_n k => bz_stA pc L st M k.val
  | .astore k => bz_stA pc L st M k
  | .istore_n k => bz_stI pc L st M k.val
  | .istore k => bz_stI pc L st M k
  | .lstore_n k => bz_stL pc L st M k.val
  | .lstore k => bz_stL pc L st M k
  | .iinc k n => bz_inc pc L st M k n
  | .iconst n => bz_nx pc L (.inl n :: st) M
  | .bipush n => bz_nx pc L (.inl n :: st) M
  | .sipush n => bz_nx pc L (.inl n :: st) M
  | .lconst n => bz_nx pc L (.inr (.inl (n.val : Int)) :: st) M
  | .ldc _ => bz_nx pc L (.inl e.2.2.2.1 :: st) M
  | .ldc_w _ => bz_nx pc L (.inl e.2.2.2.1 :: st) M
  | .ldc2_w _ => bz_nx pc L (.inr (.inl e.2.2.2.1) :: st) M
  | .aconst_null => bz_nx pc L (.inr (.inr 0) :: st) M
  | .getstatic _ => if i.getD 1 0 = 1 then bz_nx pc L (.inl e.2.2.2.1 :: st) M else bz_nx pc L (.inr (.inr (i.getD 0 0)) :: st) M
  | .getfield _ => bz_get kd wr w i pc L st M
  | .putfield _ => bz_put kd wr w i pc L st M
  | .iaload => bz_ald kd [0] (fun x => .inl x) pc L st M
  | .baload => bz_ald kd [2, 3] (fun x => .inl x) pc L st M
  | .caload => bz_ald kd [4] (fun x => .inl x) pc L st M
  | .laload => bz_ald kd [1] (fun x => .inr (.inl x)) pc L st M
  | .aaload => bz_ald kd [5, 6] (fun x => .inr (.inr x.toNat)) pc L st M
  | .iastore => bz_ast kd 0 bz_asI pc L st M
  | .bastore => if i.getD 0 0 = 3 then bz_ast kd 3 bz_asZ pc L st M else bz_ast kd 2 bz_asB pc L st M
  | .castore => bz_ast kd 4 bz_asC pc L st M
  | .lastore => bz_ast kd 1 bz_asL pc L st M
  | .aastore => bz_astA kd pc L st M
  | .arraylength => bz_len kd pc L st M
  | .iadd => bz_i2 pc L st M (fun a b => bz_w32 (a + b))
  | .isub => bz_i2 pc L st M (fun a b => bz_w32 (a - b))
  | .imul => bz_i2 pc L st M (fun a b => bz_w32 (a * b))
  | .idiv => bz_i2d pc L st M (fun a b => bz_w32 (a.tdiv b))
  | .irem => bz_i2d pc L st M (fun a b => a.tmod b)
  | .ineg => bz_i1 pc L st M (fun a => .inl (bz_w32 (-a)))
  | .iand => bz_i2 pc L st M bz_and
  | .ior => bz_i2 pc L st M bz_or
  | .ixor => bz_i2 pc L st M bz_xor
  | .ishl => bz_i2 pc L st M bz_shl
  | .ishr => bz_i2 pc L st M bz_shr
  | .iushr => bz_i2 pc L st M bz_ushr
  | .ladd => bz_l2 pc L st M (fun a b => .inr (.inl (bz_w64 (a + b))))
  | .lsub => bz_l2 pc L st M (fun a b => .inr (.inl (bz_w64 (a - b))))
  | .lmul => bz_l2 pc L st M (fun a b => .inr (.inl (bz_w64 (a * b))))
  | .ldiv => bz_l2d pc L st M (fun a b => bz_w64 (a.tdiv b))
  | .lrem => bz_l2d pc L st M (fun a b => a.tmod b)
  | .land => bz_l2 pc L st M (fun a b => .inr (.inl (bz_land a b)))
  | .lor => bz_l2 pc L st M (fun a b => .inr (.inl (bz_lor a b)))
  | .lcmp => bz_l2 pc L st M (fun a b => .inl (bz_lcmp a b))
  | .i2l => bz_i1 pc L st M (fun a => .inr (.inl a))
  | .l2i => bz_l1 pc L st M (fun a => .inl (bz_w32 a))
  | .i2b => bz_i1 pc L st M (fun a => .inl (bz_w8 a))
  | .i2c => bz_i1 pc L st M (fun a => .inl (a % 65536))
  | .dup => bz_dup pc L st M
  | .dup2 => bz_dup2 pc L st M
  | .pop => bz_pop pc L st M
  | .ifCond c o => bz_if c (bz_tg p o) pc L st M
  | .if_icmp c o => bz_icmp c (bz_tg p o) pc L st M
  | .if_acmp c o => bz_acmp kd c (bz_tg p o) pc L st M
  | .ifnull o => bz_ifn (bz_tg p o) pc L st M
  | .goto o => bz_nx (bz_tg p o) L st M
  | .tableswitch d lo hi os => bz_tsw p d lo hi os L st M
  | .lookupswitch d ps => bz_lsw p d ps L st M
  | .ireturn => bz_ret rt st M
  | .lreturn => bz_ret rt st M
  | .areturn => bz_ret rt st M
  | .return_ => bz_ret rt st M
  | .new _ => bz_new kd w (i.getD 0 0) pc L st M
  | .newarray _ => bz_newa kd w (i.getD 0 0) pc L st M
  | .anewarray _ => bz_newa kd w (i.getD 0 0) pc L st M
  | .invokevirtual _ => bz_invV kd i pc L st M
  | .invokestatic _ => if i.getD 0 0 = 2 then bz_acpy kd pc L st M else if i.getD 0 0 = 5 then bz_chk pc L st M else bz_invS i pc L st
  | .invokespecial _ => if i.getD 0 0 = 1 then bz_popr pc L st M else bz_invV kd i pc L st M
  | _ => none) (bz_fg e.2.2.2.2 L0) (p + e.2.1) e.2.2.1
/-- what came back, on the stack -/
def bz_back (rk : Nat) (v : Option bz_V) (st : bz_S) : Option bz_S := match rk, v with
  | 0, none => some st
  | 1, some (.inl x) => some (.inl x :: st)
  | 2, some (.inr (.inl x)) => some (.inr (.inl x) :: st)
  | 3, some (.inr (.inr x)) => some (.inr (.inr x) :: st)
  | _, _ => none
/-- a program: kd, wr, w; of a method its rows, its slots, what it gives -/
abbrev bz_P : Type := (Nat → Option bz_Kd) × (Nat → Nat → Nat) × Bool × (Nat → Nat → Option bz_E) × (Nat → Nat) × (Nat → Nat)
def bz_run (P : bz_P) : Nat → Nat → Nat → Nat → bz_Ls → bz_S → bz_M → Option (Option bz_V × bz_M)
  | 0, _, _, _, _, _, _ => none
  | f + 1, d, m, pc, L, st, M => match P.2.2.2.1 m pc with
    | none => none
    | some e => match bz_step P.1 P.2.1 P.2.2.1 (P.2.2.2.2.2 m) e pc L st M with
      | none => none
      | some (.inl r) => some r
      | some (.inr (.inl (pc', L', st', M'))) => bz_run P f d m pc' L' st' M'
      | some (.inr (.inr (m', a, pc', L', st', rk))) => match d with
        | 0 => none
        | d' + 1 => match bz_run P f d' m' 0 (bz_ent a (P.2.2.2.2.1 m')) [] M with
          | none => none
          | some (v, M') => match bz_back rk v st' with
            | none => none
            | some st'' => bz_run P f (d' + 1) m pc' L' st'' M'

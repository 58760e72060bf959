/-! WHAT NEVER CHANGES (constants, script), AND THE INSTRUCTIONS THAT TOUCH THE HEAP -/
abbrev bz_Sc : Type := Nat → Option (String × (Nat → String × String × String) × Nat)
def bz_sty (t : Nat) : FieldType := match t with
  | 0 => .int
  | 1 => .long
  | 2 => .byte
  | 3 => .boolean
  | 4 => .char
  | 5 => .object "BentRiver$State"
  | _ => .object "BentRiver$Word"
def bz_tys (cA : Nat → ClassId) : List (ClassId × FieldType) := [(cA 0, .int), (cA 1, .long), (cA 2, .byte), (cA 3, .boolean), (cA 4, .char), (cA 5, .object "BentRiver$State")]
def bz_St (A : Nat → Prop) (kd : Nat → Option bz_Kd) (tc : Nat → Nat → Nat) (sM : bz_M) (sf : List (String × String × String × bz_V)) (sc : bz_Sc) (ad : Nat → Nat) (U : State) (H : Heap) : Prop :=
  (∀ q ∈ sf, va_Z q.1 q.2.1 q.2.2.1 (bz_mv ad q.2.2.2) A U H) ∧
  (∀ r t n, r ≠ 0 → r ≤ bz_ns → kd r = some (.inr (t, n)) → va_T (bz_sty t) (ad r) n (fun j => bz_val ad (if t = 6 then 2 else 0) (sM r j)) A U H) ∧
  (∀ r ci, r ≠ 0 → r ≤ bz_ns → kd r = some (.inl ci) → ∃ q, sc ci = some q ∧ va_O q.1 (ad r) A U H ∧ ∀ k, k < q.2.2 → va_OF (q.2.1 k).1 (q.2.1 k).2.1 (q.2.1 k).2.2 (bz_val ad (tc ci k) (sM r k)) (ad r) A U H) ∧
  (∀ r r', r ≠ 0 → r ≤ bz_ns → kd r = some (.inl 12) → r' ≠ 0 → r' ≤ bz_ns → kd r' = some (.inl 12) → ad r = ad r' → r = r')
theorem bz_St.moved {A : Nat → Prop} {kd : Nat → Option bz_Kd} {tc : Nat → Nat → Nat} {sM : bz_M} {sf : List (String × String × String × bz_V)} {sc : bz_Sc} {ad : Nat → Nat} {u U : State} {H : Heap} (hvm : u.vm.Alike U.vm) (h : bz_St A kd tc sM sf sc ad u H) : bz_St A kd tc sM sf sc ad U H := by
  obtain ⟨h1, h2, h3, h4⟩ := h
  refine ⟨fun q hq => (h1 q hq).moved hvm, fun r t n a b c => (h2 r t n a b c).moved hvm, fun r ci a b c => ?_, h4⟩
  obtain ⟨q, g1, g2, g3⟩ := h3 r ci a b c
  exact ⟨q, g1, g2.moved hvm, fun k hk => (g3 k hk).moved hvm⟩
theorem bz_St.kept {A : Nat → Prop} {kd : Nat → Option bz_Kd} {tc : Nat → Nat → Nat} {sM : bz_M} {sf : List (String × String × String × bz_V)} {sc : bz_Sc} {ad : Nat → Nat} {U : State} {H H1 : Heap} (h : bz_St A kd tc sM sf sc ad U H) (hq : ∀ a : Nat, a < H.size → ¬ A a → H1[a]? = H[a]?) : bz_St A kd tc sM sf sc ad U H1 := by
  obtain ⟨h1, h2, h3, h4⟩ := h
  refine ⟨fun q hq' => (h1 q hq').kept hq, fun r t n a b c => (h2 r t n a b c).kept hq, fun r ci a b c => ?_, h4⟩
  obtain ⟨q, g1, g2, g3⟩ := h3 r ci a b c
  exact ⟨q, g1, g2.kept hq, fun k hk => (g3 k hk).kept hq⟩
section MM
variable {p : Program} {l : Launch} {e : Env} {R : Room} {s : State} {m : MethodId} {args : Array Value} {below : List Frame} {meth : Method} {c : Code} {H : Heap} {locs : List Loc} {cells slots : Nat} {Q : State → Prop}
variable {cc : ByteArray} {pc : Nat} {ls : Array Slot} {rest : List Value} {D : va_G} {cl : List vw_C} {A : Nat → Prop} {H0 : Heap}
variable {kd : Nat → Option bz_Kd} {tc : Nat → Nat → Nat} {nf : Nat → Nat} {cA : Nat → ClassId} {ad : Nat → Nat} {M : bz_M} {Ts : List Cond}
theorem bz_Wget {own C : String} {T : u_T} {n r ci k idx : Nat} (hx : p.tables.exec = Jvm.exec) (hb : c.code = cc) (hts : ∀ w ∈ Ts, w.before args s = true) (hown : s.vm.findClass own = some m.cls) (hK : va_K D cl (bz_tys cA) s) (hP : va_P D cl (bz_ws kd tc nf cA ad M) H)
    (hk : kd r = some (.inl ci)) (h1 : bz_ns < r) (h2 : r ≤ bz_Nn M) (hc : cl[ci]? = some (C, T, n)) (hin : ∀ w ∈ u_ws C T n, w ∈ Ts) (hkn : k < n) (hnf : nf ci = n) (hl : Cond.fieldLink own idx (T k).1 (T k).2.1 (T k).2.2.1 ∈ Ts) (hdg : decode cc pc = .ok (.getfield idx, 3))
    (kk : W p l e R s m args below meth c H locs cells slots Q (F0 m (pc + 3) ls (bz_val ad (tc ci k) (M r k) :: rest))) : W p l e R s m args below meth c H locs cells slots Q (F0 m pc ls (.ref (ad r) :: rest)) := by
  refine va_get hx hb hts hin hown hK hP (r - bz_ns - 1) (by rw [bz_ws_get h1 h2, bz_cell_obj hk]) hc k hkn (hts _ hl) (fun _ h => h) ?_ hdg kk
  rw [List.getElem?_map, List.getElem?_range (by rw [hnf]; exact hkn)]
  rfl
theorem bz_Wput {own C : String} {T : u_T} {n r ci k idx : Nat} {x : Int} (hx : p.tables.exec = Jvm.exec) (hb : c.code = cc) (hts : ∀ w ∈ Ts, w.before args s = true) (hown : s.vm.findClass own = some m.cls) (hK : va_K D cl (bz_tys cA) s) (hP : va_P D cl (bz_ws kd tc nf cA ad M) H) (hD : va_D A (bz_ws kd tc nf cA ad M)) (hS : va_S A H0 H locs)
    (hk : kd r = some (.inl ci)) (h1 : bz_ns < r) (h2 : r ≤ bz_Nn M) (hc : cl[ci]? = some (C, T, n)) (hin : ∀ w ∈ u_ws C T n, w ∈ Ts) (ty0 : Nat → FieldType) (hty : ∀ k, k < n → parseFieldDescriptor (T k).2.2.1 = some (ty0 k)) (hnm : ∀ a, a < n → ∀ b, b < n → a ≠ b → (T a).2.1 ≠ (T b).2.1) (hkn : k < n) (hnf : nf ci = n) (hl : Cond.fieldLink own idx (T k).1 (T k).2.1 (T k).2.2.1 ∈ Ts)
    (hfin : (T k).2.2.2 = false ∨ (meth.name = "<init>" ∧ (T k).1 = own)) (hn : narrow (ty0 k) (bz_val ad (tc ci k) x) = bz_val ad (tc ci k) x) (hft : fits (ty0 k) (bz_val ad (tc ci k) x) = true) (hdg : decode cc pc = .ok (.putfield idx, 3))
    (kk : ∀ (H1 : Heap) (locs1 : List Loc), va_P D cl (bz_ws kd tc nf cA ad (bz_up M r k x)) H1 → va_D A (bz_ws kd tc nf cA ad (bz_up M r k x)) → va_S A H0 H1 locs1 → W p l e R s m args below meth c H1 locs1 cells slots Q (F0 m (pc + 3) ls rest)) : W p l e R s m args below meth c H locs cells slots Q (F0 m pc ls (bz_val ad (tc ci k) x :: .ref (ad r) :: rest)) := by
  have he : (bz_ws kd tc nf cA ad M)[r - bz_ns - 1]? = some (ad r, .inr (ci, (List.range (nf ci)).map fun k => bz_val ad (tc ci k) (M r k))) := by rw [bz_ws_get h1 h2, bz_cell_obj hk]
  have hll : k < ((List.range (nf ci)).map fun k => bz_val ad (tc ci k) (M r k)).length := by simp; omega
  have kk' : ∀ (H1 : Heap) (locs1 : List Loc), va_P D cl ((bz_ws kd tc nf cA ad M).set (r - bz_ns - 1) (ad r, .inr (ci, ((List.range (nf ci)).map fun k => bz_val ad (tc ci k) (M r k)).set k (bz_val ad (tc ci k) x)))) H1 → va_D A ((bz_ws kd tc nf cA ad M).set (r - bz_ns - 1) (ad r, .inr (ci, ((List.range (nf ci)).map fun k => bz_val ad (tc ci k) (M r k)).set k (bz_val ad (tc ci k) x)))) → va_S A H0 H1 locs1 → W p l e R s m args below meth c H1 locs1 cells slots Q (F0 m (pc + 3) ls rest) := by
    rw [← bz_cell_upo hk, ← bz_ws_up h1 h2]
    exact kk
  rcases hfin with hfin | ⟨hi1, hi2⟩
  · exact va_put hx hb hts hin ty0 hty hnm hown hK hP hD hS (r - bz_ns - 1) he hc k hkn (hts _ hl) (fun _ h => h) hfin (hty k hkn) hn hft hll hdg kk'
  · by_cases hf : (T k).2.2.2 = true
    · exact va_putF hx hb hts hin ty0 hty hnm hown hK hP hD hS (r - bz_ns - 1) he hc k hkn (hts _ hl) (fun _ h => h) hf hi1 hi2 (hty k hkn) hn hft hll hdg kk'
    · exact va_put hx hb hts hin ty0 hty hnm hown hK hP hD hS (r - bz_ns - 1) he hc k hkn (hts _ hl) (fun _ h => h) (by simpa using hf) (hty k hkn) hn hft hll hdg kk'
theorem bz_ws_arr {r t n : Nat} (hk : kd r = some (.inr (t, n))) (h1 : bz_ns < r) (h2 : r ≤ bz_Nn M) : (bz_ws kd tc nf cA ad M)[r - bz_ns - 1]? = some (ad r, .inl (cA t, bz_con ad t n (M r))) := by rw [bz_ws_get h1 h2, bz_cell_arr hk]
theorem bz_ws_arrI {r t n : Nat} (hk : kd r = some (.inr (t, n))) (h1 : bz_ns < r) (h2 : r ≤ bz_Nn M) (t1 : t ≠ 1) (t5 : t ≠ 5) : (bz_ws kd tc nf cA ad M)[r - bz_ns - 1]? = some (ad r, .inl (cA t, n, .inl (fun j => Int32.ofInt (M r j)))) := by rw [bz_ws_arr hk h1 h2, bz_conI t1 t5]
theorem bz_ws_arrL {r n : Nat} (hk : kd r = some (.inr (1, n))) (h1 : bz_ns < r) (h2 : r ≤ bz_Nn M) : (bz_ws kd tc nf cA ad M)[r - bz_ns - 1]? = some (ad r, .inl (cA 1, n, .inr (.inl (fun j => Int64.ofInt (M r j))))) := by rw [bz_ws_arr hk h1 h2]; rfl
theorem bz_ws_arrA {r n : Nat} (hk : kd r = some (.inr (5, n))) (h1 : bz_ns < r) (h2 : r ≤ bz_Nn M) : (bz_ws kd tc nf cA ad M)[r - bz_ns - 1]? = some (ad r, .inl (cA 5, n, .inr (.inr (.inr (.inr fun j => if (M r j).toNat = 0 then none else some (ad (M r j).toNat)))))) := by rw [bz_ws_arr hk h1 h2]; rfl
/-- a store in a row of int kind, as the world has it -/
theorem bz_ws_upI {r t n k : Nat} {x : Int} (hk : kd r = some (.inr (t, n))) (h1 : bz_ns < r) (h2 : r ≤ bz_Nn M) (t1 : t ≠ 1) (t5 : t ≠ 5) : bz_ws kd tc nf cA ad (bz_up M r k x) = (bz_ws kd tc nf cA ad M).set (r - bz_ns - 1) (ad r, .inl (cA t, n, .inl (upd (fun j => Int32.ofInt (M r j)) k (Int32.ofInt x)))) := by
  rw [bz_ws_up h1 h2, bz_cell_arr hk, bz_up_at, bz_con_upI t1 t5]
theorem bz_ws_upL {r n k : Nat} {x : Int} (hk : kd r = some (.inr (1, n))) (h1 : bz_ns < r) (h2 : r ≤ bz_Nn M) : bz_ws kd tc nf cA ad (bz_up M r k x) = (bz_ws kd tc nf cA ad M).set (r - bz_ns - 1) (ad r, .inl (cA 1, n, .inr (.inl (vp_updL (fun j => Int64.ofInt (M r j)) k (Int64.ofInt x))))) := by
  rw [bz_ws_up h1 h2, bz_cell_arr hk, bz_up_at, bz_con_upL]
theorem bz_ws_upA {r n k v : Nat} (hv : v ≠ 0) (hk : kd r = some (.inr (5, n))) (h1 : bz_ns < r) (h2 : r ≤ bz_Nn M) : bz_ws kd tc nf cA ad (bz_up M r k (v : Int)) = (bz_ws kd tc nf cA ad M).set (r - bz_ns - 1) (ad r, .inl (cA 5, n, .inr (.inr (.inr (.inr (va_up (fun j => if (M r j).toNat = 0 then none else some (ad (M r j).toNat)) k (some (ad v)))))))) := by
  rw [bz_ws_up h1 h2, bz_cell_arr hk, bz_up_at, bz_con_upA hv]
theorem bz_cpy_r (M : bz_M) {a i b j n r : Nat} (h : r ≠ b) : bz_cpy M a i b j n r = M r := by simp [bz_cpy, h]
theorem bz_ws_cpy {a i b j n la lb : Nat} (ha : kd a = some (.inr (0, la))) (hb : kd b = some (.inr (0, lb))) (hb1 : bz_ns < b) (hb2 : b ≤ bz_Nn M) : bz_ws kd tc nf cA ad (bz_cpy M a i b j n) = (bz_ws kd tc nf cA ad M).set (b - bz_ns - 1) (ad b, .inl (cA 0, lb, .inl (va_cpy (fun j => Int32.ofInt (M a j)) (fun j => Int32.ofInt (M b j)) i j n))) := by
  have hN : bz_Nn (bz_cpy M a i b j n) = bz_Nn M := by unfold bz_Nn; rw [bz_cpy_r M (by omega)]
  apply List.ext_getElem?
  intro q
  by_cases hj : q < bz_Nn M - bz_ns
  · have g1 := bz_ws_get (kd := kd) (tc := tc) (nf := nf) (cA := cA) (ad := ad) (M := bz_cpy M a i b j n) (r := bz_ns + 1 + q) (by omega) (by rw [hN]; omega)
    rw [show bz_ns + 1 + q - bz_ns - 1 = q by omega] at g1
    rw [g1]
    by_cases e : q = b - bz_ns - 1
    · rw [e, List.getElem?_set_self (by rw [bz_ws_len]; omega)]
      rw [show bz_ns + 1 + (b - bz_ns - 1) = b by omega, bz_cell_arr hb, bz_conI (by decide) (by decide)]
      have hf : (fun z => Int32.ofInt (bz_cpy M a i b j n b z)) = va_cpy (fun j => Int32.ofInt (M a j)) (fun j => Int32.ofInt (M b j)) i j n := by
        funext z
        simp only [bz_cpy, va_cpy, if_true]
        split <;> rfl
      rw [hf]
    · rw [List.getElem?_set_ne (Ne.symm e)]
      have g2 := bz_ws_get (kd := kd) (tc := tc) (nf := nf) (cA := cA) (ad := ad) (M := M) (r := bz_ns + 1 + q) (by omega) (by omega)
      rw [show bz_ns + 1 + q - bz_ns - 1 = q by omega] at g2
      rw [g2]
      unfold bz_cell
      rw [bz_cpy_r M (show bz_ns + 1 + q ≠ b by omega)]
  · rw [List.getElem?_eq_none (by rw [bz_ws_len, hN]; omega), List.getElem?_eq_none (by rw [List.length_set, bz_ws_len]; omega)]
end MM

/-! WHAT THE SMALL MACHINE'S REGIONS ARE IN THE HEAP -/
def bz_val (ad : Nat → Nat) (t : Nat) (x : Int) : Value := match t with
  | 1 => .long (Int64.ofInt x)
  | 2 => if x.toNat = 0 then .null else .ref (ad x.toNat)
  | _ => .int (Int32.ofInt x)
def bz_mv (ad : Nat → Nat) (v : bz_V) : Value := match v with
  | .inl x => .int (Int32.ofInt x)
  | .inr (.inl x) => .long (Int64.ofInt x)
  | .inr (.inr n) => if n = 0 then .null else .ref (ad n)
def bz_con (ad : Nat → Nat) (t n : Nat) (m : Nat → Int) : vp_A := (n, match t with
  | 1 => .inr (.inl fun j => Int64.ofInt (m j))
  | 5 => .inr (.inr (.inr (.inr fun j => if (m j).toNat = 0 then none else some (ad (m j).toNat))))
  | _ => .inl fun j => Int32.ofInt (m j))
def bz_Nn (M : bz_M) : Nat := (M 0 0).toNat
section W0
variable (kd : Nat → Option bz_Kd) (tc : Nat → Nat → Nat) (nf : Nat → Nat) (cA : Nat → ClassId) (ad : Nat → Nat)
def bz_cell (M : bz_M) (r : Nat) : va_E := match kd r with
  | some (.inl ci) => .inr (ci, (List.range (nf ci)).map fun k => bz_val ad (tc ci k) (M r k))
  | some (.inr (t, n)) => .inl (cA t, bz_con ad t n (M r))
  | none => .inr (0, [])
def bz_ws (M : bz_M) : va_W := (List.range (bz_Nn M - bz_ns)).map fun j => (ad (bz_ns + 1 + j), bz_cell kd tc nf cA ad M (bz_ns + 1 + j))
end W0
section W1
variable {kd : Nat → Option bz_Kd} {tc : Nat → Nat → Nat} {nf : Nat → Nat} {cA : Nat → ClassId} {ad : Nat → Nat} {M : bz_M}
theorem bz_ws_len : (bz_ws kd tc nf cA ad M).length = bz_Nn M - bz_ns := by simp [bz_ws]
theorem bz_ws_get {r : Nat} (h1 : bz_ns < r) (h2 : r ≤ bz_Nn M) : (bz_ws kd tc nf cA ad M)[r - bz_ns - 1]? = some (ad r, bz_cell kd tc nf cA ad M r) := by
  have e : bz_ns + 1 + (r - bz_ns - 1) = r := by omega
  simp only [bz_ws, List.getElem?_map, List.getElem?_range (show r - bz_ns - 1 < bz_Nn M - bz_ns by omega), Option.map_some, e]
theorem bz_ws_at {j : Nat} {q : Nat × va_E} (h : (bz_ws kd tc nf cA ad M)[j]? = some q) : bz_ns + 1 + j ≤ bz_Nn M ∧ q = (ad (bz_ns + 1 + j), bz_cell kd tc nf cA ad M (bz_ns + 1 + j)) := by
  have hl := (List.getElem?_eq_some_iff.mp h).1
  rw [bz_ws_len] at hl
  refine ⟨by omega, ?_⟩
  have h2 := bz_ws_get (kd := kd) (tc := tc) (nf := nf) (cA := cA) (ad := ad) (M := M) (r := bz_ns + 1 + j) (by omega) (by omega)
  rw [show bz_ns + 1 + j - bz_ns - 1 = j by omega] at h2
  exact Option.some.inj (h.symm.trans h2)
theorem bz_up_same (M : bz_M) (r k : Nat) (v : Int) : bz_up M r k v r k = v := by simp [bz_up]
theorem bz_up_r (M : bz_M) {r r' : Nat} (k : Nat) (v : Int) (h : r' ≠ r) : bz_up M r k v r' = M r' := by simp [bz_up, h]
theorem bz_up_k (M : bz_M) (r : Nat) {k k' : Nat} (v : Int) (h : k' ≠ k) : bz_up M r k v r k' = M r k' := by simp [bz_up, h]
theorem bz_up_at (M : bz_M) (r k : Nat) (v : Int) : bz_up M r k v r = fun k' => if k' = k then v else M r k' := by simp [bz_up]
theorem bz_Nn_up {r k : Nat} {v : Int} (h : r ≠ 0) : bz_Nn (bz_up M r k v) = bz_Nn M := by
  unfold bz_Nn
  rw [bz_up_r M k v (Ne.symm h)]
theorem bz_ws_up {r k : Nat} {v : Int} (h1 : bz_ns < r) (h2 : r ≤ bz_Nn M) : bz_ws kd tc nf cA ad (bz_up M r k v) = (bz_ws kd tc nf cA ad M).set (r - bz_ns - 1) (ad r, bz_cell kd tc nf cA ad (bz_up M r k v) r) := by
  apply List.ext_getElem?
  intro j
  have hr : r ≠ 0 := by omega
  by_cases hj : j < bz_Nn M - bz_ns
  · have g1 := bz_ws_get (kd := kd) (tc := tc) (nf := nf) (cA := cA) (ad := ad) (M := bz_up M r k v) (r := bz_ns + 1 + j) (by omega) (by rw [bz_Nn_up hr]; omega)
    rw [show bz_ns + 1 + j - bz_ns - 1 = j by omega] at g1
    rw [g1]
    by_cases e : j = r - bz_ns - 1
    · rw [e, List.getElem?_set_self (by rw [bz_ws_len]; omega)]
      rw [show bz_ns + 1 + (r - bz_ns - 1) = r by omega]
    · rw [List.getElem?_set_ne (Ne.symm e)]
      have g2 := bz_ws_get (kd := kd) (tc := tc) (nf := nf) (cA := cA) (ad := ad) (M := M) (r := bz_ns + 1 + j) (by omega) (by omega)
      rw [show bz_ns + 1 + j - bz_ns - 1 = j by omega] at g2
      rw [g2]
      unfold bz_cell
      rw [bz_up_r M k v (show bz_ns + 1 + j ≠ r by omega)]
  · rw [List.getElem?_eq_none (by rw [bz_ws_len, bz_Nn_up hr]; omega), List.getElem?_eq_none (by rw [List.length_set, bz_ws_len]; omega)]
theorem bz_cell_obj {r ci : Nat} (h : kd r = some (.inl ci)) : bz_cell kd tc nf cA ad M r = .inr (ci, (List.range (nf ci)).map fun k => bz_val ad (tc ci k) (M r k)) := by
  unfold bz_cell; rw [h]
theorem bz_cell_arr {r t n : Nat} (h : kd r = some (.inr (t, n))) : bz_cell kd tc nf cA ad M r = .inl (cA t, bz_con ad t n (M r)) := by
  unfold bz_cell; rw [h]
theorem bz_cell_upo {r ci k : Nat} {v : Int} (h : kd r = some (.inl ci)) : bz_cell kd tc nf cA ad (bz_up M r k v) r = .inr (ci, ((List.range (nf ci)).map fun k => bz_val ad (tc ci k) (M r k)).set k (bz_val ad (tc ci k) v)) := by
  rw [bz_cell_obj h]
  congr 2
  apply List.ext_getElem?
  intro j
  by_cases hj : j < nf ci
  · by_cases e : j = k
    · subst e
      rw [List.getElem?_set_self (by simpa using hj)]
      simp [List.getElem?_range hj, bz_up_same]
    · rw [List.getElem?_set_ne (Ne.symm e)]
      simp [List.getElem?_range hj, bz_up_k M r v e]
  · rw [List.getElem?_eq_none (by simpa using hj), List.getElem?_eq_none (by simpa using hj)]
theorem bz_con_upI {t n k : Nat} {v : Int} {m : Nat → Int} (h1 : t ≠ 1) (h5 : t ≠ 5) : bz_con ad t n (fun k' => if k' = k then v else m k') = (n, .inl (upd (fun j => Int32.ofInt (m j)) k (Int32.ofInt v))) := by
  unfold bz_con
  congr 1
  split
  · exact absurd rfl h1
  · exact absurd rfl h5
  · congr 1
    funext j
    unfold upd
    by_cases e : j = k <;> simp [e]
theorem bz_con_upL {n k : Nat} {v : Int} {m : Nat → Int} : bz_con ad 1 n (fun k' => if k' = k then v else m k') = (n, .inr (.inl (vp_updL (fun j => Int64.ofInt (m j)) k (Int64.ofInt v)))) := by
  show (n, Sum.inr (Sum.inl _)) = _
  congr 3
  funext j
  unfold vp_updL
  by_cases e : j = k <;> simp [e]
theorem bz_con_upA {n k v : Nat} (hv : v ≠ 0) {m : Nat → Int} : bz_con ad 5 n (fun k' => if k' = k then (v : Int) else m k') = (n, .inr (.inr (.inr (.inr (va_up (fun j => if (m j).toNat = 0 then none else some (ad (m j).toNat)) k (some (ad v))))))) := by
  show (n, Sum.inr (Sum.inr (Sum.inr (Sum.inr _)))) = _
  congr 5
  funext j
  unfold va_up
  by_cases e : j = k <;> simp [e, hv]
theorem bz_conI {t n : Nat} {m : Nat → Int} (h1 : t ≠ 1) (h5 : t ≠ 5) : bz_con ad t n m = (n, .inl (fun j => Int32.ofInt (m j))) := by
  unfold bz_con
  congr 1
  split
  · exact absurd rfl h1
  · exact absurd rfl h5
  · rfl
end W1

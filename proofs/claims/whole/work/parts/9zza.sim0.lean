/-! BEHIND THE CONSTRUCTORS: Sim, and the references that never change -/
def zWa : zW := zW2 ++ zW1
def zr (r k : Nat) : Int := (zg zWa r k).getD 0
theorem zr_0 : ∀ {W : zW} {r : Nat} (k : Nat), W.all (fun q => !(Nat.beq q.1 r)) = true → zg W r k = none
  | [], _, _, _ => rfl
  | q :: W, r, k, h => by
    rw [List.all_cons, Bool.and_eq_true] at h
    unfold zg
    have h1 : Nat.beq q.1 r = false := by
      cases hb : Nat.beq q.1 r with
      | true => rw [hb] at h; cases h.1
      | false => rfl
    rw [h1]
    exact zr_0 k h.2
theorem sM_0 {xs : Nat → Int32} {r k : Nat} (h : bz_ns < r) : bz_sM xs r k = 0 := by
  have h' : 121 < r := h
  unfold bz_sM
  rw [if_neg (by omega)]
  have : bz_sml.getD r [] = [] := by
    rw [List.getD_eq_getElem?_getD, List.getElem?_eq_none (by have : bz_sml.length = 122 := by decide +kernel
                                                              omega)]
    rfl
  rw [this]
  rfl
section ZI
variable {xs : Nat → Int32} {M : bz_M}
def zM (xs : Nat → Int32) : bz_M := mm (bz_sM xs) 411 zWa
theorem zM_r {r k : Nat} (h : 121 < r) : zM xs r k = zr r k := by
  unfold zM zr
  rw [mm_r (by omega), sM_0 h]
theorem zM_0 {r k : Nat} (h : 121 < r) (h0 : zWa.all (fun q => !(Nat.beq q.1 r)) = true) : zM xs r k = 0 := by
  rw [zM_r h]
  unfold zr
  rw [zr_0 k h0]
  rfl
theorem zW_lo : zWa.all (fun q => Nat.blt 121 q.1) = true := by decide +kernel
theorem zg_lo : ∀ {W : zW} {r k : Nat}, W.all (fun q => Nat.blt 121 q.1) = true → r ≤ 121 → zg W r k = none
  | [], _, _, _, _ => rfl
  | q :: W, r, k, h, hr => by
    rw [List.all_cons, Bool.and_eq_true] at h
    unfold zg
    have h2 : 121 < q.1 := Nat.le_of_ble_eq_true h.1
    cases hb : Nat.beq q.1 r && Nat.beq q.2.1 k with
    | true =>
      rw [Bool.and_eq_true] at hb
      have := Nat.eq_of_beq_eq_true hb.1
      omega
    | false => exact zg_lo h.2 hr
theorem zM_s {r : Nat} (h0 : r ≠ 0) (h : r ≤ 121) : zM xs r = bz_sM xs r := by
  funext k
  unfold zM
  rw [mm_r h0, zg_lo zW_lo h]
  rfl
set_option maxRecDepth 100000 in
theorem zWl : bz_wl.all (fun q => decide (zr q.1 q.2.1 = (q.2.2 : Int)) && Nat.blt 121 q.1 && Nat.ble q.1 411) = true := by decide +kernel
theorem zM_wl : ∀ q ∈ bz_wl, zM xs q.1 q.2.1 = (q.2.2 : Int) ∧ q.1 ≠ 0 ∧ q.1 ≤ 411 := fun q hq => by
  have h := List.all_eq_true.mp zWl q hq
  rw [Bool.and_eq_true, Bool.and_eq_true] at h
  have h1 : 121 < q.1 := Nat.le_of_ble_eq_true h.1.2
  have h2 : q.1 ≤ 411 := Nat.le_of_ble_eq_true h.2
  exact ⟨by rw [zM_r h1]; exact of_decide_eq_true h.1.1, by omega, h2⟩
set_option maxRecDepth 100000 in
theorem zSt : (List.range 86).all (fun r => (List.range (wSp (rI (322 + r))).length).all (fun k => decide (zr (322 + r) k = (wSp (rI (322 + r))).getD k 0)) || (Nat.blt 32 r && Nat.blt r 54)) = true := by decide +kernel
theorem zM_stM : stM (zM xs) := by
  intro r k hr hk
  rw [zM_r (by omega)]
  have h := List.all_eq_true.mp zSt (r - 322) (List.mem_range.mpr (by omega))
  rw [Bool.or_eq_true] at h
  rcases h with h | h
  · rw [show 322 + (r - 322) = r by omega] at h
    exact of_decide_eq_true (List.all_eq_true.mp h k (List.mem_range.mpr hk))
  · rw [Bool.and_eq_true] at h
    have h1 : 32 < r - 322 := Nat.le_of_ble_eq_true h.1
    have h2 : r - 322 < 54 := Nat.le_of_ble_eq_true h.2
    omega
set_option maxRecDepth 100000 in
theorem zPa : (List.range 20).all (fun j => decide (zr 158 j = ((159 + 6 * j : Nat) : Int))) = true := by decide +kernel
set_option maxRecDepth 100000 in
theorem zM_Sim : Sim (zM xs) := by
  have c : ∀ {r k : Nat} {v : Int}, zr r k = v → 121 < r → zM xs r k = v := fun h h1 => by rw [zM_r h1]; exact h
  have e1 : zM xs 131 0 = 132 := c (by decide +kernel) (by omega)
  have e2 : zM xs 122 11 = 303 := c (by decide +kernel) (by omega)
  have e3 : zM xs 132 0 = 0 := c (by decide +kernel) (by omega)
  have e4 : zM xs 132 1 = 0 := c (by decide +kernel) (by omega)
  have e5 : zM xs 132 3 = 0 := c (by decide +kernel) (by omega)
  have e6 : zM xs 319 60 = 0 := c (by decide +kernel) (by omega)
  have e7 : ∀ k, zM xs 355 k = 0 := fun k => zM_0 (by omega) (by decide +kernel)
  have e9 : zM xs 319 47 = 0 := c (by decide +kernel) (by omega)
  have s0 : zM xs 148 0 = 0 := c (by decide +kernel) (by omega)
  have s1 : zM xs 148 1 = 0 := c (by decide +kernel) (by omega)
  have s2 : zM xs 148 2 = 0 := c (by decide +kernel) (by omega)
  have t1 : ∀ k, zM xs 149 k = 0 := fun k => zM_0 (by omega) (by decide +kernel)
  have t2 : ∀ k, zM xs 150 k = 0 := fun k => zM_0 (by omega) (by decide +kernel)
  have t3 : ∀ k, zM xs 151 k = 0 := fun k => zM_0 (by omega) (by decide +kernel)
  have t4 : ∀ k, zM xs 152 k = 0 := fun k => zM_0 (by omega) (by decide +kernel)
  have t5 : ∀ k, zM xs 153 k = 0 := fun k => zM_0 (by omega) (by decide +kernel)
  have p0 : zM xs 157 0 = 0 := c (by decide +kernel) (by omega)
  have p1 : zM xs 157 1 = 0 := c (by decide +kernel) (by omega)
  have p2 : zM xs 319 85 = 0 := c (by decide +kernel) (by omega)
  have p3 : zM xs 319 86 = 0 := c (by decide +kernel) (by omega)
  have f1 : zM xs 279 1 = 0 := c (by decide +kernel) (by omega)
  have f2 : zM xs 319 79 = 0 := c (by decide +kernel) (by omega)
  have g1 : zM xs 123 1 = 0 := c (by decide +kernel) (by omega)
  have g2 : zM xs 319 1 = 0 := c (by decide +kernel) (by omega)
  have g3 : zM xs 123 6 = 0 := c (by decide +kernel) (by omega)
  have g4 : zM xs 319 7 = 0 := c (by decide +kernel) (by omega)
  have g5 : zM xs 123 7 = -1 := c (by decide +kernel) (by omega)
  have g6 : zM xs 319 8 = -1 := c (by decide +kernel) (by omega)
  have r1 : ∀ k, zM xs 302 k = 0 := fun k => zM_0 (by omega) (by decide +kernel)
  have r2 : ∀ k, zM xs 321 k = 0 := fun k => zM_0 (by omega) (by decide +kernel)
  have d1 : zM xs 122 13 = 1 := c (by decide +kernel) (by omega)
  have d2 : zM xs 319 87 = 1 := c (by decide +kernel) (by omega)
  have d3 : zM xs 319 70 = 0 := c (by decide +kernel) (by omega)
  have i1 : zM xs 122 12 = 0 := c (by decide +kernel) (by omega)
  have i2 : zM xs 319 131 = 0 := c (by decide +kernel) (by omega)
  have w1 : ∀ k, zM xs 364 k = 0 := fun k => zM_0 (by omega) (by decide +kernel)
  refine ⟨zM xs, fun _ => 0, 132, 303, ⟨by decide, by decide, by decide, e1, e2⟩, fun k _ => w1 k, Or.inr ⟨⟨e3, e4, e5⟩, ⟨e6, e7 3, e7 4, e9⟩, ⟨⟨by rw [s0]; rfl, s1⟩, fun _ _ _ => t1 _, fun _ _ _ => ⟨t2 _, t3 _⟩, fun _ _ _ => ⟨t4 _, t5 _⟩⟩, fun _ _ => rfl, p0, f1, s2⟩, tpR_0 g1 g2, ⟨by rw [g3, g4], by rw [g5, g6]⟩, fun k _ => by rw [r1, r2], ⟨by rw [d1, d2], by rw [d2]; omega, by rw [d2]; omega⟩, d3, ⟨by rw [i1, i2], by rw [i2]; omega, fun k hk => by rw [i2] at hk; omega⟩, ⟨by rw [f1, f2], ⟨by rw [f2]; omega, fun i h0 h1 => by rw [f2] at h1; omega⟩, fun j hj => by rw [f2] at hj; omega⟩, ⟨by rw [s2]; exact ⟨by decide, by decide, Int.le_refl 0⟩, by rw [s2]; rfl, fun i hi => by have hi : (i : Int) < 0 := hi; omega⟩, ⟨⟨by rw [p0, p2], by rw [p1, p3]⟩, by rw [p0]; omega, by rw [p1]; omega, fun j hj => ?_, fun i hi => by rw [p0] at hi; omega⟩, fun r k h1 h2 => ?_, zM_stM⟩
  · exact c (of_decide_eq_true (List.all_eq_true.mp zPa j (List.mem_range.mpr hj))) (by omega)
  · rw [zM_s (by omega) h2]
    unfold bz_sM
    rw [if_neg (by omega)]
theorem zM_1 {k : Nat} : zM xs 1 k < 2147483648 := by
  rw [zM_s (by omega) (by omega)]
  show (xs k).toInt < _
  have := (xs k).toInt_lt
  omega
end ZI

/-! THE START: bz_St -/
set_option maxRecDepth 100000 in
theorem st_k1 : (List.range 39).all (fun i => decide (bz_kd 0 (5 + i) = some (.inl 12)) && decide (bz_kd 0 (44 + i) = some (.inl 13)) && decide (bz_kd 0 (83 + i) = some (.inr (2, st_n i))) && Nat.blt (st_n i) 100) = true := by decide +kernel
set_option maxRecDepth 100000 in
theorem st_k2 : (List.range 39).all (fun i => decide (st_i (5 + i) 0 = ((44 + i : Nat) : Int)) && decide (st_i (44 + i) 0 = ((83 + i : Nat) : Int)) && decide (st_i 4 i = ((5 + i : Nat) : Int)) && decide (st_i (5 + i) 3 = (i : Int))) = true := by decide +kernel
theorem st_kd {i : Nat} (h : i < 39) : bz_kd 0 (5 + i) = some (.inl 12) ∧ bz_kd 0 (44 + i) = some (.inl 13) ∧ bz_kd 0 (83 + i) = some (.inr (2, st_n i)) ∧ st_n i < 100 := by
  have g := List.all_eq_true.mp st_k1 i (List.mem_range.mpr h)
  simp only [Bool.and_eq_true] at g
  exact ⟨of_decide_eq_true g.1.1.1, of_decide_eq_true g.1.1.2, of_decide_eq_true g.1.2, Nat.le_of_ble_eq_true g.2⟩
theorem st_iv {i : Nat} (h : i < 39) : st_i (5 + i) 0 = ((44 + i : Nat) : Int) ∧ st_i (44 + i) 0 = ((83 + i : Nat) : Int) ∧ st_i 4 i = ((5 + i : Nat) : Int) ∧ st_i (5 + i) 3 = (i : Int) := by
  have g := List.all_eq_true.mp st_k2 i (List.mem_range.mpr h)
  simp only [Bool.and_eq_true] at g
  exact ⟨of_decide_eq_true g.1.1.1, of_decide_eq_true g.1.1.2, of_decide_eq_true g.1.2, of_decide_eq_true g.2⟩
def st_tm (r : Nat) : Term := if r = 1 then .arg 0 else if r = 2 then st_2 else if r = 3 then st_3 else if r = 4 then st_4 else if r ≤ 43 then st_W (r - 5) else if r ≤ 82 then st_S (r - 44) else st_B (r - 83)
set_option maxRecDepth 100000 in
theorem st_sf : bz_sf.all (fun q => decide (Cond.laysStatic q.1 q.2.1 q.2.2.1 ∈ tables_1) && decide (Cond.initialized q.1 ∈ tables_1) && (match q.2.2.2 with
  | .inr (.inr r) => decide (2 ≤ r ∧ r ≤ 43 ∧ st_tm r = .static q.1 q.2.1 q.2.2.1)
  | .inl x => decide (x = 1 ∧ Cond.eq (.static q.1 q.2.1 q.2.2.1) (.int 1) ∈ st_js)
  | _ => false)) = true := by decide +kernel
theorem st_sM {xs : Nat → Int32} {r k : Nat} (h : r ≠ 1) : bz_sM xs r k = st_i r k := by
  unfold bz_sM
  rw [if_neg h]
  rfl
section ZN
variable {b L : Nat} {xs : Nat → Int32} {s : State}
theorem st_W_at {i : Nat} (h : i < 39) : st_tm (5 + i) = st_W i := by
  unfold st_tm
  rw [if_neg (by omega), if_neg (by omega), if_neg (by omega), if_neg (by omega), if_pos (by omega), show 5 + i - 5 = i by omega]
theorem st_S_at {i : Nat} (h : i < 39) : st_tm (44 + i) = st_S i := by
  unfold st_tm
  rw [if_neg (by omega), if_neg (by omega), if_neg (by omega), if_neg (by omega), if_neg (by omega), if_pos (by omega), show 44 + i - 44 = i by omega]
theorem st_B_at {i : Nat} (h : i < 39) : st_tm (83 + i) = st_B i := by
  unfold st_tm
  rw [if_neg (by omega), if_neg (by omega), if_neg (by omega), if_neg (by omega), if_neg (by omega), if_neg (by omega), show 83 + i - 83 = i by omega]
theorem st_cs {r : Nat} (h0 : r ≠ 0) (h : r ≤ 121) : r = 1 ∨ r = 2 ∨ r = 3 ∨ r = 4 ∨ (∃ i, i < 39 ∧ r = 5 + i) ∨ (∃ i, i < 39 ∧ r = 44 + i) ∨ ∃ i, i < 39 ∧ r = 83 + i := by
  by_cases h1 : r ≤ 4
  · omega
  · by_cases h2 : r ≤ 43
    · exact Or.inr (Or.inr (Or.inr (Or.inr (Or.inl ⟨r - 5, by omega, by omega⟩))))
    · by_cases h3 : r ≤ 82
      · exact Or.inr (Or.inr (Or.inr (Or.inr (Or.inr (Or.inl ⟨r - 44, by omega, by omega⟩)))))
      · exact Or.inr (Or.inr (Or.inr (Or.inr (Or.inr (Or.inr ⟨r - 83, by omega, by omega⟩)))))
set_option maxHeartbeats 4000000 in
set_option maxRecDepth 100000 in
theorem st_at (hX : va_X b L xs s s.heap) (hbl : b < s.heap.size) (hL : L < 2147483648) (hw : ∀ w ∈ st_all, w.before #[Value.ref b] s = true) (hts : ∀ w ∈ lw_tbl, w.before #[Value.ref b] s = true) : ∃ ad : Nat → Nat, ad 1 = b ∧ bz_St (fun q : Nat => s.heap.size ≤ q) (bz_kd L) bz_tc (bz_sM xs) bz_sf bz_sc ad s s.heap := by
  have hA : ∀ a : Nat, a < s.heap.size → ¬ (fun q : Nat => s.heap.size ≤ q) a := fun a h => Nat.not_le.mpr h
  have gT2 := st_T (A := fun q : Nat => s.heap.size ≤ q) (by decide) (fun w h => hw w (st_i2 h)) hA
  have gT3 := st_T (A := fun q : Nat => s.heap.size ≤ q) (by decide) (fun w h => hw w (st_i3 h)) hA
  have gO4 := st_O (A := fun q : Nat => s.heap.size ≤ q) (hw _ (st_i4 List.mem_cons_self)) hA
  have gW : ∀ i, i < 39 → _ := fun i hi => st_O (A := fun q : Nat => s.heap.size ≤ q) (hw _ (st_iW (i := i) hi List.mem_cons_self)) hA
  have gS : ∀ i, i < 39 → _ := fun i hi => st_O (A := fun q : Nat => s.heap.size ≤ q) (hw _ (st_iS (i := i) hi List.mem_cons_self)) hA
  have gB : ∀ i, i < 39 → _ := fun i hi => st_T (A := fun q : Nat => s.heap.size ≤ q) (r := 83 + i) (n := st_n i) (tm := st_B i) (ty := .byte) (by have := (st_kd hi).2.2.2; omega) (fun w h => hw w (st_iS hi (List.mem_cons_of_mem _ (List.mem_cons_of_mem _ h)))) hA
  have h0 : ∀ r : Nat, ∃ t : Nat, r ≠ 0 → r ≤ 121 → (st_tm r).eval #[Value.ref b] s none [] s = some (.ref t) := by
    intro r
    by_cases hr : r ≠ 0 ∧ r ≤ 121
    · rcases st_cs hr.1 hr.2 with rfl | rfl | rfl | rfl | ⟨i, hi, rfl⟩ | ⟨i, hi, rfl⟩ | ⟨i, hi, rfl⟩
      · exact ⟨b, fun _ _ => rfl⟩
      · obtain ⟨t, h, -⟩ := gT2; exact ⟨t, fun _ _ => h⟩
      · obtain ⟨t, h, -⟩ := gT3; exact ⟨t, fun _ _ => h⟩
      · obtain ⟨t, h, -⟩ := gO4; exact ⟨t, fun _ _ => h⟩
      · obtain ⟨t, h, -⟩ := gW i hi; exact ⟨t, fun _ _ => by rw [st_W_at hi]; exact h⟩
      · obtain ⟨t, h, -⟩ := gS i hi; exact ⟨t, fun _ _ => by rw [st_S_at hi]; exact h⟩
      · obtain ⟨t, h, -⟩ := gB i hi; exact ⟨t, fun _ _ => by rw [st_B_at hi]; exact h⟩
    · exact ⟨0, fun a b => absurd ⟨a, b⟩ hr⟩
  obtain ⟨ad, had⟩ := Classical.axiomOfChoice h0
  have uq : ∀ {tm : Term} {a a' : Nat}, tm.eval #[Value.ref b] s none [] s = some (.ref a) → tm.eval #[Value.ref b] s none [] s = some (.ref a') → a = a' := fun h h' => by
    rw [h] at h'; cases h'; rfl
  have e1 : ad 1 = b := (uq (tm := .arg 0) (rfl : (Term.arg 0).eval #[Value.ref b] s none [] s = some (.ref b)) (had 1 (by omega) (by omega))).symm
  have aW : ∀ i, i < 39 → (st_W i).eval #[Value.ref b] s none [] s = some (.ref (ad (5 + i))) := fun i hi => by rw [← st_W_at hi]; exact had _ (by omega) (by omega)
  have aS : ∀ i, i < 39 → (st_S i).eval #[Value.ref b] s none [] s = some (.ref (ad (44 + i))) := fun i hi => by rw [← st_S_at hi]; exact had _ (by omega) (by omega)
  have aB : ∀ i, i < 39 → (st_B i).eval #[Value.ref b] s none [] s = some (.ref (ad (83 + i))) := fun i hi => by rw [← st_B_at hi]; exact had _ (by omega) (by omega)
  have vr : ∀ {x : Int} {n : Nat}, x = (n : Int) → n ≠ 0 → bz_val ad 2 x = .ref (ad n) := fun {x n} h h0 => by
    subst h
    show (if ((n : Int)).toNat = 0 then Value.null else Value.ref (ad ((n : Int)).toNat)) = _
    rw [show ((n : Int)).toNat = n by omega, if_neg h0]
  refine ⟨ad, e1, fun q hq => ?_, fun r t n hr0 hr1 hk => ?_, fun r ci hr0 hr1 hk => ?_, fun r r' hr0 hr1 hk hr0' hr1' hk' he => ?_⟩
  · have g := List.all_eq_true.mp st_sf q hq
    rw [Bool.and_eq_true, Bool.and_eq_true] at g
    have l1 := hts _ (bz_tbl_in (of_decide_eq_true g.1.1))
    have l2 := hts _ (bz_tbl_in (of_decide_eq_true g.1.2))
    have g2 := g.2
    refine va_Zof l1 l2 ?_ hA
    obtain ⟨q1, q2, q3, v⟩ := q
    dsimp only at g2 ⊢
    rcases v with x | x | r
    · have g3 := of_decide_eq_true g2
      have g4 := va_eqt (hw _ (st_ij g3.2))
      rw [g3.1]
      exact g4
    · cases g2
    · have g3 := of_decide_eq_true g2
      have g4 := had r (by omega) (by omega)
      rw [g3.2.2] at g4
      rw [g4]
      unfold bz_mv
      dsimp only
      rw [if_neg (by omega)]
  · rcases st_cs hr0 hr1 with rfl | rfl | rfl | rfl | ⟨i, hi, rfl⟩ | ⟨i, hi, rfl⟩ | ⟨i, hi, rfl⟩
    · have hk : some (Sum.inr (0, L)) = some (Sum.inr (t, n)) := hk
      cases hk
      obtain ⟨scr, c1, c2, c3, c4, c5⟩ := hX
      rw [e1]
      refine ⟨scr, c1, c2, c3, by omega, by rw [c4], fun j hj => ?_, hA b hbl⟩
      rw [c5 j hj]
      show _ = some (Value.int (Int32.ofInt (xs j).toInt))
      rw [Int32.ofInt_toInt]
    · rw [kd_0 (by omega)] at hk
      have hk : some (Sum.inr (0, 7)) = some (Sum.inr (t, n)) := hk
      cases hk
      obtain ⟨t, h, h2⟩ := gT2
      rw [uq (had 2 (by omega) (by omega)) h]
      have e : (fun j => bz_val ad (if (0 : Nat) = 6 then 2 else 0) (bz_sM xs 2 j)) = (fun j => Value.int (Int32.ofInt (st_i 2 j))) := by
        funext j; rw [st_sM (by omega)]; rfl
      rw [e]; exact h2
    · rw [kd_0 (by omega)] at hk
      have hk : some (Sum.inr (0, 3)) = some (Sum.inr (t, n)) := hk
      cases hk
      obtain ⟨t, h, h2⟩ := gT3
      rw [uq (had 3 (by omega) (by omega)) h]
      have e : (fun j => bz_val ad (if (0 : Nat) = 6 then 2 else 0) (bz_sM xs 3 j)) = (fun j => Value.int (Int32.ofInt (st_i 3 j))) := by
        funext j; rw [st_sM (by omega)]; rfl
      rw [e]; exact h2
    · rw [kd_0 (by omega)] at hk
      have hk : some (Sum.inr (6, 39)) = some (Sum.inr (t, n)) := hk
      cases hk
      obtain ⟨t, h, h2⟩ := va_Tof (tm := st_4) (N := 39) (ty := .object "BentRiver$Word") (f := fun j => bz_val ad (if (6 : Nat) = 6 then 2 else 0) (bz_sM xs 4 j)) (A := fun q : Nat => s.heap.size ≤ q) (by decide) (hw _ (st_i4 (List.mem_cons_of_mem _ List.mem_cons_self))) (va_eqt (hw _ (st_i4 (List.mem_cons_of_mem _ (List.mem_cons_of_mem _ List.mem_cons_self))))) (fun j hj => by
        rw [va_eqv (hw _ (st_i4 (List.mem_cons_of_mem _ (List.mem_cons_of_mem _ (List.mem_cons_of_mem _ (List.mem_map.mpr ⟨j, List.mem_range.mpr hj, rfl⟩)))))) (aW j hj), st_sM (by omega), if_pos rfl, vr (st_iv hj).2.2.1 (by omega)]) hA
      rw [uq (had 4 (by omega) (by omega)) h]
      exact h2
    · rw [kd_0 (by omega), (st_kd hi).1] at hk
      cases hk
    · rw [kd_0 (by omega), (st_kd hi).2.1] at hk
      cases hk
    · rw [kd_0 (by omega), (st_kd hi).2.2.1] at hk
      cases hk
      obtain ⟨t, h, h2⟩ := gB i hi
      rw [uq (aB i hi) h]
      have e : (fun j => bz_val ad (if (2 : Nat) = 6 then 2 else 0) (bz_sM xs (83 + i) j)) = (fun j => Value.int (Int32.ofInt (st_i (83 + i) j))) := by
        funext j; rw [st_sM (by omega)]; rfl
      rw [e]; exact h2
  · rcases st_cs hr0 hr1 with rfl | rfl | rfl | rfl | ⟨i, hi, rfl⟩ | ⟨i, hi, rfl⟩ | ⟨i, hi, rfl⟩
    · cases hk
    · cases hk
    · cases hk
    · cases hk
    · rw [kd_0 (by omega), (st_kd hi).1] at hk
      cases hk
      obtain ⟨t, h, h2⟩ := gW i hi
      have et := uq (aW i hi) h
      rw [← et] at h2
      refine ⟨_, rfl, h2, fun k hk => ?_⟩
      rw [st_sM (by omega)]
      have hk : k < 4 := hk
      rcases (show k = 0 ∨ k = 1 ∨ k = 2 ∨ k = 3 by omega) with rfl | rfl | rfl | rfl
      · show va_OF "BentRiver$Word" "spelling" "Ljava/lang/String;" (bz_val ad 2 (st_i (5 + i) 0)) _ _ _ _
        rw [vr (st_iv hi).1 (by omega)]
        exact st_OF (aW i hi) (va_eqv (hw _ (st_iW hi (List.mem_cons_of_mem _ (List.mem_cons_of_mem _ List.mem_cons_self)))) (aS i hi)) hA
      · exact st_OF (aW i hi) (va_eqt (hw _ (st_iW hi (List.mem_cons_of_mem _ (List.mem_cons_of_mem _ (List.mem_cons_of_mem _ List.mem_cons_self)))))) hA
      · exact st_OF (aW i hi) (va_eqt (hw _ (st_iW hi (List.mem_cons_of_mem _ (List.mem_cons_of_mem _ (List.mem_cons_of_mem _ (List.mem_cons_of_mem _ List.mem_cons_self))))))) hA
      · exact st_OF (aW i hi) (va_eqt (hw _ (st_iW hi (List.mem_cons_of_mem _ List.mem_cons_self)))) hA
    · rw [kd_0 (by omega), (st_kd hi).2.1] at hk
      cases hk
      obtain ⟨t, h, h2⟩ := gS i hi
      have et := uq (aS i hi) h
      rw [← et] at h2
      refine ⟨_, rfl, h2, fun k hk => ?_⟩
      rw [st_sM (by omega)]
      have hk : k < 2 := hk
      rcases (show k = 0 ∨ k = 1 by omega) with rfl | rfl
      · show va_OF "java/lang/String" "value" "[B" (bz_val ad 2 (st_i (44 + i) 0)) _ _ _ _
        rw [vr (st_iv hi).2.1 (by omega)]
        exact st_OF (aS i hi) (aB i hi) hA
      · exact st_OF (aS i hi) (va_eqt (hw _ (st_iS hi (List.mem_cons_of_mem _ List.mem_cons_self)))) hA
    · rw [kd_0 (by omega), (st_kd hi).2.2.1] at hk
      cases hk
  · have wd : ∀ r, r ≠ 0 → r ≤ 121 → bz_kd L r = some (.inl 12) → ∃ i, i < 39 ∧ r = 5 + i := fun r h0 h1 hk => by
      rcases st_cs h0 h1 with rfl | rfl | rfl | rfl | ⟨i, hi, rfl⟩ | ⟨i, hi, rfl⟩ | ⟨i, hi, rfl⟩
      · cases hk
      · cases hk
      · cases hk
      · cases hk
      · exact ⟨i, hi, rfl⟩
      · rw [kd_0 (by omega), (st_kd hi).2.1] at hk
        cases hk
      · rw [kd_0 (by omega), (st_kd hi).2.2.1] at hk
        cases hk
    obtain ⟨i, hi, rfl⟩ := wd r hr0 hr1 hk
    obtain ⟨j, hj, rfl⟩ := wd r' hr0' hr1' hk'
    have v1 := va_eqt (hw _ (st_iW hi (List.mem_cons_of_mem _ List.mem_cons_self)))
    have v2 := va_eqt (hw _ (st_iW hj (List.mem_cons_of_mem _ List.mem_cons_self)))
    rw [va_fe (aW i hi), he] at v1
    rw [va_fe (aW j hj), v1, (st_iv hi).2.2.2, (st_iv hj).2.2.2] at v2
    have v3 : Int32.ofInt (i : Int) = Int32.ofInt (j : Int) := by injection v2 with v2; injection v2
    have v4 := congrArg Int32.toInt v3
    rw [Int32.toInt_ofInt_of_le (by omega) (by omega), Int32.toInt_ofInt_of_le (by omega) (by omega)] at v4
    omega
end ZN

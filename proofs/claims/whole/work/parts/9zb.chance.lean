/-! SIM: chance -/
def zN (z : Int) : Int := (1103515245 * z + 12345) % 2147483648
def zD (z m : Int) : Int := (z / 64) % m
def chPush (V : bz_M) (S : Nat → Int) (c w : Int) : Nat → Int := if 0 ≤ sRow S c + w ∧ sRow S c + w < vR V then upS S (Int.toNat (2 + c)) (sRow S c + w) else S
/-- what chance does before a season: the state, what is drawn, a spate or none -/
def chP (V : bz_M) (S : Nat → Int) (z : Int) : (Nat → Int) × Int × Int := if zD (zN z) 100 < V 319 54 then (chPush V S (zD (zN (zN z)) (vC V)) (if zD (zN (zN (zN z))) 2 = 0 then -1 else 1), zN (zN (zN z)), 1) else (S, zN z, 0)
def chN (V : bz_M) (q : (Nat → Int) × Int × Int) : (Nat → Int) × Int × Int := (sPass V (chP V q.1 q.2.1).1, (chP V q.1 q.2.1).2.1, q.2.2 + (chP V q.1 q.2.1).2.2)
def chG (V : bz_M) : Nat → (Nat → Int) × Int × Int → (Nat → Int) × Int × Int
  | 0, q => q
  | n + 1, q => chG V n (chN V q)
section SU
variable {Lg d : Nat} {V M M' M1 M2 N1 N2 : bz_M} {S S' B P : Nat → Int} {v u s j : Nat}
theorem zN_bd (z : Int) : 0 ≤ zN z ∧ zN z < 2147483648 := by unfold zN; omega
theorem zD_bd {z m : Int} (hm : 0 < m) : 0 ≤ zD z m ∧ zD z m < m := ⟨Int.emod_nonneg _ (by omega), Int.emod_lt_of_pos _ hm⟩
theorem ld_31 {x : Int} (h0 : 0 ≤ x) (h1 : x < 9223372036854775808) : bz_land x 2147483647 = x % 2147483648 := by
  have e : (Int64.ofInt x).toBitVec.toNat = x.toNat := by
    show (BitVec.ofInt 64 x).toNat = _
    rw [BitVec.toNat_ofInt]; omega
  have e2 : (Int64.ofInt 2147483647).toBitVec.toNat = 2 ^ 31 - 1 := by decide
  unfold bz_land
  show ((Int64.ofInt x).toBitVec &&& (Int64.ofInt 2147483647).toBitVec).toInt = _
  rw [BitVec.toInt_eq_toNat_cond, BitVec.toNat_and, e, e2, Nat.and_two_pow_sub_one_eq_mod x.toNat 31]
  have : x.toNat % 2 ^ 31 < 2 ^ 31 := Nat.mod_lt _ (by decide)
  rw [if_pos (by omega)]
  omega
theorem c_draw {m z : Int} (hm : 0 < m) (h : M 122 13 = z) (hz : 0 ≤ z ∧ z < 2147483648) : eBr_draw Lg d m M = some (zD (zN z) m, bz_up M 122 13 (zN z)) := by
  have hb := zN_bd z
  refine eBr_draw_E _ ?_
  rw [if_pos hm, if_neg (by omega), h, w64_id (z := 1103515245 * z) (by omega) (by omega), w64_id (z := 1103515245 * z + 12345) (by omega) (by omega), ld_31 (by omega) (by omega)]
  show some (Int.tmod (bz_w32 (Int.tdiv (bz_w32 (zN z)) 64)) m, bz_up M 122 13 (bz_w32 (zN z))) = _
  rw [w32_id (z := zN z) (by omega) (by omega), Int.tdiv_eq_ediv_of_nonneg hb.1, w32_id (z := zN z / 64) (by omega) (by omega), Int.tmod_eq_emod_of_nonneg (by omega)]
  rfl
theorem m_draw {m z : Int} (hm : 0 < m) (hm2 : m ≤ 100) (h : M 319 87 = z) (hz : 0 ≤ z ∧ z < 2147483648) : eMo_drawOf Lg d m M = some (zD (zN z) m, bz_up M 319 87 (zN z)) := by
  have hb := zN_bd z
  have hd := zD_bd (z := zN z) hm
  refine eMo_drawOf_E _ ?_
  rw [if_neg (by omega), h, w64_id (z := 1103515245 * z) (by omega) (by omega), w64_id (z := 1103515245 * z + 12345) (by omega) (by omega), Int.tmod_eq_emod_of_nonneg (b := 2147483648) (show 0 ≤ 1103515245 * z + 12345 by omega)]
  show some (bz_w32 (Int.tmod (bz_w64 (Int.tdiv (zN z) 64)) m), bz_up M 319 87 (zN z)) = _
  rw [Int.tdiv_eq_ediv_of_nonneg hb.1, w64_id (z := zN z / 64) (by omega) (by omega), Int.tmod_eq_emod_of_nonneg (by omega)]
  show some (bz_w32 (zD (zN z) m), _) = _
  rw [w32_id (by omega) (by omega)]
theorem chPush_ok (hV : vOK V) (hS : sOK V S) {c w : Int} (h0 : 0 ≤ c) (h1 : c < vC V) : sOK V (chPush V S c w) ∧ chPush V S c w 0 = S 0 := by
  have hC := hV.2.1
  unfold chPush
  split
  · rename_i h
    exact ⟨sRowUp_ok hV hS h0 (by omega) h, upS_ne (by omega)⟩
  · exact ⟨hS, rfl⟩
theorem chPush_stO (hV : vOK V) (hS : stO V S) {c w : Int} (h0 : 0 ≤ c) (h1 : c < vC V) : stO V (chPush V S c w) := by
  have hC := hV.2.1
  have hL := hV.2.2.2.2.1
  unfold chPush
  split
  · rename_i h
    exact stO_up hS (by omega) (sRowUp_ok hV hS.1 h0 (by omega) h) (sW_up hS.2.2.1 (by omega)) (fun l y z => by omega) (fun c y z => by omega) (fun c r y z w => by omega)
  · exact hS
theorem chP_ok (hV : vOK V) (hS : sOK V S) (z : Int) : sOK V (chP V S z).1 ∧ (chP V S z).1 0 = S 0 ∧ (0 ≤ (chP V S z).2.1 ∧ (chP V S z).2.1 < 2147483648) ∧ (0 ≤ (chP V S z).2.2 ∧ (chP V S z).2.2 ≤ 1) := by
  have hC := hV.2.1
  have hb := zD_bd (z := zN (zN z)) (show 0 < vC V by omega)
  unfold chP
  split
  · have := chPush_ok hV hS (w := if zD (zN (zN (zN z))) 2 = 0 then -1 else 1) hb.1 hb.2
    exact ⟨this.1, this.2, zN_bd _, by dsimp only; omega⟩
  · exact ⟨hS, rfl, zN_bd _, by dsimp only; omega⟩
theorem chP_stO (hV : vOK V) (hS : stO V S) (z : Int) : stO V (chP V S z).1 := by
  have hC := hV.2.1
  have hb := zD_bd (z := zN (zN z)) (show 0 < vC V by omega)
  unfold chP
  split
  · exact chPush_stO hV hS hb.1 hb.2
  · exact hS
theorem chG_stO (hV : vOK V) : ∀ (n : Nat) (q : (Nat → Int) × Int × Int), stO V q.1 → (0 ≤ q.2.1 ∧ q.2.1 < 2147483648) → q.1 0 + n ≤ 999 → stO V (chG V n q).1 ∧ (chG V n q).1 0 = q.1 0 + n ∧ (0 ≤ (chG V n q).2.1 ∧ (chG V n q).2.1 < 2147483648)
  | 0, q, h, hz, h9 => ⟨h, by show q.1 0 = _; omega, hz⟩
  | n + 1, q, h, hz, h9 => by
    have k1 := chP_ok hV h.1 q.2.1
    have k2 := chP_stO hV h q.2.1
    have k3 := sPass_ok hV k1.1 (by rw [k1.2.1]; omega)
    have k4 := chG_stO hV n (chN V q) (sPass_stO hV k2 (by rw [k1.2.1]; omega)) k1.2.2.1 (by show sPass V _ 0 + _ ≤ _; rw [k3.2, k1.2.1]; omega)
    refine ⟨k4.1, ?_, k4.2.2⟩
    show (chG V n (chN V q)).1 0 = _
    rw [k4.2.1]
    show sPass V _ 0 + _ = _
    rw [k3.2, k1.2.1]; omega
theorem ri_push (o : bz_oV v) (hV : vOK V) (hS : sOK V S) (hM : cR V S 131 148 v M) {c w : Int} (h0 : 0 ≤ c) (h1 : c < vC V) : w_T (eRi_push Lg d 131 c w M) (fun M' => cR V (chPush V S c (if w = 0 then -1 else 1)) 131 148 v M' ∧ ∀ r, r ≠ 149 → M' r = M r) := by
  have hC := hV.2.1
  have hR := hV.2.2.1
  have hr := hS.2.2.1 c h0 h1
  have e : M 149 (Int.toNat c) = sRow S c := hM.2.2.2.1 c h0 (by omega)
  have ev : M v 1 = vR V := hM.2.1.1.2.1
  have go : ∀ y, y = -1 ∨ y = 1 → w_T (if bz_w32 (sRow S c + y) < 0 then some M else if M 131 0 = (v : Int) then (if bz_w32 (sRow S c + y) < vR V then some (bz_up M 149 (Int.toNat c) (bz_w32 (sRow S c + y))) else some M) else none) (fun M' => cR V (chPush V S c y) 131 148 v M' ∧ ∀ r, r ≠ 149 → M' r = M r) := fun y hy => by
    rw [w32_id (by omega) (by omega), if_pos hM.1]
    unfold chPush
    by_cases c1 : sRow S c + y < 0
    · rw [if_pos c1]
      rw [if_neg (by omega)]
      exact T_some ⟨hM, fun _ _ => rfl⟩
    · rw [if_neg c1]
      by_cases c2 : sRow S c + y < vR V
      · rw [if_pos c2]
        rw [if_pos (show 0 ≤ sRow S c + y ∧ sRow S c + y < vR V by omega)]
        exact T_some ⟨cR_row hr131 o hM h0 (by omega), fun r hr => bz_up_fn hr⟩
      · rw [if_neg c2]
        rw [if_neg (by omega)]
        exact T_some ⟨hM, fun _ _ => rfl⟩
  refine T_le (eRi_push_E hr131 o) ?_
  show w_T (if (0 : Int) ≤ c ∧ c < 10 then (if w = 0 then (if bz_w32 (M 149 (Int.toNat c) + -1) < 0 then some M else if M 131 0 = (v : Int) then (if bz_w32 (M 149 (Int.toNat c) + -1) < M v 1 then some (bz_up M 149 (Int.toNat c) (bz_w32 (M 149 (Int.toNat c) + -1))) else some M) else none) else (if bz_w32 (M 149 (Int.toNat c) + 1) < 0 then some M else if M 131 0 = (v : Int) then (if bz_w32 (M 149 (Int.toNat c) + 1) < M v 1 then some (bz_up M 149 (Int.toNat c) (bz_w32 (M 149 (Int.toNat c) + 1))) else some M) else none)) else none) _
  rw [if_pos (by omega), e, ev]
  by_cases c0 : w = 0
  · rw [if_pos c0, if_pos c0]
    exact go (-1) (Or.inl rfl)
  · rw [if_neg c0, if_neg c0]
    exact go 1 (Or.inr rfl)
theorem aC_13 {x : Int} : aC M (bz_up M 122 13 x) := ⟨fun r _ e _ _ _ _ => bz_up_fn e, bz_up_nr (by decide) _, fun k hk => bz_up_nk hk _, by rw [bz_up_nr (by decide)]; exact Int.le_refl _, fun k _ => ⟨bz_up_nr (by decide) _, bz_up_nr (by decide) _⟩⟩
theorem aC_49 (h : ∀ r, r ≠ 149 → M' r = M r) : aC M M' := ⟨fun r _ _ _ e _ _ => h r (by omega), by rw [h 131 (by decide)], fun k _ => by rw [h 122 (by decide)], by rw [h 148 (by decide)]; exact Int.le_refl _, fun k _ => ⟨by rw [h 300 (by decide)], by rw [h 301 (by decide)]⟩⟩
theorem cR_13 (o : bz_oV v) (h : cR V S 131 148 v M) {x : Int} : cR V S 131 148 v (bz_up M 122 13 x) := by
  have hvv := oV_c o
  have k : ∀ r, r ≠ 122 → bz_up M 122 13 x r = M r := fun r hr => bz_up_fn hr
  exact ⟨by rw [k 131 (by decide)]; exact h.1, cV_co h.2.1 (k _ (by omega)) (k _ (by omega)) (k _ (by omega)) (k _ (by omega)) (k _ (by omega)) (k _ (by omega)) (k _ (by omega)) (k _ (by omega)) (k _ (by omega)) (k _ (by omega)), cS_co h.2.2 (k _ (by omega)) (k _ (by omega)) (k _ (by omega)) (k _ (by omega)) (k _ (by omega)) (k _ (by omega))⟩
theorem c_chL (hd : 5 < d) (o : bz_oV v) (hV : vOK V) (hp : 0 ≤ V 319 54 ∧ V 319 54 ≤ 100) {N : Int} (hN : N ≤ 1000) : ∀ (n : Nat) (i : Int) (q : (Nat → Int) × Int × Int) (M : bz_M) (k : Nat), sOK V q.1 → q.1 0 + n ≤ 999 → (0 ≤ q.2.1 ∧ q.2.1 < 2147483648) → cR V q.1 131 148 v M → M 122 13 = q.2.1 → M 148 2 = (k : Int) → k + n ≤ 999 → 0 ≤ i → i + n = N → 0 ≤ q.2.2 → q.2.2 + n ≤ 1000 → w_T (eBr_chance_42 Lg d N q.2.2 i M) (fun p => p.1 = (chG V n q).2.2 ∧ cR V (chG V n q).1 131 148 v p.2 ∧ p.2 122 13 = (chG V n q).2.1 ∧ p.2 148 2 = ((k + n : Nat) : Int) ∧ (∀ t, t < n → p.2 300 (k + t) = bPd V (chP V (chG V t q).1 (chG V t q).2.1).1 ∧ p.2 301 (k + t) = pPd V (chP V (chG V t q).1 (chG V t q).2.1).1) ∧ aC M p.2)
  | 0, i, q, M, k, hS, h9, hz, hM, h13, hk, hk9, h0, h1, ha, hb => by
    refine T_le (eBr_chance_42_E (by omega) o) ?_
    rw [if_neg (by omega)]
    exact T_some ⟨rfl, hM, h13, hk, fun t ht => by omega, aC_refl M⟩
  | n + 1, i, q, M, k, hS, h9, hz, hM, h13, hk, hk9, h0, h1, ha, hb => by
    have hC := hV.2.1
    have kk := chP_ok hV hS q.2.1
    have kp := sPass_ok hV kk.1 (by rw [kk.2.1]; omega)
    -- behind what chance does
    have tail : ∀ (Q : bz_M), cR V (chP V q.1 q.2.1).1 131 148 v Q → Q 122 13 = (chP V q.1 q.2.1).2.1 → Q 148 2 = (k : Int) → aC M Q → w_T ((eBr_passAndKeep Lg (d - 1) Q).bind (fun p4 => eBr_chance_42 Lg d N (chN V q).2.2 (i + 1) p4.2)) (fun p => p.1 = (chG V (n + 1) q).2.2 ∧ cR V (chG V (n + 1) q).1 131 148 v p.2 ∧ p.2 122 13 = (chG V (n + 1) q).2.1 ∧ p.2 148 2 = ((k + (n + 1) : Nat) : Int) ∧ (∀ t, t < n + 1 → p.2 300 (k + t) = bPd V (chP V (chG V t q).1 (chG V t q).2.1).1 ∧ p.2 301 (k + t) = pPd V (chP V (chG V t q).1 (chG V t q).2.1).1) ∧ aC M p.2) := fun Q x1 x2 x3 x4 => by
      refine T_seq (c_pk (by omega) o hV kk.1 (by rw [kk.2.1]; omega) x1 x3 (by omega)) ?_
      rintro ⟨p1, R⟩ ⟨e1, e2, e3, e4, e5, e6⟩
      dsimp only at e1 e2 e3 e4 e5 e6 ⊢
      refine T_mono (c_chL hd o hV hp hN n (i + 1) (chN V q) R (k + 1) kp.1 (by show sPass V _ 0 + _ ≤ _; rw [kp.2, kk.2.1]; omega) kk.2.2.1 e2 (by rw [e6]; exact x2) e3 (by omega) (by omega) (by omega) (by show 0 ≤ q.2.2 + _; omega) (by show q.2.2 + _ + _ ≤ _; omega)) ?_
      rintro ⟨p2, R2⟩ ⟨g1, g2, g3, g4, g5, g6⟩
      dsimp only at g1 g2 g3 g4 g5 g6 ⊢
      refine ⟨g1, g2, g3, by rw [g4]; omega, fun t ht => ?_, aC_trans x4 (aC_trans e5 g6)⟩
      cases t with
      | zero =>
        have := g6.2.2.2.2 k (by rw [e3]; omega)
        rw [Nat.add_zero, this.1, this.2]
        exact e4
      | succ t =>
        rw [show k + (t + 1) = k + 1 + t by omega]
        exact g5 t (by omega)
    have spt : M v 4 = V 319 54 := hM.2.1.1.2.2.2.2
    have vC0 : M v 0 = vC V := hM.2.1.1.1
    have hvv := oV_c o
    refine T_le (eBr_chance_42_E (by omega) o) ?_
    rw [if_pos (by omega), w32_id (z := i + 1) (by omega) (by omega)]
    refine T_run (c_draw (by decide) h13 hz) ?_
    dsimp only
    rw [if_pos (show bz_up M 122 13 (zN q.2.1) 131 0 = (v : Int) by rw [bz_up_nr (by decide)]; exact hM.1)]
    have cs : chP V q.1 q.2.1 = if zD (zN q.2.1) 100 < V 319 54 then (chPush V q.1 (zD (zN (zN q.2.1)) (vC V)) (if zD (zN (zN (zN q.2.1))) 2 = 0 then -1 else 1), zN (zN (zN q.2.1)), 1) else (q.1, zN q.2.1, 0) := rfl
    by_cases c : zD (zN q.2.1) 100 < V 319 54
    · rw [if_pos c] at cs
      rw [if_pos (show zD (zN q.2.1) 100 < bz_up M 122 13 (zN q.2.1) v 4 by rw [bz_up_nr (by omega), spt]; exact c)]
      have z1 := zN_bd q.2.1
      have z2 := zN_bd (zN q.2.1)
      have hD := zD_bd (z := zN (zN q.2.1)) (show 0 < vC V by omega)
      have ev0 : bz_up M 122 13 (zN q.2.1) v 0 = vC V := by rw [bz_up_nr (by omega)]; exact vC0
      rw [ev0]
      refine T_run (c_draw (by omega) (bz_up_eq _ _ _ _) z1) ?_
      dsimp only
      refine T_run (c_draw (by decide) (bz_up_eq _ _ _ _) z2) ?_
      dsimp only
      refine T_seq (ri_push o hV hS (cR_13 o (cR_13 o (cR_13 o hM))) hD.1 hD.2) ?_
      rintro Q ⟨x1, x2⟩
      have e2 : (chN V q).2.2 = q.2.2 + 1 := by
        show q.2.2 + (chP V q.1 q.2.1).2.2 = _
        rw [cs]
      rw [w32_id (z := q.2.2 + 1) (by omega) (by omega), ← e2]
      refine tail Q (by rw [cs]; exact x1) ?_ ?_ (aC_trans (aC_trans (aC_trans aC_13 aC_13) aC_13) (aC_49 x2))
      · rw [x2 122 (by decide), bz_up_eq, cs]
      · rw [x2 148 (by decide), bz_up_nr (by decide), bz_up_nr (by decide), bz_up_nr (by decide)]; exact hk
    · rw [if_neg c] at cs
      rw [if_neg (show ¬ zD (zN q.2.1) 100 < bz_up M 122 13 (zN q.2.1) v 4 by rw [bz_up_nr (by omega), spt]; exact c)]
      have e2 : (chN V q).2.2 = q.2.2 := by
        show q.2.2 + (chP V q.1 q.2.1).2.2 = _
        rw [cs]; exact Int.add_zero _
      rw [show eBr_chance_42 Lg d N q.2.2 (i + 1) = eBr_chance_42 Lg d N (chN V q).2.2 (i + 1) by rw [e2]]
      refine tail _ (by rw [cs]; exact cR_13 o hM) ?_ ?_ aC_13
      · rw [bz_up_eq, cs]
      · rw [bz_up_nr (by decide)]; exact hk
end SU

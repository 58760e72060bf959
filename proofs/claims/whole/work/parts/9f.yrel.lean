/-! THE TOLD VALLEY STANDS: both hold the same -/
def sOut (V : bz_M) (S : Nat → Int) : Prop := (∀ c : Nat, vC V ≤ (c : Int) → c < 10 → S (2 + c) = 0) ∧ ∀ c r : Nat, c < 10 → r < 8 → ¬ ((c : Int) < vC V ∧ (r : Int) < vR V) → S (12 + (8 * c + r)) = 0 ∧ S (92 + (8 * c + r)) = 0
/-- a valley stands in a state -/
def vSt (V : bz_M) (S : Nat → Int) : Prop := vOK V ∧ sOK V S ∧ S 0 ≤ 999 ∧ sW S ∧ sZ V S ∧ sOut V S ∧ (0 ≤ V 319 54 ∧ V 319 54 ≤ 100)
def nmL (V : bz_M) (v : Nat) (M : bz_M) : Prop := ∀ l : Nat, (l : Int) < vL V → nmO (fun k => M (v + 4) (6 * l + k)) (V 356 (5 + l))
section YZ
variable {Y M V C : bz_M} {z u : Nat}
theorem sBg_row {j : Nat} (h : j < 10) : sBg M (2 + j) = M 359 j := by
  unfold sBg
  rw [if_neg (by omega), if_pos (by omega), Nat.add_sub_cancel_left]
theorem sBg_wi {j : Nat} (h : j < 80) : sBg M (12 + j) = M 360 j := by
  unfold sBg
  rw [if_neg (by omega), if_neg (by omega), if_pos (by omega), Nat.add_sub_cancel_left]
theorem sBg_ev {j : Nat} (h : j < 80) : sBg M (92 + j) = 0 := by
  unfold sBg
  rw [if_neg (by omega), if_neg (by omega), if_neg (by omega), if_pos (by omega)]
theorem sBg_of {j : Nat} : sBg M (172 + 2 * j) = if (j : Int) < M 319 46 then 1 else 0 := by
  unfold sBg
  rw [if_neg (by omega), if_neg (by omega), if_neg (by omega), if_neg (by omega)]
  by_cases c : (j : Int) < M 319 46
  · rw [if_pos (by omega), if_pos c, if_pos (by omega)]
  · rw [if_neg (by omega), if_neg c]
theorem sBg_pu {j : Nat} : sBg M (173 + 2 * j) = if (j : Int) < M 319 46 then M 357 (5 * j + 4) else 0 := by
  unfold sBg
  rw [if_neg (by omega), if_neg (by omega), if_neg (by omega), if_neg (by omega)]
  by_cases c : (j : Int) < M 319 46
  · rw [if_pos (by omega), if_pos c, if_neg (by omega), show (173 + 2 * j - 172) / 2 = j by omega]
  · rw [if_neg (by omega), if_neg c]
/-- the sizes -/
theorem sd_sz (hY : mYv Y M) (hV : mSd M V) : vC V = Y 355 0 ∧ vR V = Y 355 1 ∧ vH V = Y 355 2 ∧ vL V = Y 319 46 ∧ V 319 54 = Y 319 53 := ⟨(hV.2.2.2.1 0 (by decide)).trans hY.1.1, (hV.2.2.2.1 1 (by decide)).trans hY.1.2.1, (hV.2.2.2.1 2 (by decide)).trans hY.1.2.2.1, hV.2.2.1.2.1.trans hY.1.2.2.2.1, hV.2.2.1.2.2.1.trans hY.1.2.2.2.2.1⟩
theorem sd_so (hY : mYv Y M) (hV : mSd M V) {j : Nat} (h : j < 80) : vSo V (j : Int) = Y 358 j := by
  unfold vSo
  rw [show Int.toNat (80 + (j : Int)) = 80 + j by omega, hV.2.2.2.2.2.2.2.2.1 j h]
  exact hY.2.2.1 j h
theorem sd_57 (hY : mYv Y M) (hV : mSd M V) {l k : Nat} (hl : (l : Int) < Y 319 46) (h5 : Y 319 46 ≤ 5) (hk : k < 5) : V 357 (25 + (5 * l + k)) = Y 357 (5 * l + k) := by
  rw [hV.2.2.2.2.2.2.1 (5 * l + k) (by omega)]
  exact (hY.2.2.2.2.1 l hl).2 k hk
theorem sd_ld (hY : mYv Y M) (hV : mSd M V) {l : Nat} (hl : (l : Int) < Y 319 46) (h5 : Y 319 46 ≤ 5) : vFr V (l : Int) = Y 357 (5 * l) ∧ vTo V (l : Int) = Y 357 (5 * l + 1) ∧ vPa V (l : Int) = Y 357 (5 * l + 2) ∧ vJo V (l : Int) = Y 357 (5 * l + 3) := by
  unfold vFr vTo vPa vJo
  rw [show Int.toNat (25 + 5 * (l : Int)) = 25 + (5 * l + 0) by omega, show Int.toNat (26 + 5 * (l : Int)) = 25 + (5 * l + 1) by omega, show Int.toNat (27 + 5 * (l : Int)) = 25 + (5 * l + 2) by omega, show Int.toNat (28 + 5 * (l : Int)) = 25 + (5 * l + 3) by omega, sd_57 hY hV hl h5 (by decide), sd_57 hY hV hl h5 (by decide), sd_57 hY hV hl h5 (by decide), sd_57 hY hV hl h5 (by decide)]
  exact ⟨rfl, rfl, rfl, rfl⟩
theorem sd_6x (hY : mYv Y M) (hV : mSd M V) {w : Nat} (hw : w < 2) : V 361 (2 + w) = Y 361 w ∧ V 362 (2 + w) = Y 362 w := by
  have h := hV.2.2.2.2.1 w hw
  rw [h.1, h.2]
  obtain ⟨a, b, c, e⟩ := hY.2.2.2.2.2.1
  rcases (show w = 0 ∨ w = 1 by omega) with rfl | rfl
  · exact ⟨a, c⟩
  · exact ⟨b, e⟩
theorem sd_op (hI : yInv Y z) (hY : mYv Y M) (hV : mSd M V) {w : Nat} (hw : w < 2) (h1 : Y 361 w ≠ -1) : vOps V w = yOps Y w := by
  obtain ⟨e1, e2⟩ := sd_6x hY hV hw
  unfold vOps yOps
  rw [e1, e2]
  have hc := hI.2.1.2 w hw h1
  refine List.map_congr_left (fun i hi => ?_)
  rw [List.mem_range] at hi
  have hb : (((Y 361 w).toNat + i : Nat) : Int) < Y 319 58 := by omega
  rw [show 1600 + (Y 361 w).toNat + i = 1600 + ((Y 361 w).toNat + i) by omega, hV.2.2.2.2.2.2.2.1 _ (by rw [hY.1.2.2.2.2.2]; exact hb)]
  exact hY.2.2.2.2.2.2 _ hb
theorem sd_oE (hI : yInv Y z) (hY : mYv Y M) (hV : mSd M V) : oE V = yE Y := by
  have e : V 361 2 = Y 361 0 := (sd_6x hY hV (w := 0) (by decide)).1
  unfold oE yE
  rw [e]
  by_cases c : Y 361 0 = -1
  · rw [if_pos c, if_pos c]
  · rw [if_neg c, if_neg c]; exact sd_op hI hY hV (by decide) c
theorem sd_oB (hI : yInv Y z) (hY : mYv Y M) (hV : mSd M V) : oB V = yB Y := by
  have e : V 361 3 = Y 361 1 := (sd_6x hY hV (w := 1) (by decide)).1
  unfold oB yB
  rw [e]
  by_cases c : Y 361 1 = -1
  · rw [if_pos c, if_pos c]
  · rw [if_neg c, if_neg c]; exact sd_op hI hY hV (by decide) c
theorem sd_vOK (hI : yInv Y z) (hz : z ≤ 1600) (hY : mYv Y M) (hV : mSd M V) : vOK V := by
  obtain ⟨s1, s2, s3, s4, s5⟩ := sd_sz hY hV
  obtain ⟨o1, o2, o3, o4, o5⟩ := hI.1
  unfold vOK
  rw [s1, s2, s3, s4, sd_oE hI hY hV, sd_oB hI hY hV]
  refine ⟨hV.2.2.1.1, o1, o2, o3, o4, fun k h0 h1 => ?_, fun l h0 h1 => ?_, hI.2.2.2.2.2.2.2.2.1, hI.2.2.2.2.2.2.2.2.2, fun w hw h => ?_⟩
  · obtain ⟨j, rfl⟩ := Int.eq_ofNat_of_zero_le h0
    rw [sd_so hY hV (by omega)]
    exact hI.2.2.2.2.2.1 j (by omega)
  · obtain ⟨j, rfl⟩ := Int.eq_ofNat_of_zero_le h0
    obtain ⟨a1, a2, a3, a4⟩ := sd_ld hY hV h1 o4.2
    rw [a1, a2, a3, a4]
    have := hI.2.2.2.2.2.2.2.1 j h1
    exact ⟨this.1, this.2.1, this.2.2.1⟩
  · obtain ⟨e1, e2⟩ := sd_6x hY hV hw
    rw [e1] at h
    rw [e1, e2]
    have := hI.2.1.2 w hw h
    have := hI.2.2.2.1
    omega
/-- the state -/
theorem sd_S (hY : mYv Y M) (hV : mSd M V) (h5 : 0 ≤ Y 319 46 ∧ Y 319 46 ≤ 5) : (V 364 0 = 0 ∧ V 364 1 = 0) ∧ (∀ j, j < 10 → V 364 (2 + j) = Y 359 j) ∧ (∀ j, j < 80 → V 364 (12 + j) = Y 360 j ∧ V 364 (92 + j) = 0) ∧ (∀ j : Nat, j < 5 → V 364 (172 + 2 * j) = (if (j : Int) < Y 319 46 then 1 else 0) ∧ V 364 (173 + 2 * j) = (if (j : Int) < Y 319 46 then Y 357 (5 * j + 4) else 0)) := by
  have s := hV.2.2.2.2.2.2.2.2.2
  refine ⟨⟨(s 0 (by decide)).trans rfl, (s 1 (by decide)).trans rfl⟩, fun j hj => ?_, fun j hj => ⟨?_, ?_⟩, fun j hj => ⟨?_, ?_⟩⟩
  · rw [s _ (by omega), sBg_row hj]; exact hY.2.1 j hj
  · rw [s _ (by omega), sBg_wi hj]; exact hY.2.2.2.1 j hj
  · rw [s _ (by omega), sBg_ev hj]
  · rw [s _ (by omega), sBg_of, hY.1.2.2.2.1]
  · rw [s _ (by omega), sBg_pu, hY.1.2.2.2.1]
    by_cases c : (j : Int) < Y 319 46
    · rw [if_pos c, if_pos c]; exact (hY.2.2.2.2.1 j c).2 4 (by decide)
    · rw [if_neg c, if_neg c]
theorem sd_St (hI : yInv Y z) (hz : z ≤ 1600) (hY : mYv Y M) (hV : mSd M V) : vSt V (V 364) := by
  obtain ⟨s1, s2, s3, s4, s5⟩ := sd_sz hY hV
  obtain ⟨o1, o2, o3, o4, o5⟩ := hI.1
  obtain ⟨t0, t1, t2, t3⟩ := sd_S hY hV o4
  refine ⟨sd_vOK hI hz hY hV, ⟨by rw [t0.1]; decide, by rw [t0.2]; decide, fun c h0 h1 => ?_, fun k h0 h1 => ?_, fun l h0 h1 => ?_⟩, by rw [t0.1]; decide, fun k h0 h1 => ?_, fun l h0 h1 => ?_, ⟨fun c h0 h1 => ?_, fun c r h0 h1 h2 => ?_⟩, by rw [s5]; exact o5⟩
  · obtain ⟨j, rfl⟩ := Int.eq_ofNat_of_zero_le h0
    unfold sRow
    rw [show Int.toNat (2 + (j : Int)) = 2 + j by omega, t1 j (by omega), s2]
    exact hI.2.2.2.2.1.1 j (by omega)
  · obtain ⟨j, rfl⟩ := Int.eq_ofNat_of_zero_le h0
    unfold sWi sEv
    have := hI.2.2.1 j (by omega)
    rw [show Int.toNat (12 + (j : Int)) = 12 + j by omega, show Int.toNat (92 + (j : Int)) = 92 + j by omega, (t2 j (by omega)).1, (t2 j (by omega)).2]
    omega
  · obtain ⟨j, rfl⟩ := Int.eq_ofNat_of_zero_le h0
    rw [s4] at h1
    unfold sOf sPu
    have := (hI.2.2.2.2.2.2.2.1 j h1).2.2.2.1
    rw [show Int.toNat (172 + 2 * (j : Int)) = 172 + 2 * j by omega, show Int.toNat (173 + 2 * (j : Int)) = 173 + 2 * j by omega, (t3 j (by omega)).1, (t3 j (by omega)).2, if_pos h1, if_pos h1]
    omega
  · obtain ⟨j, rfl⟩ := Int.eq_ofNat_of_zero_le h0
    unfold sWi
    have := hI.2.2.1 j (by omega)
    rw [show Int.toNat (12 + (j : Int)) = 12 + j by omega, (t2 j (by omega)).1]
    omega
  · obtain ⟨j, rfl⟩ := Int.eq_ofNat_of_zero_le (show 0 ≤ l by omega)
    rw [s4] at h0
    unfold sOf sPu
    rw [show Int.toNat (172 + 2 * (j : Int)) = 172 + 2 * j by omega, show Int.toNat (173 + 2 * (j : Int)) = 173 + 2 * j by omega, (t3 j (by omega)).1, (t3 j (by omega)).2, if_neg (by omega), if_neg (by omega)]
    exact ⟨rfl, rfl⟩
  · rw [t1 c h1]
    exact hI.2.2.2.2.1.2 c (by omega) h1
  · rw [(t2 _ (by omega)).1, (t2 _ (by omega)).2]
    exact ⟨hI.2.2.2.2.2.2.1 c r h0 h1 (by omega), rfl⟩
theorem sd_cV (hI : yInv Y z) (hz : z ≤ 1600) (hY : mYv Y M) (hV : mSd M V) (hC : cY u Y C) : cV V u C := by
  obtain ⟨s1, s2, s3, s4, s5⟩ := sd_sz hY hV
  obtain ⟨o1, o2, o3, o4, o5⟩ := hI.1
  obtain ⟨c1, c2, c3, c4, c5, c6, c7, c8⟩ := hC
  have ln : ∀ w, w < 2 → Y 361 w ≠ -1 → (yOps Y w).length ≤ 1600 := fun w hw h => by
    have := hI.2.1.2 w hw h
    have := hI.2.2.2.1
    unfold yOps
    rw [List.length_map, List.length_range]
    omega
  unfold cV
  rw [s1, s2, s3, s4, s5, sd_oE hI hY hV, sd_oB hI hY hV]
  refine ⟨⟨c1.1, c1.2.1, c1.2.2.1, c1.2.2.2.1, c1.2.2.2.2.1⟩, fun k h0 h1 => ?_, fun l h0 h1 => ?_, ⟨c7.1, ?_, c7.2⟩, ⟨c8.1, ?_, c8.2⟩⟩
  · obtain ⟨j, rfl⟩ := Int.eq_ofNat_of_zero_le h0
    rw [sd_so hY hV (by omega), Int.toNat_natCast]
    exact c3 j (by omega)
  · obtain ⟨j, rfl⟩ := Int.eq_ofNat_of_zero_le h0
    obtain ⟨a1, a2, a3, a4⟩ := sd_ld hY hV h1 o4.2
    have := (c5 j h1).1
    rw [a1, a2, a3, a4, Int.toNat_natCast]
    exact ⟨this.1, this.2.1, this.2.2.1, this.2.2.2.1⟩
  · unfold yE
    by_cases c : Y 361 0 = -1
    · rw [if_pos c]; decide
    · rw [if_neg c]; exact ln 0 (by decide) c
  · unfold yB
    by_cases c : Y 361 1 = -1
    · rw [if_pos c]; decide
    · rw [if_neg c]; exact ln 1 (by decide) c
theorem sd_nm (hI : yInv Y z) (hY : mYv Y M) (hV : mSd M V) (hC : cY u Y C) : nmL V u C := by
  obtain ⟨s1, s2, s3, s4, s5⟩ := sd_sz hY hV
  have o4 := hI.1.2.2.2.1
  intro l hl
  rw [s4] at hl
  rw [hV.2.2.2.2.2.1 l (by omega), (hY.2.2.2.2.1 l hl).1]
  obtain ⟨m, m1, m2, m3, m4, m5⟩ := (hI.2.2.2.2.2.2.2.1 l hl).2.2.2.2
  have k := (hC.2.2.2.2.1 l hl).2
  have nv : ∀ j, j ≤ m → nmV (fun k => C (u + 4) (6 * l + k)) j = nmV (fun k => Y 1000 (6 * l + k)) j := by
    intro j
    induction j with
    | zero => intro _; rfl
    | succ j ih =>
      intro hj
      show 27 * nmV (fun k => C (u + 4) (6 * l + k)) j + C (u + 4) (6 * l + j) = 27 * nmV (fun k => Y 1000 (6 * l + k)) j + Y 1000 (6 * l + j)
      rw [ih (by omega), k j (by omega)]
  exact ⟨m, m1, m2, fun j hj => by dsimp only; rw [k j (by omega)]; exact m3 j hj, fun j hj h6 => by dsimp only; rw [k j h6]; exact m4 j hj h6, by rw [nv m (Nat.le_refl m)]; exact m5⟩
theorem sd_cS {C' : bz_M} (hI : yInv Y z) (hY : mYv Y M) (hV : mSd M V) (hC : cY u Y C) (hB : cBg u 10 80 5 C C') : cS 148 (V 364) C' := by
  have o4 := hI.1.2.2.2.1
  obtain ⟨t0, t1, t2, t3⟩ := sd_S hY hV o4
  obtain ⟨c1, c2, c3, c4, c5, c6, c7, c8⟩ := hC
  obtain ⟨b1, b2, b3, b4, b5, b6⟩ := hB
  refine ⟨⟨?_, ?_⟩, fun c h0 h1 => ?_, fun k h0 h1 => ?_, fun l h0 h1 => ?_⟩
  · rw [b3.1, t0.1]; rfl
  · rw [b3.2.1, t0.2]
  · obtain ⟨j, rfl⟩ := Int.eq_ofNat_of_zero_le h0
    unfold sRow
    rw [Int.toNat_natCast, show Int.toNat (2 + (j : Int)) = 2 + j by omega, t1 j (by omega)]
    exact (b4 j (by omega)).trans (c2 j (by omega))
  · obtain ⟨j, rfl⟩ := Int.eq_ofNat_of_zero_le h0
    unfold sWi sEv
    rw [Int.toNat_natCast, show Int.toNat (12 + (j : Int)) = 12 + j by omega, show Int.toNat (92 + (j : Int)) = 92 + j by omega, (t2 j (by omega)).1, (t2 j (by omega)).2]
    have := b5 j (by omega)
    exact ⟨this.1.trans (c4 j (by omega)), this.2⟩
  · obtain ⟨j, rfl⟩ := Int.eq_ofNat_of_zero_le h0
    unfold sOf sPu
    rw [Int.toNat_natCast, show Int.toNat (172 + 2 * (j : Int)) = 172 + 2 * j by omega, show Int.toNat (173 + 2 * (j : Int)) = 173 + 2 * j by omega, (t3 j (by omega)).1, (t3 j (by omega)).2]
    have e := b6 j (by omega)
    rw [c1.2.2.2.1] at e
    refine ⟨e.1, e.2.trans ?_⟩
    by_cases c : (j : Int) < Y 319 46
    · rw [if_pos c]; exact (c5 j c).1.2.2.2.2
    · rw [if_neg c]; exact c6 j (by omega) (by omega)
theorem sd_vo (hI : yInv Y z) (hY : mYv Y M) (hV : mSd M V) (hC : cY u Y C) : (∀ k : Nat, vC V ≤ (k : Int) → k < 10 → C (u + 1) k = 0) ∧ (∀ k r : Nat, k < 10 → r < 8 → ¬ ((k : Int) < vC V ∧ (r : Int) < vR V) → C (u + 3) (8 * k + r) = 0) ∧ ∀ l : Nat, vL V ≤ (l : Int) → l < 5 → C (u + 9) l = 0 := by
  obtain ⟨s1, s2, s3, s4, s5⟩ := sd_sz hY hV
  refine ⟨fun k x y => ?_, fun k r x y w => ?_, fun l x y => ?_⟩
  · rw [hC.2.1 k y]
    exact hI.2.2.2.2.1.2 k (by rw [← s1]; exact x) y
  · rw [hC.2.2.2.1 (8 * k + r) (by omega)]
    refine hI.2.2.2.2.2.2.1 k r x y (fun h => w ?_)
    rw [s1, s2]; exact h
  · exact hC.2.2.2.2.2.1 l (by rw [← s4]; exact x) y
theorem sd_mR : vOK V → mR V (V 364) V := fun _ => ⟨⟨⟨rfl, rfl, rfl, rfl, rfl⟩, fun _ _ => rfl, fun _ _ => rfl, fun _ _ => ⟨rfl, rfl⟩, fun _ _ => rfl⟩, fun _ _ => rfl⟩
end YZ

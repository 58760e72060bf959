/-! THE TOLD VALLEY STANDS: what the reference holds then -/
def sBg (M : bz_M) (k : Nat) : Int := if k < 2 then 0 else if k < 12 then M 359 (k - 2) else if k < 92 then M 360 (k - 12) else if k < 172 then 0 else if (k : Int) < 172 + 2 * M 319 46 then (if (k - 172) % 2 = 0 then 1 else M 357 (5 * ((k - 172) / 2) + 4)) else 0
def mSd (M M' : bz_M) : Prop := (∀ r, r ≠ 319 → r ≠ 355 → r ≠ 356 → r ≠ 357 → r ≠ 358 → r ≠ 361 → r ≠ 362 → r ≠ 363 → r ≠ 364 → M' r = M r) ∧ (∀ k, k ≠ 60 → k ≠ 47 → k ≠ 54 → k ≠ 85 → k ≠ 79 → M' 319 k = M 319 k) ∧ (M' 319 60 = 1 ∧ M' 319 47 = M 319 46 ∧ M' 319 54 = M 319 53 ∧ M' 319 85 = 0 ∧ M' 319 79 = 0) ∧ (∀ k, k < 3 → M' 355 (3 + k) = M 355 k) ∧ (∀ k, k < 2 → M' 361 (2 + k) = M 361 k ∧ M' 362 (2 + k) = M 362 k) ∧ (∀ k, k < 5 → M' 356 (5 + k) = M 356 k) ∧ (∀ k, k < 25 → M' 357 (25 + k) = M 357 k) ∧ (∀ k : Nat, (k : Int) < M 319 58 → M' 363 (1600 + k) = M 363 k) ∧ (∀ k, k < 80 → M' 358 (80 + k) = M 358 k) ∧ (∀ k, k < 303 → M' 364 k = sBg M k)
section YW
variable {Lg d : Nat} {M : bz_M}
theorem zrR_f {r n q : Nat} (h : q ≠ r) : zrR M r n q = M q := by
  funext k
  unfold zrR
  rw [if_neg (fun e => h e.1)]
theorem ldR_f {n q : Nat} (h : q ≠ 364) : ldR M n q = M q := by
  funext k
  unfold ldR
  rw [if_neg (fun e => h e.1)]
theorem stR_sd {L N : Nat} {A B C1 C2 D E F G H I1 I2 J Z : bz_M} (h46 : M 319 46 = (L : Int)) (hL : L ≤ 5) (h58 : M 319 58 = (N : Int)) (hA : A = bz_up (bz_up (bz_up M 319 60 1) 319 47 (M 319 46)) 319 54 (M 319 53)) (hB : B = cpR A 355 3 355 3) (hC1 : C1 = cpR B 361 2 361 2) (hC2 : C2 = cpR C1 362 2 362 2) (hD : D = cpR C2 356 5 356 5) (hE : E = cpR D 357 25 357 25) (hF : F = cpR E 363 1600 363 N) (hG : G = zrR F 364 303) (hH : H = cpR G 364 2 359 10) (hI1 : I1 = cpR H 358 80 358 80) (hI2 : I2 = cpR I1 364 12 360 80) (hJ : J = ldR I2 L) (hZ : Z = bz_up (bz_up J 319 85 0) 319 79 0) : mSd M Z := by
  have a : ∀ r, r ≠ 319 → A r = M r := fun r h => by rw [hA, bz_up_fn h, bz_up_fn h, bz_up_fn h]
  have b : ∀ r, r ≠ 355 → B r = A r := fun r h => by rw [hB]; exact cpR_f h
  have c1 : ∀ r, r ≠ 361 → C1 r = B r := fun r h => by rw [hC1]; exact cpR_f h
  have c2 : ∀ r, r ≠ 362 → C2 r = C1 r := fun r h => by rw [hC2]; exact cpR_f h
  have dd : ∀ r, r ≠ 356 → D r = C2 r := fun r h => by rw [hD]; exact cpR_f h
  have ee : ∀ r, r ≠ 357 → E r = D r := fun r h => by rw [hE]; exact cpR_f h
  have ff : ∀ r, r ≠ 363 → F r = E r := fun r h => by rw [hF]; exact cpR_f h
  have gg : ∀ r, r ≠ 364 → G r = F r := fun r h => by rw [hG]; exact zrR_f h
  have hh : ∀ r, r ≠ 364 → H r = G r := fun r h => by rw [hH]; exact cpR_f h
  have i1 : ∀ r, r ≠ 358 → I1 r = H r := fun r h => by rw [hI1]; exact cpR_f h
  have i2 : ∀ r, r ≠ 364 → I2 r = I1 r := fun r h => by rw [hI2]; exact cpR_f h
  have jj : ∀ r, r ≠ 364 → J r = I2 r := fun r h => by rw [hJ]; exact ldR_f h
  have zz : ∀ r, r ≠ 319 → Z r = J r := fun r h => by rw [hZ, bz_up_fn h, bz_up_fn h]
  have j9 : J 319 = A 319 := by rw [jj 319 (by decide), i2 319 (by decide), i1 319 (by decide), hh 319 (by decide), gg 319 (by decide), ff 319 (by decide), ee 319 (by decide), dd 319 (by decide), c2 319 (by decide), c1 319 (by decide), b 319 (by decide)]
  have I57 : ∀ k, k < 25 → I2 357 k = M 357 k := fun k hk => by
    rw [i2 357 (by decide), i1 357 (by decide), hh 357 (by decide), gg 357 (by decide), ff 357 (by decide), hE, cpR_lo hk, dd 357 (by decide), c2 357 (by decide), c1 357 (by decide), b 357 (by decide), a 357 (by decide)]
  refine ⟨fun r x1 x2 x3 x4 x5 x6 x7 x8 x9 => ?_, fun k x1 x2 x3 x4 x5 => ?_, ⟨?_, ?_, ?_, ?_, ?_⟩, fun k hk => ?_, fun k hk => ⟨?_, ?_⟩, fun k hk => ?_, fun k hk => ?_, fun k hk => ?_, fun k hk => ?_, fun k hk => ?_⟩
  · rw [zz r x1, jj r x9, i2 r x9, i1 r x5, hh r x9, gg r x9, ff r x8, ee r x4, dd r x3, c2 r x7, c1 r x6, b r x2, a r x1]
  · rw [hZ, bz_up_nk x5, bz_up_nk x4, j9, hA, bz_up_nk x3, bz_up_nk x2, bz_up_nk x1]
  · rw [hZ, bz_up_nk (by decide), bz_up_nk (by decide), j9, hA, bz_up_nk (by decide), bz_up_nk (by decide), bz_up_eq]
  · rw [hZ, bz_up_nk (by decide), bz_up_nk (by decide), j9, hA, bz_up_nk (by decide), bz_up_eq]
  · rw [hZ, bz_up_nk (by decide), bz_up_nk (by decide), j9, hA, bz_up_eq]
  · rw [hZ, bz_up_nk (by decide), bz_up_eq]
  · rw [hZ, bz_up_eq]
  · rw [zz 355 (by decide), jj 355 (by decide), i2 355 (by decide), i1 355 (by decide), hh 355 (by decide), gg 355 (by decide), ff 355 (by decide), ee 355 (by decide), dd 355 (by decide), c2 355 (by decide), c1 355 (by decide), hB, cpR_in hk, a 355 (by decide)]
  · rw [zz 361 (by decide), jj 361 (by decide), i2 361 (by decide), i1 361 (by decide), hh 361 (by decide), gg 361 (by decide), ff 361 (by decide), ee 361 (by decide), dd 361 (by decide), c2 361 (by decide), hC1, cpR_in hk, b 361 (by decide), a 361 (by decide)]
  · rw [zz 362 (by decide), jj 362 (by decide), i2 362 (by decide), i1 362 (by decide), hh 362 (by decide), gg 362 (by decide), ff 362 (by decide), ee 362 (by decide), dd 362 (by decide), hC2, cpR_in hk, c1 362 (by decide), b 362 (by decide), a 362 (by decide)]
  · rw [zz 356 (by decide), jj 356 (by decide), i2 356 (by decide), i1 356 (by decide), hh 356 (by decide), gg 356 (by decide), ff 356 (by decide), ee 356 (by decide), hD, cpR_in hk, c2 356 (by decide), c1 356 (by decide), b 356 (by decide), a 356 (by decide)]
  · rw [zz 357 (by decide), jj 357 (by decide), i2 357 (by decide), i1 357 (by decide), hh 357 (by decide), gg 357 (by decide), ff 357 (by decide), hE, cpR_in hk, dd 357 (by decide), c2 357 (by decide), c1 357 (by decide), b 357 (by decide), a 357 (by decide)]
  · rw [zz 363 (by decide), jj 363 (by decide), i2 363 (by decide), i1 363 (by decide), hh 363 (by decide), gg 363 (by decide), hF, cpR_in (by omega), ee 363 (by decide), dd 363 (by decide), c2 363 (by decide), c1 363 (by decide), b 363 (by decide), a 363 (by decide)]
  · rw [zz 358 (by decide), jj 358 (by decide), i2 358 (by decide), hI1, cpR_in hk, hh 358 (by decide), gg 358 (by decide), ff 358 (by decide), ee 358 (by decide), dd 358 (by decide), c2 358 (by decide), c1 358 (by decide), b 358 (by decide), a 358 (by decide)]
  · have m359 : G 359 = M 359 := by rw [gg 359 (by decide), ff 359 (by decide), ee 359 (by decide), dd 359 (by decide), c2 359 (by decide), c1 359 (by decide), b 359 (by decide), a 359 (by decide)]
    have m360 : I1 360 = M 360 := by rw [i1 360 (by decide), hh 360 (by decide), gg 360 (by decide), ff 360 (by decide), ee 360 (by decide), dd 360 (by decide), c2 360 (by decide), c1 360 (by decide), b 360 (by decide), a 360 (by decide)]
    have G0 : G 364 k = 0 := by rw [hG]; unfold zrR; rw [if_pos ⟨rfl, hk⟩]
    have Hk : H 364 k = if 2 ≤ k ∧ k < 12 then M 359 (k - 2) else 0 := by
      rw [hH]
      unfold cpR
      by_cases e : 2 ≤ k ∧ k < 12
      · rw [if_pos ⟨rfl, e.1, by omega⟩, if_pos e, m359]
      · rw [if_neg (by omega), if_neg e, G0]
    have Ik : I2 364 k = if 12 ≤ k ∧ k < 92 then M 360 (k - 12) else if 2 ≤ k ∧ k < 12 then M 359 (k - 2) else 0 := by
      rw [hI2]
      unfold cpR
      by_cases e : 12 ≤ k ∧ k < 92
      · rw [if_pos ⟨rfl, e.1, by omega⟩, if_pos e, m360]
      · rw [if_neg (by omega), if_neg e, i1 364 (by decide), Hk]
    rw [zz 364 (by decide), hJ]
    unfold ldR sBg
    by_cases k2 : k < 2
    · rw [if_neg (by omega), if_pos k2, Ik, if_neg (by omega), if_neg (by omega)]
    rw [if_neg k2]
    by_cases k12 : k < 12
    · rw [if_neg (by omega), if_pos k12, Ik, if_neg (by omega), if_pos (by omega)]
    rw [if_neg k12]
    by_cases k92 : k < 92
    · rw [if_neg (by omega), if_pos k92, Ik, if_pos (by omega)]
    rw [if_neg k92]
    by_cases k172 : k < 172
    · rw [if_neg (by omega), if_pos k172, Ik, if_neg (by omega), if_neg (by omega)]
    rw [if_neg k172, h46]
    by_cases kl : (k : Int) < 172 + 2 * (L : Int)
    · have e3 : 364 = 364 ∧ 172 ≤ k ∧ k < 172 + 2 * L := by omega
      rw [if_pos e3, if_pos kl, I57 _ (by omega)]
    · rw [if_neg (by omega), if_neg kl, Ik, if_neg (by omega), if_neg (by omega)]
theorem my_stands (h46 : 0 ≤ M 319 46 ∧ M 319 46 ≤ 5) (h58 : 0 ≤ M 319 58 ∧ M 319 58 ≤ 1600) : w_T (eMo_stands Lg d M) (mSd M) := by
  obtain ⟨L, hL⟩ := Int.eq_ofNat_of_zero_le h46.1
  obtain ⟨N, hN⟩ := Int.eq_ofNat_of_zero_le h58.1
  refine T_le eMo_stands_E ?_
  refine sd_23 (sd_50 (sd_91 (sd_118 (sd_147 (N := N) (by omega) ?_ (sd_179 (sd_201 (sd_229 (sd_273 (L := L) (by omega) ?_ ?_))))))))
  · rw [cpR_f (by decide), cpR_f (by decide), cpR_f (by decide), cpR_f (by decide), cpR_f (by decide), bz_up_nk (by decide), bz_up_nk (by decide), bz_up_nk (by decide)]; exact hN
  · rw [cpR_f (by decide), cpR_f (by decide), cpR_f (by decide), zrR_f (by decide), cpR_f (by decide), cpR_f (by decide), cpR_f (by decide), cpR_f (by decide), cpR_f (by decide), cpR_f (by decide), bz_up_nk (by decide), bz_up_eq]; exact hL
  · exact stR_sd hL (by omega) hN rfl rfl rfl rfl rfl rfl rfl rfl rfl rfl rfl rfl rfl
end YW

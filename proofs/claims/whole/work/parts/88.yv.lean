/-! A VALLEY IS TOLD: what is told, statement by statement -/
def yOps (Y : bz_M) (w : Nat) : List Int := (List.range ((Y 362 w - Y 361 w).toNat)).map (fun i => Y 363 ((Y 361 w).toNat + i))
def yE (Y : bz_M) : List Int := if Y 361 0 = -1 then [46, 42, 1, 44, 2, 45, 2] else yOps Y 0
def yB (Y : bz_M) : List Int := if Y 361 1 = -1 then [42, 1000, 8] else yOps Y 1
def cY0 (v : Nat) (Y M : bz_M) : Prop := M v 0 = Y 355 0 ∧ M v 1 = Y 355 1 ∧ M v 2 = Y 355 2 ∧ M v 3 = Y 319 46 ∧ M v 4 = Y 319 53 ∧ M v 16 = bz_b (Y 361 0 ≠ -1) ∧ M v 17 = bz_b (Y 361 1 ≠ -1)
def cY4 (v : Nat) (Y M : bz_M) : Prop := ∀ l : Nat, (l : Int) < Y 319 46 → (M (v + 5) l = Y 357 (5 * l) ∧ M (v + 6) l = Y 357 (5 * l + 1) ∧ M (v + 7) l = Y 357 (5 * l + 2) ∧ M (v + 8) l = Y 357 (5 * l + 3) ∧ M (v + 9) l = Y 357 (5 * l + 4)) ∧ ∀ k, k < 6 → M (v + 4) (6 * l + k) = Y 1000 (6 * l + k)
/-- the class's valley that is read -/
def cY (v : Nat) (Y M : bz_M) : Prop := cY0 v Y M ∧ (∀ k, k < 10 → M (v + 1) k = Y 359 k) ∧ (∀ k, k < 80 → M (v + 2) k = Y 358 k) ∧ (∀ k, k < 80 → M (v + 3) k = Y 360 k) ∧ cY4 v Y M ∧ (∀ l : Nat, Y 319 46 ≤ (l : Int) → l < 5 → M (v + 9) l = 0) ∧ cC (v + 10) (yE Y) M ∧ cC (v + 13) (yB Y) M
/-- the reference's -/
def mYv (Y M : bz_M) : Prop := (M 355 0 = Y 355 0 ∧ M 355 1 = Y 355 1 ∧ M 355 2 = Y 355 2 ∧ M 319 46 = Y 319 46 ∧ M 319 53 = Y 319 53 ∧ M 319 58 = Y 319 58) ∧ (∀ k, k < 10 → M 359 k = Y 359 k) ∧ (∀ k, k < 80 → M 358 k = Y 358 k) ∧ (∀ k, k < 80 → M 360 k = Y 360 k) ∧ (∀ l : Nat, (l : Int) < Y 319 46 → M 356 l = Y 356 l ∧ ∀ k, k < 5 → M 357 (5 * l + k) = Y 357 (5 * l + k)) ∧ (M 361 0 = Y 361 0 ∧ M 361 1 = Y 361 1 ∧ M 362 0 = Y 362 0 ∧ M 362 1 = Y 362 1) ∧ (∀ k : Nat, (k : Int) < Y 319 58 → M 363 k = Y 363 k)
/-- what is so of it -/
def yOK (Y : bz_M) : Prop := (3 ≤ Y 355 0 ∧ Y 355 0 ≤ 10) ∧ (2 ≤ Y 355 1 ∧ Y 355 1 ≤ 8) ∧ (1 ≤ Y 355 2 ∧ Y 355 2 ≤ 7) ∧ (0 ≤ Y 319 46 ∧ Y 319 46 ≤ 5) ∧ (0 ≤ Y 319 53 ∧ Y 319 53 ≤ 100)
section YC
variable (T : Nat → Int) (n : Nat)
/-- the size -/
def ySz (Y : bz_M) (s : sT) : sT × bz_M :=
  let s1 := oN T n 3 10 (oW T n 0 s)
  let s2 := oN T n 2 8 (oW T n 1 s1.1)
  let s3 := oN T n 1 7 (oW T n 2 s2.1)
  (s3.1, bz_up (bz_up (bz_up Y 355 0 s1.2) 355 1 s2.2) 355 2 s3.2)
def yRu (Y : bz_M) (s : sT) : sT × bz_M :=
  let s1 := oN T n 0 (Y 355 0 - 1) s
  let s2 := oN T n 0 (Y 355 1 - 1) s1.1
  (s2.1, bz_up Y 359 s1.2.toNat s2.2)
def ySo (Y : bz_M) (s : sT) : sT × bz_M :=
  let s1 := oN T n 0 (Y 355 0 - 1) s
  let s2 := oN T n 0 (Y 355 1 - 1) s1.1
  let s3 := oN T n 0 9 s2.1
  (s3.1, bz_up Y 358 (8 * s1.2 + s2.2).toNat s3.2)
def yWi (Y : bz_M) (s : sT) : sT × bz_M :=
  let s1 := oN T n 0 (Y 355 0 - 1) s
  let s2 := oN T n 0 (Y 355 1 - 1) s1.1
  (match s2.1 with
    | .inl e => (.inl e, Y)
    | .inr q => if Y 360 (8 * s1.2 + s2.2).toNat < 9 then (.inr q, bz_up Y 360 (8 * s1.2 + s2.2).toNat (Y 360 (8 * s1.2 + s2.2).toNat + 1)) else (.inl (2, (sPc s1.1).toNat), Y))
def ySp (Y : bz_M) (s : sT) : sT × bz_M :=
  let s1 := oN T n 0 100 s
  (s1.1, bz_up Y 319 53 s1.2)
end YC
section YD
variable {Lg d n v : Nat} {T : Nat → Int} {Y M M' : bz_M} {s : sT}
def fY (v : Nat) (M M' : bz_M) : Prop := ∀ r, r ≠ 123 → r ≠ 130 → ¬ (v ≤ r ∧ r ≤ v + 15) → M' r = M r
theorem fY_T (h : fT M M') : fY v M M' := fun r a _ _ => h r a
theorem fY_trans {A B C : bz_M} (h : fY v A B) (g : fY v B C) : fY v A C := fun r a b c => (g r a b c).trans (h r a b c)
theorem fY_up {r k : Nat} {x : Int} (h : v ≤ r ∧ r ≤ v + 15) : fY v M (bz_up M r k x) := fun r' _ _ b => bz_up_fn (fun e => b (by rw [e]; exact h))
theorem fY_st (hv : bz_oV v) (f : fY v M M') (h : stC M) : stC M' := by
  have hvv := oV_c hv
  intro r k h1 h2
  rw [f r (by omega) (by omega) (by omega)]
  exact h r k h1 h2
theorem fY_tb (hv : bz_oV v) (f : fY v M M') (h : tb T n M) : tb T n M' := by
  have hvv := oV_c hv
  exact tb_co h (f 124 (by decide) (by decide) (by omega))
theorem cY_T (hv : bz_oV v) (h : cY v Y M) (f : fT M M') : cY v Y M' := by
  have hvv := oV_c hv
  unfold cY cY0 cY4 cC at h ⊢
  rw [f v (by omega), f (v + 1) (by omega), f (v + 2) (by omega), f (v + 3) (by omega), f (v + 4) (by omega), f (v + 5) (by omega), f (v + 6) (by omega), f (v + 7) (by omega), f (v + 8) (by omega), f (v + 9) (by omega), f (v + 10) (by omega), f (v + 10 + 1) (by omega), f (v + 13) (by omega), f (v + 13 + 1) (by omega)]
  exact h
theorem cSt_up {r k : Nat} {x : Int} (h : cSt T n s M) (hr : r ≠ 123) : cSt T n s (bz_up M r k x) := cSt_co h (bz_up_fn (Ne.symm hr))
theorem c_size (hd : 4 < d) (hv : bz_oV v) (hs : stC M) (ht : tb T n M) (hY : cY v Y M) (h : cSt T n s M) : w_T (eVy_readSize Lg d v M) (fun M' => cSt T n (ySz T n Y s).1 M' ∧ fY v M M' ∧ cY v (ySz T n Y s).2 M') := by
  have hvv := oV_c hv
  refine T_le (eVy_readSize_E (by omega) hv) ?_
  refine T_seq (cs_W (i := 0) (by omega) hs ht (by decide) h) ?_
  rintro M1 ⟨a1, b1⟩
  have f1 : fY v M M1 := fY_T b1
  have y1 := cY_T hv hY b1
  refine T_seq (cs_N (by omega) (fY_st hv f1 hs) (fY_tb hv f1 ht) a1) ?_
  rintro ⟨n1, M2⟩ ⟨e2, a2, b2⟩
  dsimp only at e2 a2 b2 ⊢
  have y2 := cY_T hv y1 b2
  have f2 : fY v M (bz_up M2 v 0 n1) := fY_trans (fY_trans f1 (fY_T b2)) (fY_up (by omega))
  refine T_seq (cs_W (i := 1) (by omega) (fY_st hv f2 hs) (fY_tb hv f2 ht) (by decide) (cSt_up a2 (by omega))) ?_
  rintro M3 ⟨a3, b3⟩
  have f3 := fY_trans f2 (fY_T b3)
  refine T_seq (cs_N (by omega) (fY_st hv f3 hs) (fY_tb hv f3 ht) a3) ?_
  rintro ⟨n2, M4⟩ ⟨e4, a4, b4⟩
  dsimp only at e4 a4 b4 ⊢
  have f4 : fY v M (bz_up M4 v 1 n2) := fY_trans (fY_trans f3 (fY_T b4)) (fY_up (by omega))
  refine T_seq (cs_W (i := 2) (by omega) (fY_st hv f4 hs) (fY_tb hv f4 ht) (by decide) (cSt_up a4 (by omega))) ?_
  rintro M5 ⟨a5, b5⟩
  have f5 := fY_trans f4 (fY_T b5)
  refine T_seq (cs_N (by omega) (fY_st hv f5 hs) (fY_tb hv f5 ht) a5) ?_
  rintro ⟨n3, M6⟩ ⟨e6, a6, b6⟩
  dsimp only at e6 a6 b6 ⊢
  have f6 : fY v M (bz_up M6 v 2 n3) := fY_trans (fY_trans f5 (fY_T b6)) (fY_up (by omega))
  refine T_some ⟨cSt_up a6 (by omega), f6, ?_⟩
  have k6 : ∀ r, v < r → r ≤ v + 15 → bz_up M6 v 2 n3 r = M2 r := fun r h1 h2 => by
    rw [bz_up_fn (by omega), b6 r (by omega), b5 r (by omega), bz_up_fn (by omega), b4 r (by omega), b3 r (by omega), bz_up_fn (by omega)]
  have k0 : ∀ k, bz_up M6 v 2 n3 v k = if k = 2 then n3 else if k = 1 then n2 else if k = 0 then n1 else M2 v k := fun k => by
    rw [bz_up_rk, b6 v (by omega), b5 v (by omega), bz_up_rk, b4 v (by omega), b3 v (by omega), bz_up_rk]
    repeat' split
    all_goals first | rfl | omega
  have yy : ∀ r k, ¬ (r = 355 ∧ k < 3) → (ySz T n Y s).2 r k = Y r k := fun r k hr => by
    show bz_up (bz_up (bz_up Y 355 0 _) 355 1 _) 355 2 _ r k = Y r k
    rw [bz_up_rk, if_neg (by omega), bz_up_rk, if_neg (by omega), bz_up_rk, if_neg (by omega)]
  obtain ⟨c0, c1, c2, c3, c4, c5, c6, c7⟩ := y2
  have eE : yE (ySz T n Y s).2 = yE Y := by
    unfold yE yOps
    simp only [yy 361 0 (by omega), yy 362 0 (by omega), fun k => yy 363 k (by omega)]
  have eB : yB (ySz T n Y s).2 = yB Y := by
    unfold yB yOps
    simp only [yy 361 1 (by omega), yy 362 1 (by omega), fun k => yy 363 k (by omega)]
  refine ⟨⟨?_, ?_, ?_, ?_, ?_, ?_, ?_⟩, fun k hk => ?_, fun k hk => ?_, fun k hk => ?_, fun l hl => ?_, fun l h1 h2 => ?_, ?_, ?_⟩
  · rw [k0 0]; exact e2
  · rw [k0 1]; exact e4
  · rw [k0 2]; exact e6
  · rw [k0 3, yy 319 46 (by omega)]; exact c0.2.2.2.1
  · rw [k0 4, yy 319 53 (by omega)]; exact c0.2.2.2.2.1
  · rw [k0 16, yy 361 0 (by omega)]; exact c0.2.2.2.2.2.1
  · rw [k0 17, yy 361 1 (by omega)]; exact c0.2.2.2.2.2.2
  · rw [k6 (v + 1) (by omega) (by omega), yy 359 k (by omega)]; exact c1 k hk
  · rw [k6 (v + 2) (by omega) (by omega), yy 358 k (by omega)]; exact c2 k hk
  · rw [k6 (v + 3) (by omega) (by omega), yy 360 k (by omega)]; exact c3 k hk
  · rw [yy 319 46 (by omega)] at hl
    rw [k6 (v + 4) (by omega) (by omega), k6 (v + 5) (by omega) (by omega), k6 (v + 6) (by omega) (by omega), k6 (v + 7) (by omega) (by omega), k6 (v + 8) (by omega) (by omega), k6 (v + 9) (by omega) (by omega)]
    simp only [fun k => yy 357 k (by omega), fun k => yy 1000 k (by omega)]
    exact c4 l hl
  · rw [yy 319 46 (by omega)] at h1
    rw [k6 (v + 9) (by omega) (by omega)]
    exact c5 l h1 h2
  · rw [eE]; unfold cC; rw [k6 (v + 10) (by omega) (by omega), k6 (v + 10 + 1) (by omega) (by omega)]; exact c6
  · rw [eB]; unfold cC; rw [k6 (v + 13) (by omega) (by omega), k6 (v + 13 + 1) (by omega) (by omega)]; exact c7
end YD

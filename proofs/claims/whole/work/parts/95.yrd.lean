/-! A VALLEY IS TOLD: the class, from the first piece on -/
def yZ (a b c z8 z9 : Int) : bz_M := fun r k => if r = 355 then (if k = 0 then a else if k = 1 then b else if k = 2 then c else 0) else if r = 358 then 5 else if r = 361 then -1 else if r = 362 then (if k = 0 then z8 else z9) else 0
def yV (T : Nat → Int) (n : Nat) (Y : bz_M) : sT × bz_M × Int := yLp T n 81 1 (ySz T n Y (.inr (nxq T n 0 false))).2 (oS T n 59 (ySz T n Y (.inr (nxq T n 0 false))).1)
theorem ok_plE : pOK [46, 42, 1, 44, 2, 45, 2] [] [false] ∧ ∀ op ∈ ([46, 42, 1, 44, 2, 45, 2] : List Int), aE op := by
  refine ⟨⟨by unfold pOp; omega, _, rfl, by decide, ⟨by unfold pOp; omega, _, rfl, by decide, ⟨by unfold pOp; omega, _, rfl, by decide, ⟨by unfold pOp; omega, _, rfl, by decide, ⟨by unfold pOp; omega, _, rfl, by decide, ⟨by unfold pOp; omega, _, rfl, by decide, ⟨by unfold pOp; omega, _, rfl, by decide, rfl⟩⟩⟩⟩⟩⟩⟩, fun op h => ?_⟩
  simp at h
  unfold aE
  omega
theorem ok_plB : pOK [42, 1000, 8] [] [true] ∧ ∀ op ∈ ([42, 1000, 8] : List Int), aB op := by
  refine ⟨⟨by unfold pOp; omega, _, rfl, by decide, ⟨by unfold pOp; omega, _, rfl, by decide, ⟨by unfold pOp; omega, _, rfl, by decide, rfl⟩⟩⟩, fun op h => ?_⟩
  simp at h
  unfold aB
  omega
section YN
variable {Lg d n v : Nat} {T : Nat → Int} {Y M M' : bz_M} {s : sT} {z8 z9 : Int}
theorem cd_set {c a na : Nat} {ops : List Int} (hd : 0 < d) (hc : bz_oC c) (ha : bz_kd Lg a = some (.inr (0, na))) (hac : a < 100) (hl : ops.length = na) (hn : na ≤ 100) (hM : ∀ i, i < na → M a i = pBk (ops.getD i 0)) : w_T (eCd_set Lg d c a M) (fun M' => cC c ops M' ∧ ∀ r, r ≠ c → r ≠ c + 1 → M' r = M r) := by
  have hcc := oC_c hc
  refine T_le (eCd_set_E hd hc) ?_
  refine T_run (eCd_clear_E hc _ rfl) ?_
  have key : ∀ (f i : Nat) (M1 : bz_M), i + f = na → cC c (ops.take i) M1 → (∀ r, r ≠ c → r ≠ c + 1 → M1 r = M r) → w_T (eCd_set_6 Lg d c a (i : Int) M1) (fun M' => cC c ops M' ∧ ∀ r, r ≠ c → r ≠ c + 1 → M' r = M r) := by
    intro f
    induction f with
    | zero =>
      intro i M1 hi h1 h2
      refine T_le (eCd_set_6_E hd hc ha) ?_
      rw [if_neg (by omega)]
      rw [show i = ops.length by omega, List.take_length] at h1
      exact T_some ⟨h1, h2⟩
    | succ f ih =>
      intro i M1 hi h1 h2
      refine T_le (eCd_set_6_E hd hc ha) ?_
      rw [if_pos (by omega), if_pos (by omega), Int.toNat_natCast, h2 a (by omega) (by omega), hM i (by omega), w32_id (by omega) (by omega)]
      refine T_seq (cd_put hc h1 (by rw [List.length_take]; omega)) ?_
      rintro M2 ⟨a1, a2⟩
      refine ih (i + 1) M2 (by omega) ?_ (fun r x1 x2 => (a2 r x1 x2).trans (h2 r x1 x2))
      rw [List.take_succ, show ops[i]? = some (ops.getD i 0) by rw [List.getD_eq_getElem?_getD]; rw [List.getElem?_eq_getElem (by omega)]; rfl]
      exact a1
  exact key na 0 _ (by omega) ⟨bz_up_eq _ _ _ _, trivial⟩ (fun r x1 x2 => bz_up_fn x1)
theorem c_clear (hd : 1 < d) (hv : bz_oV v) (hs : stC M) : w_T (eVy_clear Lg d v M) (fun M' => cY v (yZ (M v 0) (M v 1) (M v 2) z8 z9) M' ∧ ∀ r, ¬ (v ≤ r ∧ r ≤ v + 15) → M' r = M r) := by
  have hvv := oV_c hv
  have l3 : ∀ (f i : Nat) (M1 : bz_M), i + f = 5 → (∀ k, k < i → M1 (v + 9) k = 0) → (∀ k, M1 v k = if k = 3 ∨ k = 4 then 0 else M v k) → (∀ k, k < 10 → M1 (v + 1) k = 0) → (∀ k, k < 80 → M1 (v + 2) k = 5 ∧ M1 (v + 3) k = 0) → (∀ r, ¬ (v ≤ r ∧ r ≤ v + 15) → M1 r = M r) → w_T (eVy_clear_61 Lg d v (i : Int) M1) (fun M' => cY v (yZ (M v 0) (M v 1) (M v 2) z8 z9) M' ∧ ∀ r, ¬ (v ≤ r ∧ r ≤ v + 15) → M' r = M r) := by
    intro f
    induction f with
    | zero =>
      intro i M1 hi h9 h0 h1 h2 hr
      refine T_le (eVy_clear_61_E (by omega) hv) ?_
      rw [if_neg (by omega)]
      have pe : ∀ i, i < 7 → M1 2 i = pBk (([46, 42, 1, 44, 2, 45, 2] : List Int).getD i 0) := fun i hi => by
        rw [hr 2 (by omega), hs 2 i (by decide) (by decide)]
        rcases (show i = 0 ∨ i = 1 ∨ i = 2 ∨ i = 3 ∨ i = 4 ∨ i = 5 ∨ i = 6 by omega) with rfl | rfl | rfl | rfl | rfl | rfl | rfl <;> rfl
      refine T_seq (cd_set (na := 7) (by omega) (oV_C10 hv) rfl (by decide) rfl (by decide) pe) ?_
      rintro M2 ⟨a2, b2⟩
      have pb : ∀ i, i < 3 → M2 3 i = pBk (([42, 1000, 8] : List Int).getD i 0) := fun i hi => by
        rw [b2 3 (by omega) (by omega), hr 3 (by omega), hs 3 i (by decide) (by decide)]
        rcases (show i = 0 ∨ i = 1 ∨ i = 2 by omega) with rfl | rfl | rfl <;> rfl
      refine T_seq (cd_set (na := 3) (by omega) (oV_C13 hv) rfl (by decide) rfl (by decide) pb) ?_
      rintro M3 ⟨a3, b3⟩
      have k3 : ∀ r, r ≠ v + 10 → r ≠ v + 11 → r ≠ v + 13 → r ≠ v + 14 → M3 r = M1 r := fun r x1 x2 x3 x4 => (b3 r x3 x4).trans (b2 r x1 x2)
      refine T_some ⟨⟨⟨?_, ?_, ?_, ?_, ?_, ?_, ?_⟩, fun k hk => ?_, fun k hk => ?_, fun k hk => ?_, fun l hl => ?_, fun l hl1 hl2 => ?_, ?_, ?_⟩, fun r hrr => ?_⟩
      · rw [bz_up_nk (by decide), bz_up_nk (by decide), k3 v (by omega) (by omega) (by omega) (by omega), h0 0]; rfl
      · rw [bz_up_nk (by decide), bz_up_nk (by decide), k3 v (by omega) (by omega) (by omega) (by omega), h0 1]; rfl
      · rw [bz_up_nk (by decide), bz_up_nk (by decide), k3 v (by omega) (by omega) (by omega) (by omega), h0 2]; rfl
      · rw [bz_up_nk (by decide), bz_up_nk (by decide), k3 v (by omega) (by omega) (by omega) (by omega), h0 3]; rfl
      · rw [bz_up_nk (by decide), bz_up_nk (by decide), k3 v (by omega) (by omega) (by omega) (by omega), h0 4]; rfl
      · rw [bz_up_nk (by decide), bz_up_eq, bz_b0.mpr]; exact fun h => h rfl
      · rw [bz_up_eq, bz_b0.mpr]; exact fun h => h rfl
      · rw [bz_up_fn (by omega), bz_up_fn (by omega), k3 _ (by omega) (by omega) (by omega) (by omega)]; exact h1 k hk
      · rw [bz_up_fn (by omega), bz_up_fn (by omega), k3 _ (by omega) (by omega) (by omega) (by omega)]; exact (h2 k hk).1
      · rw [bz_up_fn (by omega), bz_up_fn (by omega), k3 _ (by omega) (by omega) (by omega) (by omega)]; exact (h2 k hk).2
      · have : yZ (M v 0) (M v 1) (M v 2) z8 z9 319 46 = 0 := rfl
        rw [this] at hl; omega
      · rw [bz_up_fn (by omega), bz_up_fn (by omega), k3 _ (by omega) (by omega) (by omega) (by omega)]; exact h9 l (by omega)
      · have : yE (yZ (M v 0) (M v 1) (M v 2) z8 z9) = [46, 42, 1, 44, 2, 45, 2] := rfl
        rw [this]
        unfold cC at a2 ⊢
        rw [bz_up_fn (by omega), bz_up_fn (by omega), bz_up_fn (by omega), bz_up_fn (by omega), b3 _ (by omega) (by omega), b3 _ (by omega) (by omega)]
        exact a2
      · have : yB (yZ (M v 0) (M v 1) (M v 2) z8 z9) = [42, 1000, 8] := rfl
        rw [this]
        unfold cC at a3 ⊢
        rw [bz_up_fn (by omega), bz_up_fn (by omega), bz_up_fn (by omega), bz_up_fn (by omega)]
        exact a3
      · rw [bz_up_fn (by omega), bz_up_fn (by omega), k3 _ (by omega) (by omega) (by omega) (by omega)]; exact hr r hrr
    | succ f ih =>
      intro i M1 hi h9 h0 h1 h2 hr
      refine T_le (eVy_clear_61_E (by omega) hv) ?_
      rw [if_pos (by omega), if_pos (by omega), Int.toNat_natCast, w32_id (by omega) (by omega)]
      refine ih (i + 1) _ (by omega) (fun k hk => ?_) (fun k => ?_) (fun k hk => ?_) (fun k hk => ?_) (fun r hrr => ?_)
      · rw [bz_up_rk]
        split
        · rfl
        · exact h9 k (by omega)
      · rw [bz_up_nr (by omega)]; exact h0 k
      · rw [bz_up_nr (by omega)]; exact h1 k hk
      · rw [bz_up_nr (by omega), bz_up_nr (by omega)]; exact h2 k hk
      · rw [bz_up_fn (by omega)]; exact hr r hrr
  have l2 : ∀ (f i : Nat) (M1 : bz_M), i + f = 80 → (∀ k, k < i → M1 (v + 2) k = 5 ∧ M1 (v + 3) k = 0) → (∀ k, M1 v k = if k = 3 ∨ k = 4 then 0 else M v k) → (∀ k, k < 10 → M1 (v + 1) k = 0) → (∀ r, ¬ (v ≤ r ∧ r ≤ v + 15) → M1 r = M r) → w_T (eVy_clear_33 Lg d v (i : Int) M1) (fun M' => cY v (yZ (M v 0) (M v 1) (M v 2) z8 z9) M' ∧ ∀ r, ¬ (v ≤ r ∧ r ≤ v + 15) → M' r = M r) := by
    intro f
    induction f with
    | zero =>
      intro i M1 hi h2 h0 h1 hr
      refine T_le (eVy_clear_33_E hv) ?_
      rw [if_neg (by omega)]
      exact l3 5 0 M1 (by omega) (fun k hk => by omega) h0 h1 (fun k hk => h2 k (by omega)) hr
    | succ f ih =>
      intro i M1 hi h2 h0 h1 hr
      refine T_le (eVy_clear_33_E hv) ?_
      rw [if_pos (by omega), if_pos (by omega), Int.toNat_natCast, w32_id (by omega) (by omega)]
      refine ih (i + 1) _ (by omega) (fun k hk => ?_) (fun k => ?_) (fun k hk => ?_) (fun r hrr => ?_)
      · by_cases e : k = i
        · rw [e]
          refine ⟨?_, bz_up_eq _ _ _ _⟩
          rw [bz_up_nr (by omega), bz_up_eq]
        · rw [bz_up_nk e, bz_up_nk e, bz_up_nk e, bz_up_nk e]; exact h2 k (by omega)
      · rw [bz_up_nr (by omega), bz_up_nr (by omega)]; exact h0 k
      · rw [bz_up_nr (by omega), bz_up_nr (by omega)]; exact h1 k hk
      · rw [bz_up_fn (by omega), bz_up_fn (by omega)]; exact hr r hrr
  have l1 : ∀ (f i : Nat) (M1 : bz_M), i + f = 10 → (∀ k, k < i → M1 (v + 1) k = 0) → (∀ k, M1 v k = if k = 3 ∨ k = 4 then 0 else M v k) → (∀ r, ¬ (v ≤ r ∧ r ≤ v + 15) → M1 r = M r) → w_T (eVy_clear_12 Lg d v (i : Int) M1) (fun M' => cY v (yZ (M v 0) (M v 1) (M v 2) z8 z9) M' ∧ ∀ r, ¬ (v ≤ r ∧ r ≤ v + 15) → M' r = M r) := by
    intro f
    induction f with
    | zero =>
      intro i M1 hi h1 h0 hr
      refine T_le (eVy_clear_12_E hv) ?_
      rw [if_neg (by omega)]
      exact l2 80 0 M1 (by omega) (fun k hk => by omega) h0 (fun k hk => h1 k (by omega)) hr
    | succ f ih =>
      intro i M1 hi h1 h0 hr
      refine T_le (eVy_clear_12_E hv) ?_
      rw [if_pos (by omega), if_pos (by omega), Int.toNat_natCast, w32_id (by omega) (by omega)]
      refine ih (i + 1) _ (by omega) (fun k hk => ?_) (fun k => ?_) (fun r hrr => ?_)
      · rw [bz_up_rk]
        split
        · rfl
        · exact h1 k (by omega)
      · rw [bz_up_nr (by omega)]; exact h0 k
      · rw [bz_up_fn (by omega)]; exact hr r hrr
  refine T_le (eVy_clear_E hv) ?_
  refine l1 10 0 _ (by omega) (fun k hk => by omega) (fun k => ?_) (fun r hrr => ?_)
  · rw [bz_up_rk, bz_up_rk]
    by_cases e4 : k = 4
    · rw [if_pos ⟨rfl, e4⟩, if_pos (Or.inr e4)]
    · rw [if_neg (fun h => e4 h.2)]
      by_cases e3 : k = 3
      · rw [if_pos ⟨rfl, e3⟩, if_pos (Or.inl e3)]
      · rw [if_neg (fun h => e3 h.2), if_neg (by omega)]
  · rw [bz_up_fn (by omega), bz_up_fn (by omega)]
theorem inv_sz {a b c : Int} {s : sT} {z : Nat} (ok : isOk (ySz T n (yZ a b c z8 z9) s).1) : yInv (ySz T n (yZ a b c z8 z9) s).2 z := by
  unfold ySz at ok ⊢
  dsimp only at ok ⊢
  have o3 := oN_in ok
  have k3 := ok_W (ok_N ok)
  have o2 := oN_in k3
  have k2 := ok_W (ok_N k3)
  have o1 := oN_in k2
  generalize hs1 : oN T n 3 10 (oW T n 0 s) = s1 at *
  generalize hs2 : oN T n 2 8 (oW T n 1 s1.1) = s2 at *
  generalize hs3 : oN T n 1 7 (oW T n 2 s2.1) = s3 at *
  generalize hZ : bz_up (bz_up (bz_up (yZ a b c z8 z9) 355 0 s1.2) 355 1 s2.2) 355 2 s3.2 = Z
  have yo : ∀ r, r ≠ 355 → Z r = yZ a b c z8 z9 r := fun r hr => by rw [← hZ, bz_up_fn hr, bz_up_fn hr, bz_up_fn hr]
  have z0 : Z 355 0 = s1.2 := by rw [← hZ, bz_up_nk (by decide), bz_up_nk (by decide), bz_up_eq]
  have z1 : Z 355 1 = s2.2 := by rw [← hZ, bz_up_nk (by decide), bz_up_eq]
  have z2 : Z 355 2 = s3.2 := by rw [← hZ, bz_up_eq]
  have e319 : ∀ k, Z 319 k = 0 := fun k => by rw [yo 319 (by decide)]; rfl
  have e361 : ∀ k, Z 361 k = -1 := fun k => by rw [yo 361 (by decide)]; rfl
  have e359 : ∀ k, Z 359 k = 0 := fun k => by rw [yo 359 (by decide)]; rfl
  have e360 : ∀ k, Z 360 k = 0 := fun k => by rw [yo 360 (by decide)]; rfl
  have e358 : ∀ k, Z 358 k = 5 := fun k => by rw [yo 358 (by decide)]; rfl
  refine ⟨⟨by rw [z0]; exact o1, by rw [z1]; exact o2, by rw [z2]; exact o3, by rw [e319]; decide, by rw [e319]; decide⟩, ⟨by rw [e319]; decide, fun w hw h => absurd (e361 w) h⟩, fun k hk => by rw [e360]; decide, by rw [e319]; omega, ⟨fun k hk => by rw [e359, z1]; omega, fun k _ _ => e359 k⟩, fun k hk => by rw [e358]; decide, fun c r _ _ _ => e360 _, fun l hl => by rw [e319] at hl; omega, ?_, ?_⟩
  · have : yE Z = [46, 42, 1, 44, 2, 45, 2] := by unfold yE; rw [if_pos (e361 0)]
    rw [this]; exact ok_plE
  · have : yB Z = [42, 1000, 8] := by unfold yB; rw [if_pos (e361 1)]
    rw [this]; exact ok_plB
theorem sz_end {Y : bz_M} {q : pL} (h : n ≤ q.1) : (ySz T n Y (.inr q)).1 = .inl (1, q.1) := by
  have hw : ¬ isW T n 0 q := fun e => by
    have := tK_lt (isW_k e)
    omega
  have : oW T n 0 (.inr q) = .inl (1, q.1) := by
    show (if isW T n 0 q then .inr (nx T n q) else .inl (1, q.1) : sT) = _
    rw [if_neg hw]
  unfold ySz
  rw [this]
  rfl
theorem c_read (hd : 50 < d) (hv : bz_oV v) (hs : stC M) (ht : tb T n M) (h1 : M 123 1 = (n : Int)) : w_T (eVy_read Lg d v M) (fun p => yRes (yV T n (yZ (M v 0) (M v 1) (M v 2) z8 z9)) p.1 ∧ cSt T n (yV T n (yZ (M v 0) (M v 1) (M v 2) z8 z9)).1 p.2 ∧ fY v M p.2 ∧ (isOk (yV T n (yZ (M v 0) (M v 1) (M v 2) z8 z9)).1 → cY v (yV T n (yZ (M v 0) (M v 1) (M v 2) z8 z9)).2.1 p.2)) := by
  have hvv := oV_c hv
  refine T_le (eVy_read_E (by omega) hv) ?_
  refine T_seq (c_clear (z8 := z8) (z9 := z9) (by omega) hv hs) ?_
  rintro M1 ⟨y1, b1⟩
  have f1 : fY v M M1 := fun r _ _ x => b1 r x
  refine T_seq (tx_begin (by omega) (fY_st hv f1 hs) (fY_tb hv f1 ht) (by rw [b1 123 (by omega)]; exact h1)) ?_
  rintro M2 ⟨a2, b2⟩
  have f2 := fY_trans f1 (fY_T b2)
  have y2 := cY_T hv y1 b2
  have hq : qOK T n (nxq T n 0 false) := nxq_ok (Nat.zero_le _)
  have h2 : cSt T n (.inr (nxq T n 0 false)) M2 := ⟨a2, hq⟩
  generalize hq0 : nxq T n 0 false = q at a2 hq h2
  have hV : yV T n (yZ (M v 0) (M v 1) (M v 2) z8 z9) = yLp T n 81 1 (ySz T n (yZ (M v 0) (M v 1) (M v 2) z8 z9) (.inr q)).2 (oS T n 59 (ySz T n (yZ (M v 0) (M v 1) (M v 2) z8 z9) (.inr q)).1) := by unfold yV; rw [hq0]
  rw [hV]
  have hq1 := hq.1
  refine T_le (eVy_read_10_E (by omega) hv) ?_
  rw [if_neg (by decide), if_pos a2.2.2.2.2.2.1, a2.2.2.2.1]
  by_cases c0 : n ≤ q.1
  · rw [if_pos (tD_0.mpr c0), sz_end c0]
    have e0 : q.1 = n := by omega
    refine T_le (eVy_read_78_E (by omega)) ?_
    rw [if_pos rfl, a2.1]
    refine T_seq (tx_fail a2 (by decide)) ?_
    rintro M3 ⟨a3, b3⟩
    rw [if_neg (by rw [a3.2.2.2.1]; decide)]
    refine T_some ⟨⟨fun h => absurd h (fun h => h), fun _ => rfl⟩, ?_, fY_trans f2 (fY_T b3), fun h => absurd h (fun h => h)⟩
    show cXf n 1 (q.1 : Int) M3
    rw [e0]; exact a3
  · rw [if_neg (fun e => c0 (tD_0.mp e)), if_neg (by decide), if_pos rfl]
    refine T_seq (c_size (by omega) hv (fY_st hv f2 hs) (fY_tb hv f2 ht) y2 h2) ?_
    rintro M3 ⟨a3, b3, y3⟩
    have f3 := fY_trans f2 b3
    refine T_seq (cs_S (by omega) (fY_st hv f3 hs) (fY_tb hv f3 ht) (by decide) a3) ?_
    rintro M4 ⟨a4, b4⟩
    have f4 := fY_trans f3 (fY_T b4)
    rw [w32_id (by decide) (by decide)]
    refine T_mono (c_loop (by omega) hv 81 1 _ _ M4 (by decide) (by decide) (fY_st hv f4 hs) (fY_tb hv f4 ht) a4 (fun q2 e2 => ⟨?_, cY_T hv y3 b4⟩) (fun _ => by decide)) ?_
    · exact inv_sz (ok_S (c := 59) (by rw [e2]; trivial))
    · rintro ⟨p1, p2⟩ ⟨x1, x2, x3, x4⟩
      exact ⟨x1, x2, fY_trans f4 x3, x4⟩
end YN

/-! THE REFERENCE'S TEXT, PIECE BY PIECE -/
def mt (T : Nat → Int) (n : Nat) (M : bz_M) : Prop := n ≤ 1600 ∧ ∀ j, j < n → M 320 j = T j ∧ 0 ≤ T j ∧ T j < 256
abbrev isR (r : Nat) : Prop := (322 ≤ r ∧ r ≤ 354) ∨ (376 ≤ r ∧ r ≤ 407)
def rI (r : Nat) : Nat := if r ≤ 354 then r - 322 else ([33, 34, 35, 36, 37, 38, 29, 28, 27, 30, 31, 32, 15, 16, 17, 18, 4, 19, 20, 21, 22, 23, 24, 7, 8, 9, 10, 11, 25, 26, 16, 17] : List Nat).getD (r - 376) 0
def stM (M : bz_M) : Prop := ∀ r k, isR r → k < (wSp (rI r)).length → M r k = (wSp (rI r)).getD k 0
def mX (T : Nat → Int) (n : Nat) (q : pL) (M : bz_M) : Prop := (0 ≤ M 319 2 ∧ M 319 2 ≤ (n : Int)) ∧ sk T n (M 319 2).toNat = q.1 ∧ M 319 3 = (n : Int) ∧ M 319 4 ≤ M 319 2 ∧ (q.2 = true ↔ M 319 4 = (q.1 : Int)) ∧ M 319 5 = 0 ∧ M 319 6 = -1
def mY (T : Nat → Int) (n : Nat) (q : pL) (M : bz_M) : Prop := mX T n q M ∧ M 319 2 = (q.1 : Int)
def mXf (k pl : Int) (M : bz_M) : Prop := M 319 5 = k ∧ k ≠ 0 ∧ M 319 6 = pl
def g2 (M M' : bz_M) : Prop := (∀ r, r ≠ 319 → M' r = M r) ∧ ∀ k, k ≠ 2 → M' 319 k = M 319 k
def gX (M M' : bz_M) : Prop := (∀ r, r ≠ 319 → M' r = M r) ∧ ∀ k, k ≠ 2 → k ≠ 4 → k ≠ 5 → k ≠ 6 → k ≠ 10 → k ≠ 44 → M' 319 k = M 319 k
def lkV (T : Nat → Int) (n : Nat) (q : pL) : Int := if q.1 < n then T q.1 else -1
theorem g2_refl (M : bz_M) : g2 M M := ⟨fun _ _ => rfl, fun _ _ => rfl⟩
theorem gX_refl (M : bz_M) : gX M M := ⟨fun _ _ => rfl, fun _ _ _ _ _ _ _ => rfl⟩
theorem g2_trans {A B C : bz_M} (h : g2 A B) (g : g2 B C) : g2 A C := ⟨fun r a => (g.1 r a).trans (h.1 r a), fun k a => (g.2 k a).trans (h.2 k a)⟩
theorem gX_trans {A B C : bz_M} (h : gX A B) (g : gX B C) : gX A C := ⟨fun r a => (g.1 r a).trans (h.1 r a), fun k a b c d e f => (g.2 k a b c d e f).trans (h.2 k a b c d e f)⟩
theorem gX_2 {A B : bz_M} (h : g2 A B) : gX A B := ⟨h.1, fun k a _ _ _ _ _ => h.2 k a⟩
theorem gX_up {M : bz_M} {k : Nat} {x : Int} (h : k = 2 ∨ k = 4 ∨ k = 5 ∨ k = 6 ∨ k = 10 ∨ k = 44) : gX M (bz_up M 319 k x) := ⟨fun _ hr => bz_up_fn hr, fun j a b c d e f => bz_up_nk (by omega) _⟩
set_option maxRecDepth 100000 in
theorem rW_all : (∀ r, r < 33 → bz_kd 0 (322 + r) = some (.inr (4, (wSp (rI (322 + r))).length)) ∧ rI (322 + r) < 39) ∧ (∀ r, r < 32 → bz_kd 0 (376 + r) = some (.inr (4, (wSp (rI (376 + r))).length)) ∧ rI (376 + r) < 39) := by decide +kernel
theorem rW_r {r : Nat} (h : isR r) : bz_kd 0 r = some (.inr (4, (wSp (rI r)).length)) ∧ rI r < 39 := by
  rcases h with h | h
  · have := rW_all.1 (r - 322) (by omega)
    rw [show 322 + (r - 322) = r by omega] at this
    exact this
  · have := rW_all.2 (r - 376) (by omega)
    rw [show 376 + (r - 376) = r by omega] at this
    exact this
theorem kdR {Lg r : Nat} (h : isR r) : bz_kd Lg r = some (.inr (4, (wSp (rI r)).length)) := (bz_kd_Lg (by omega)).trans (rW_r h).1
section MX
variable {Lg d n : Nat} {T : Nat → Int} {M M' : bz_M} {q : pL}
theorem mt_co (h : mt T n M) (e : M' 320 = M 320) : mt T n M' := ⟨h.1, fun j hj => by rw [e]; exact h.2 j hj⟩
theorem mt_g (h : mt T n M) (f : gX M M') : mt T n M' := mt_co h (f.1 320 (by decide))
theorem stM_g (h : stM M) (f : gX M M') : stM M' := fun r k h1 h2 => by rw [f.1 r (by omega)]; exact h r k h1 h2
theorem mX_qOK (h : mX T n q M) : qOK T n q := by
  have h1 := h.1
  have := sk_le (T := T) (n := n) (p := (M 319 2).toNat) (by omega)
  have h2 := sk_sk (T := T) (n := n) (p := (M 319 2).toNat) (by omega)
  rw [h.2.1] at this h2
  exact ⟨this, h2⟩
theorem lk_eq : eMo_look_0 Lg d M = eMo_look Lg d M := rfl
theorem mo_lk : ∀ (f a : Nat) (M : bz_M), mt T n M → M 319 2 = (a : Int) → M 319 3 = (n : Int) → n - a = f → a ≤ n → w_T (eMo_look Lg d M) (fun p => p.1 = (if sk T n a < n then T (sk T n a) else -1) ∧ p.2 319 2 = ((sk T n a : Nat) : Int) ∧ g2 M p.2)
  | 0, a, M, ht, h2, h3, hf, ha => by
    refine T_le eMo_look_E ?_
    rw [h2, h3, if_neg (by omega), if_neg (by omega), sk_id (by omega), if_neg (by omega)]
    exact T_some ⟨rfl, h2, g2_refl M⟩
  | f + 1, a, M, ht, h2, h3, hf, ha => by
    have hb := ht.2 a (by omega)
    have hn := ht.1
    refine T_le eMo_look_E ?_
    rw [h2, h3, if_pos (by omega), if_pos (by omega), Int.toNat_natCast, hb.1]
    have go : (T a = 10 ∨ T a = 32) → w_T (eMo_look_0 Lg d (bz_up M 319 2 (bz_w32 ((a : Int) + 1)))) (fun p => p.1 = (if sk T n a < n then T (sk T n a) else -1) ∧ p.2 319 2 = ((sk T n a : Nat) : Int) ∧ g2 M p.2) := by
      intro hsp
      have hse : sk T n a = sk T n (a + 1) := by rw [sk_eq a, if_pos ⟨by omega, hsp⟩]
      rw [w32_id (by omega) (by omega), lk_eq, hse]
      refine T_mono (mo_lk f (a + 1) _ (mt_co ht (bz_up_fn (by decide))) (by rw [bz_up_eq]; omega) (by rw [bz_up_nk (by decide)]; exact h3) (by omega) (by omega)) ?_
      rintro ⟨p1, p2⟩ ⟨e1, e2, e3⟩
      exact ⟨e1, e2, g2_trans ⟨fun _ hr => bz_up_fn hr, fun k hk => bz_up_nk hk _⟩ e3⟩
    by_cases e1 : T a = 10
    · rw [if_pos e1]; exact go (Or.inl e1)
    · rw [if_neg e1]
      by_cases e2 : T a = 32
      · rw [if_pos e2]; exact go (Or.inr e2)
      · rw [if_neg e2, if_pos (by omega), sk_id (by omega), if_pos (by omega)]
        exact T_some ⟨rfl, h2, g2_refl M⟩
theorem mo_look (ht : mt T n M) (hX : mX T n q M) : w_T (eMo_look Lg d M) (fun p => p.1 = lkV T n q ∧ mY T n q p.2 ∧ g2 M p.2) := by
  have h0 := hX.1
  have hq := mX_qOK hX
  have hg := sk_ge (T := T) (n := n) (p := (M 319 2).toNat) (by omega)
  rw [hX.2.1] at hg
  refine T_mono (mo_lk (T := T) (n - (M 319 2).toNat) (M 319 2).toNat M ht (by omega) hX.2.2.1 rfl (by omega)) ?_
  rintro ⟨p1, p2⟩ ⟨e1, e2, e3⟩
  dsimp only at e1 e2 e3 ⊢
  rw [hX.2.1] at e1 e2
  have k : ∀ k, k ≠ 2 → p2 319 k = M 319 k := e3.2
  have hq1 := hq.1
  refine ⟨e1, ⟨⟨by rw [e2]; omega, ?_, ?_, ?_, ?_, ?_, ?_⟩, e2⟩, e3⟩
  · rw [e2, Int.toNat_natCast]; exact hq.2
  · rw [k 3 (by decide)]; exact hX.2.2.1
  · rw [k 4 (by decide), e2]; have := hX.2.2.2.1; omega
  · rw [k 4 (by decide)]; exact hX.2.2.2.2.1
  · rw [k 5 (by decide)]; exact hX.2.2.2.2.2.1
  · rw [k 6 (by decide)]; exact hX.2.2.2.2.2.2
theorem lk_1 (hn : n ≤ 1600) : (97 ≤ lkV T n q ∧ lkV T n q ≤ 122) ↔ tK T n q.1 = 1 := by
  unfold lkV tK
  split
  · split
    · omega
    · split <;> omega
  · omega
theorem lk_2 : (48 ≤ lkV T n q ∧ lkV T n q ≤ 57) ↔ tK T n q.1 = 2 := by
  unfold lkV tK
  split
  · split
    · omega
    · split <;> omega
  · omega
theorem lk_S {c : Int} (h0 : 0 ≤ c) (h1 : ¬ (97 ≤ c ∧ c ≤ 122)) (h2 : ¬ (48 ≤ c ∧ c ≤ 57)) : lkV T n q = c ↔ isS T n c q := by
  unfold lkV isS tK
  split
  · split
    · omega
    · split <;> omega
  · omega
theorem lk_no : lkV T n q = -1 → (∀ j, j < n → 0 ≤ T j) → n ≤ q.1 := by
  unfold lkV
  intro h hT
  split at h
  · rename_i e
    have := hT _ e
    omega
  · omega
theorem lk_end (h : n ≤ q.1) : lkV T n q = -1 := by unfold lkV; rw [if_neg (by omega)]
theorem mo_h76 {r i : Nat} (hr : isR r) (hs : stM M) (ht : mt T n M) (h2 : M 319 2 = (i : Int)) (hin : i + (wSp (rI r)).length ≤ n) : ∀ (f k : Nat), k + f = (wSp (rI r)).length → (∀ j, j < k → T (i + j) = (wSp (rI r)).getD j 0) → eMo_isHere_76 Lg d r (k : Int) M = some (bz_b (wEq T i (wSp (rI r)) = true), M)
  | 0, k, hk, hj => by
    refine eMo_isHere_76_E (kdR hr) _ ?_
    rw [if_neg (by omega), bz_b1.mpr ((wEq_iff _ _).mpr (fun j h => hj j (by omega)))]
  | f + 1, k, hk, hj => by
    have hn := ht.1
    have hb := ht.2 (i + k) (by omega)
    refine eMo_isHere_76_E (kdR hr) _ ?_
    rw [if_pos (by omega), h2, w32_id (by omega) (by omega), if_pos (by omega), if_pos (by omega), Int.toNat_natCast, show ((i : Int) + (k : Int)).toNat = i + k by omega, hb.1, hs r k hr (by omega)]
    by_cases e : T (i + k) = (wSp (rI r)).getD k 0
    · rw [if_pos e, w32_id (by omega) (by omega)]
      refine mo_h76 hr hs ht h2 hin f (k + 1) (by omega) (fun j h => ?_)
      by_cases ej : j = k
      · rw [ej]; exact e
      · exact hj j (by omega)
    · rw [if_neg e, bz_b0.mpr (fun h => e ((wEq_iff _ _).mp h k (by omega)))]
theorem mo_h35 (hd : 0 < d) {r i : Nat} (hr : isR r) (hs : stM M) (ht : mt T n M) (h2 : M 319 2 = (i : Int)) (h3 : M 319 3 = (n : Int)) (hi : i ≤ n) (hk : tK T n i = 1) : ∀ (f e : Nat), n - e = f → e ≤ n → i ≤ e → ru T n 1 e = te T n i → eMo_isHere_35 Lg d r (e : Int) M = some (bz_b (wd T n i = rI r), M)
  | f, e, hf, he, hie, hru => by
    have hn := ht.1
    have hte := te_all (T := T) hi
    have fin : te T n i = e → (if bz_w32 ((e : Int) - (i : Int)) = (((wSp (rI r)).length : Nat) : Int) then eMo_isHere_76 Lg d r 0 M else some (0, M)) = some (bz_b (wd T n i = rI r), M) := by
      intro h
      rw [w32_id (by omega) (by omega)]
      have hw := wd_iff (T := T) (n := n) (p := i) (rW_r hr).2
      by_cases c : e = i + (wSp (rI r)).length
      · rw [if_pos (by omega)]
        have := mo_h76 (Lg := Lg) (d := d) hr hs ht h2 (by omega) (wSp (rI r)).length 0 (by omega) (fun j h => by omega)
        rw [show ((0 : Nat) : Int) = 0 from rfl] at this
        rw [this]
        by_cases c2 : wEq T i (wSp (rI r)) = true
        · rw [bz_b1.mpr c2, bz_b1.mpr]
          rw [hw]
          unfold wMt
          rw [Bool.and_eq_true, decide_eq_true_eq]
          exact ⟨by omega, c2⟩
        · rw [bz_b0.mpr c2, bz_b0.mpr]
          rw [hw]
          unfold wMt
          rw [Bool.and_eq_true]
          exact fun h => c2 h.2
      · rw [if_neg (by omega), bz_b0.mpr]
        rw [hw]
        unfold wMt
        rw [Bool.and_eq_true, decide_eq_true_eq]
        omega
    match f, hf with
    | 0, hf => 
      refine eMo_isHere_35_E hd (kdR hr) _ ?_
      rw [h3, if_neg (by omega), h2]
      rw [ru_eq, if_neg (by omega)] at hru
      exact fin hru.symm
    | f + 1, hf =>
      have hb := ht.2 e (by omega)
      refine eMo_isHere_35_E hd (kdR hr) _ ?_
      rw [h3, if_pos (by omega), if_pos (by omega), Int.toNat_natCast, hb.1, h2]
      rw [ru_eq] at hru
      by_cases c : tK T n e = 1
      · rw [if_pos ⟨by omega, c⟩] at hru
        have hl : 97 ≤ T e ∧ T e ≤ 122 := by
          unfold tK at c
          rw [if_pos (by omega)] at c
          split at c
          · assumption
          · split at c <;> cases c
        rw [bz_b1.mpr hl, if_neg (by decide), w32_id (by omega) (by omega)]
        exact mo_h35 hd hr hs ht h2 h3 hi hk f (e + 1) (by omega) (by omega) (by omega) hru
      · rw [if_neg (fun h => c h.2)] at hru
        have hl : ¬ (97 ≤ T e ∧ T e ≤ 122) := by
          intro hl
          apply c
          unfold tK
          rw [if_pos (by omega), if_pos hl]
        rw [bz_b0.mpr hl, if_pos rfl]
        exact fin hru.symm
  termination_by f => f
theorem mo_isHere (hd : 0 < d) {r : Nat} (hr : isR r) (hs : stM M) (ht : mt T n M) (hX : mX T n q M) : w_T (eMo_isHere Lg d r M) (fun p => p.1 = bz_b (isW T n (rI r) q) ∧ mY T n q p.2 ∧ g2 M p.2) := by
  refine T_le (eMo_isHere_E hd) ?_
  rw [if_pos hX.2.2.2.2.2.1]
  refine T_seq (mo_look ht hX) ?_
  rintro ⟨p1, p2⟩ ⟨e1, e2, e3⟩
  dsimp only at e1 e2 e3 ⊢
  have hq := mX_qOK hX
  rw [e1]
  by_cases c : tK T n q.1 = 1
  · rw [bz_b1.mpr ((lk_1 ht.1).mpr c), if_neg (by decide)]
    by_cases g : q.2 = true
    · rw [if_pos (by rw [e2.2]; exact (e2.1.2.2.2.2.1.mp g).symm)]
      refine T_some ⟨?_, e2, e3⟩
      rw [bz_b0.mpr]
      intro h
      have := (tD_k (Or.inl rfl) h.1).2
      rw [g] at this
      cases this
    · rw [if_neg (by rw [e2.2]; exact fun h => g (e2.1.2.2.2.2.1.mpr h.symm)), e2.2]
      have hd1 : tD T n q = 1 := by
        unfold tD
        rw [if_neg (fun h => g h.1)]
        exact c
      refine T_eq (mo_h35 hd hr (stM_g hs (gX_2 e3)) (mt_g ht (gX_2 e3)) e2.2 e2.1.2.2.1 hq.1 c (n - q.1) q.1 rfl hq.1 (by omega) ?_) ⟨?_, e2, e3⟩
      · unfold te; rw [if_neg (by omega), c]
      · by_cases w : wd T n q.1 = rI r
        · rw [bz_b1.mpr w, bz_b1.mpr ⟨hd1, w⟩]
        · rw [bz_b0.mpr w, bz_b0.mpr (fun h => w h.2)]
  · rw [bz_b0.mpr (fun h => c ((lk_1 ht.1).mp h)), if_pos rfl]
    refine T_some ⟨?_, e2, e3⟩
    rw [bz_b0.mpr]
    exact fun h => c (tD_k (Or.inl rfl) h.1).1
theorem mX_nx (hX : mY T n q M) (h : tD T n q = 1 ∨ tD T n q = 2) (e2 : M' 319 2 = ((te T n q.1 : Nat) : Int)) (e4 : M' 319 4 = ((te T n q.1 : Nat) : Int)) (ek : ∀ k, k = 3 ∨ k = 5 ∨ k = 6 → M' 319 k = M 319 k) : mX T n (nx T n q) M' := by
  have hq := mX_qOK hX.1
  have hte := te_all (T := T) hq.1
  have htk : tK T n q.1 = 1 ∨ tK T n q.1 = 2 := by
    rcases h with h | h
    · exact Or.inl (tD_k (Or.inl rfl) h).1
    · exact Or.inr (tD_k (Or.inr rfl) h).1
  refine ⟨by rw [e2]; omega, ?_, ?_, by rw [e2, e4]; omega, ?_, ?_, ?_⟩
  · rw [e2, Int.toNat_natCast]; rfl
  · rw [ek 3 (by decide)]; exact hX.1.2.2.1
  · rw [e4]
    show (decide (sk T n (te T n q.1) = te T n q.1) && decide (tK T n q.1 = 1 ∨ tK T n q.1 = 2)) = true ↔ ((te T n q.1 : Nat) : Int) = ((sk T n (te T n q.1) : Nat) : Int)
    rw [Bool.and_eq_true, decide_eq_true_eq, decide_eq_true_eq]
    omega
  · rw [ek 5 (by decide)]; exact hX.1.2.2.2.2.2.1
  · rw [ek 6 (by decide)]; exact hX.1.2.2.2.2.2.2
theorem mX_nxs (hX : mY T n q M) (h : tK T n q.1 = 3) (e2 : M' 319 2 = (q.1 : Int) + 1) (ek : ∀ k, k = 3 ∨ k = 4 ∨ k = 5 ∨ k = 6 → M' 319 k = M 319 k) : mX T n (nx T n q) M' := by
  have hq := mX_qOK hX.1
  have ht : te T n q.1 = q.1 + 1 := by unfold te; rw [if_pos h]
  have hlt := tK_lt (T := T) (n := n) (p := q.1) (by omega)
  have h4 := hX.1.2.2.2.1
  have h2 := hX.2
  have hg := sk_ge (T := T) (n := n) (p := q.1 + 1) (by omega)
  refine ⟨by rw [e2]; omega, ?_, ?_, by rw [e2, ek 4 (by decide)]; omega, ?_, ?_, ?_⟩
  · rw [e2, show ((q.1 : Int) + 1).toNat = te T n q.1 by omega]; rfl
  · rw [ek 3 (by decide)]; exact hX.1.2.2.1
  · rw [ek 4 (by decide)]
    show (decide (sk T n (te T n q.1) = te T n q.1) && decide (tK T n q.1 = 1 ∨ tK T n q.1 = 2)) = true ↔ M 319 4 = ((sk T n (te T n q.1) : Nat) : Int)
    rw [Bool.and_eq_true, decide_eq_true_eq, decide_eq_true_eq, ht]
    omega
  · rw [ek 5 (by decide)]; exact hX.1.2.2.2.2.2.1
  · rw [ek 6 (by decide)]; exact hX.1.2.2.2.2.2.2
theorem te_wd {i : Nat} (hi : i < 39) (h : isW T n i q) : te T n q.1 = q.1 + (wSp i).length := by
  have := (wd_iff hi).mp h.2
  unfold wMt at this
  rw [Bool.and_eq_true, decide_eq_true_eq] at this
  exact this.1
theorem mo_tk1 (hd : 1 < d) {r : Nat} (hr : isR r) (hs : stM M) (ht : mt T n M) (hX : mX T n q M) (h : isW T n (rI r) q) : w_T (eMo_takes Lg d r M) (fun p => p.1 = 1 ∧ mX T n (nx T n q) p.2 ∧ gX M p.2) := by
  have hq := mX_qOK hX
  have hn := ht.1
  have hte := te_all (T := T) hq.1
  have hw := te_wd (rW_r hr).2 h
  refine T_le (eMo_takes_E (by omega) (kdR hr)) ?_
  refine T_seq (mo_isHere (by omega) hr hs ht hX) ?_
  rintro ⟨p1, p2⟩ ⟨e1, e2, e3⟩
  dsimp only at e1 e2 e3 ⊢
  rw [e1, bz_b1.mpr h, if_neg (by decide), e2.2, w32_id (by omega) (by omega)]
  refine T_some ⟨rfl, mX_nx e2 (Or.inl h.1) ?_ ?_ (fun k hk => ?_), gX_trans (gX_2 e3) (gX_trans (gX_up (by decide)) (gX_up (by decide)))⟩
  · dsimp only; rw [bz_up_nk (by decide), bz_up_eq]; omega
  · dsimp only; rw [bz_up_eq]; omega
  · dsimp only; rw [bz_up_nk (by omega), bz_up_nk (by omega)]
theorem mo_tk0 (hd : 1 < d) {r : Nat} (hr : isR r) (hs : stM M) (ht : mt T n M) (hX : mX T n q M) (h : ¬ isW T n (rI r) q) : w_T (eMo_takes Lg d r M) (fun p => p.1 = 0 ∧ mY T n q p.2 ∧ g2 M p.2) := by
  refine T_le (eMo_takes_E (by omega) (kdR hr)) ?_
  refine T_seq (mo_isHere (by omega) hr hs ht hX) ?_
  rintro ⟨p1, p2⟩ ⟨e1, e2, e3⟩
  dsimp only at e1 e2 e3 ⊢
  rw [e1, bz_b0.mpr h, if_pos rfl]
  exact T_some ⟨rfl, e2, e3⟩
theorem mo_fail (h5 : M 319 5 = 0) {a b : Int} (ha : a ≠ 0) : w_T (eMo_fail Lg d a b M) (fun M' => mXf a b M' ∧ gX M M' ∧ M' 319 2 = M 319 2) := by
  refine T_le eMo_fail_E ?_
  rw [if_pos h5]
  refine T_some ⟨⟨?_, ha, ?_⟩, gX_trans (gX_up (by decide)) (gX_up (by decide)), ?_⟩
  · rw [bz_up_nk (by decide), bz_up_eq]
  · rw [bz_up_eq]
  · rw [bz_up_nk (by decide), bz_up_nk (by decide)]
theorem mo_as1 (hd : 2 < d) {r : Nat} (hr : isR r) (hs : stM M) (ht : mt T n M) (hX : mX T n q M) (h : isW T n (rI r) q) : w_T (eMo_asks Lg d r M) (fun M' => mX T n (nx T n q) M' ∧ gX M M') := by
  refine T_le (eMo_asks_E (by omega)) ?_
  rw [if_pos hX.2.2.2.2.2.1]
  refine T_seq (mo_tk1 (by omega) hr hs ht hX h) ?_
  rintro ⟨p1, p2⟩ ⟨e1, e2, e3⟩
  dsimp only at e1 e2 e3 ⊢
  rw [e1, if_neg (by decide)]
  exact T_some ⟨e2, e3⟩
theorem mo_as0 (hd : 2 < d) {r : Nat} (hr : isR r) (hs : stM M) (ht : mt T n M) (hX : mX T n q M) (h : ¬ isW T n (rI r) q) : w_T (eMo_asks Lg d r M) (fun M' => mXf 1 (q.1 : Int) M' ∧ gX M M') := by
  refine T_le (eMo_asks_E (by omega)) ?_
  rw [if_pos hX.2.2.2.2.2.1]
  refine T_seq (mo_tk0 (by omega) hr hs ht hX h) ?_
  rintro ⟨p1, p2⟩ ⟨e1, e2, e3⟩
  dsimp only at e1 e2 e3 ⊢
  rw [e1, if_pos rfl, e2.2]
  refine T_seq (mo_fail e2.1.2.2.2.2.2.1 (by decide)) ?_
  rintro M1 ⟨a, b, _⟩
  exact T_some ⟨a, gX_trans (gX_2 e3) b⟩
theorem mo_as_f {k pl : Int} {r : Nat} (hd : 0 < d) (hX : mXf k pl M) : eMo_asks Lg d r M = some M := by
  refine eMo_asks_E hd _ ?_
  rw [if_neg (by rw [hX.1]; exact hX.2.1)]
theorem mo_ts1 (hd : 0 < d) (ht : mt T n M) (hX : mX T n q M) {c : Int} (h0 : 0 ≤ c) (h1 : ¬ (97 ≤ c ∧ c ≤ 122)) (h2 : ¬ (48 ≤ c ∧ c ≤ 57)) (h : isS T n c q) : w_T (eMo_takesSign Lg d c M) (fun p => p.1 = 1 ∧ mX T n (nx T n q) p.2 ∧ gX M p.2 ∧ p.2 319 2 = (q.1 : Int) + 1) := by
  have hq := mX_qOK hX
  have hn := ht.1
  have hq1 := hq.1
  refine T_le (eMo_takesSign_E hd) ?_
  rw [if_pos hX.2.2.2.2.2.1]
  refine T_seq (mo_look ht hX) ?_
  rintro ⟨p1, p2⟩ ⟨e1, e2, e3⟩
  dsimp only at e1 e2 e3 ⊢
  rw [e1, if_pos ((lk_S h0 h1 h2).mpr h), e2.2, w32_id (by omega) (by omega)]
  exact T_some ⟨rfl, mX_nxs (M' := bz_up p2 319 2 ((q.1 : Int) + 1)) e2 h.1 (bz_up_eq _ _ _ _) (fun k hk => bz_up_nk (by omega) _), gX_trans (gX_2 e3) (gX_up (by decide)), bz_up_eq p2 319 2 _⟩
theorem mo_ts0 (hd : 0 < d) (ht : mt T n M) (hX : mX T n q M) {c : Int} (h0 : 0 ≤ c) (h1 : ¬ (97 ≤ c ∧ c ≤ 122)) (h2 : ¬ (48 ≤ c ∧ c ≤ 57)) (h : ¬ isS T n c q) : w_T (eMo_takesSign Lg d c M) (fun p => p.1 = 0 ∧ mY T n q p.2 ∧ g2 M p.2) := by
  refine T_le (eMo_takesSign_E hd) ?_
  rw [if_pos hX.2.2.2.2.2.1]
  refine T_seq (mo_look ht hX) ?_
  rintro ⟨p1, p2⟩ ⟨e1, e2, e3⟩
  dsimp only at e1 e2 e3 ⊢
  rw [e1, if_neg (fun e => h ((lk_S h0 h1 h2).mp e))]
  exact T_some ⟨rfl, e2, e3⟩
theorem mo_asg1 (hd : 1 < d) (ht : mt T n M) (hX : mX T n q M) {c : Int} (h0 : 0 ≤ c) (h1 : ¬ (97 ≤ c ∧ c ≤ 122)) (h2 : ¬ (48 ≤ c ∧ c ≤ 57)) (h : isS T n c q) : w_T (eMo_asksSign Lg d c M) (fun M' => mX T n (nx T n q) M' ∧ gX M M') := by
  refine T_le (eMo_asksSign_E (by omega)) ?_
  rw [if_pos hX.2.2.2.2.2.1]
  refine T_seq (mo_ts1 (by omega) ht hX h0 h1 h2 h) ?_
  rintro ⟨p1, p2⟩ ⟨e1, e2, e3, _⟩
  dsimp only at e1 e2 e3 ⊢
  rw [e1, if_neg (by decide)]
  exact T_some ⟨e2, e3⟩
theorem mo_asg0 (hd : 1 < d) (ht : mt T n M) (hX : mX T n q M) {c : Int} (h0 : 0 ≤ c) (h1 : ¬ (97 ≤ c ∧ c ≤ 122)) (h2 : ¬ (48 ≤ c ∧ c ≤ 57)) (h : ¬ isS T n c q) : w_T (eMo_asksSign Lg d c M) (fun M' => mXf 1 (q.1 : Int) M' ∧ gX M M') := by
  refine T_le (eMo_asksSign_E (by omega)) ?_
  rw [if_pos hX.2.2.2.2.2.1]
  refine T_seq (mo_ts0 (by omega) ht hX h0 h1 h2 h) ?_
  rintro ⟨p1, p2⟩ ⟨e1, e2, e3⟩
  dsimp only at e1 e2 e3 ⊢
  rw [e1, if_pos rfl, e2.2]
  refine T_seq (mo_fail e2.1.2.2.2.2.2.1 (by decide)) ?_
  rintro M1 ⟨a, b, _⟩
  exact T_some ⟨a, gX_trans (gX_2 e3) b⟩
theorem mo_asg_f {k pl c : Int} (hd : 0 < d) (hX : mXf k pl M) : eMo_asksSign Lg d c M = some M := by
  refine eMo_asksSign_E hd _ ?_
  rw [if_neg (by rw [hX.1]; exact hX.2.1)]
def mN1 (T : Nat → Int) (n : Nat) (q : pL) (o : (Int × Nat) ⊕ Int) (p : Int × bz_M) : Prop := match o with
  | .inl e => (0 ≤ p.1 ∧ p.1 ≤ 9999) ∧ mXf e.1 (e.2 : Int) p.2
  | .inr v => p.1 = v ∧ mX T n (nx T n q) p.2 ∧ p.2 319 10 = (q.1 : Int)
theorem mo_n49 (hd : 0 < d) {a b : Int} (hq : qOK T n q) (hk : tD T n q = 2) : ∀ (f p j : Nat) (v : Int) (M : bz_M), mt T n M → mY T n q M ∨ True → M 319 3 = (n : Int) → M 319 5 = 0 → M 319 6 = -1 → M 319 2 = (p : Int) → p + f = te T n q.1 → p = q.1 + j → j ≤ 4 → (0 ≤ v ∧ v ≤ 9999) → (j = 4 ∨ v ≤ 999) → (3 ≤ j ∨ v ≤ 99) → (2 ≤ j ∨ v ≤ 9) → (1 ≤ j ∨ v ≤ 0) → w_T (eMo_number_49 Lg d a b (q.1 : Int) v M) (fun r => mN1 T n q (if 4 < j + f then .inl (1, q.1 + 4) else if a ≤ tVal T f p v ∧ tVal T f p v ≤ b then .inr (tVal T f p v) else .inl (2, q.1)) r ∧ gX M r.2)
  | 0, p, j, v, M, ht, _, h3, h5, h6, h2, hp, hj, hj4, hv, _, _, _, _ => by
    have hk2 := (tD_k (Or.inr rfl) hk).1
    have hr := (te_run (T := T) hq.1 (by rw [hk2]; decide)).2
    have hte := te_all (T := T) hq.1
    have hn := ht.1
    rw [hk2] at hr
    have hpe : p = te T n q.1 := by omega
    have fin : w_T (if bz_b (a ≤ v ∧ v ≤ b) = 0 then (eMo_fail Lg (d - 1) 2 (q.1 : Int) (bz_up (bz_up M 319 4 (M 319 2)) 319 10 (q.1 : Int))).bind (fun M1 => some (v, M1)) else some (v, (bz_up (bz_up M 319 4 (M 319 2)) 319 10 (q.1 : Int)))) (fun r => mN1 T n q (if 4 < j + 0 then .inl (1, q.1 + 4) else if a ≤ tVal T 0 p v ∧ tVal T 0 p v ≤ b then .inr (tVal T 0 p v) else .inl (2, q.1)) r ∧ gX M r.2) := by
      rw [if_neg (show ¬ 4 < j + 0 by omega)]
      unfold tVal
      by_cases c : a ≤ v ∧ v ≤ b
      · rw [bz_b1.mpr c, if_neg (by decide), if_pos c]
        refine T_some ⟨⟨rfl, ?_, bz_up_eq (bz_up M 319 4 (M 319 2)) 319 10 _⟩, gX_trans (gX_up (by decide)) (gX_up (by decide))⟩
        show mX T n (nx T n q) (bz_up (bz_up M 319 4 (M 319 2)) 319 10 (q.1 : Int))
        have hq1 : te T n q.1 ≤ n := hte.2.1
        refine ⟨?_, ?_, ?_, ?_, ?_, ?_, ?_⟩
        · rw [bz_up_nk (by decide), bz_up_nk (by decide), h2]; omega
        · rw [bz_up_nk (by decide), bz_up_nk (by decide), h2, Int.toNat_natCast, hpe]; rfl
        · rw [bz_up_nk (by decide), bz_up_nk (by decide)]; exact h3
        · simp [bz_up_rk]
        · rw [bz_up_nk (by decide), bz_up_eq, h2, hpe]
          show (decide (sk T n (te T n q.1) = te T n q.1) && decide (tK T n q.1 = 1 ∨ tK T n q.1 = 2)) = true ↔ ((te T n q.1 : Nat) : Int) = ((sk T n (te T n q.1) : Nat) : Int)
          rw [Bool.and_eq_true, decide_eq_true_eq, decide_eq_true_eq]
          omega
        · rw [bz_up_nk (by decide), bz_up_nk (by decide)]; exact h5
        · rw [bz_up_nk (by decide), bz_up_nk (by decide)]; exact h6
      · rw [bz_b0.mpr c, if_pos rfl, if_neg c]
        refine T_seq (mo_fail (by rw [bz_up_nk (by decide), bz_up_nk (by decide)]; exact h5) (by decide)) ?_
        rintro M1 ⟨x, y, _⟩
        exact T_some ⟨⟨hv, x⟩, gX_trans (gX_trans (gX_up (by decide)) (gX_up (by decide))) y⟩
    refine T_le (eMo_number_49_E hd) ?_
    by_cases c : p < n
    · have hb := ht.2 p c
      have hl : ¬ (48 ≤ T p ∧ T p ≤ 57) := by
        intro hl
        apply hr
        rw [← hpe]
        refine ⟨c, ?_⟩
        unfold tK
        rw [if_pos c, if_neg (by omega), if_pos hl]
      rw [h3, if_pos (by rw [h2]; omega), if_pos (by rw [h2]; omega), show (M 319 2).toNat = p by omega, hb.1, bz_b0.mpr hl, if_pos rfl]
      exact fin
    · rw [h3, if_neg (by rw [h2]; omega)]
      exact fin
  | f + 1, p, j, v, M, ht, _, h3, h5, h6, h2, hp, hj, hj4, hv, g0, g1, g2', g3 => by
    have hk2 := (tD_k (Or.inr rfl) hk).1
    have hte := te_all (T := T) hq.1
    have hrun := (te_run (T := T) hq.1 (by rw [hk2]; decide)).1 p (by omega) (by omega)
    rw [hk2] at hrun
    have hlt := tK_lt (T := T) (n := n) (p := p) (by omega)
    have hb := ht.2 p hlt
    have hn := ht.1
    have hdg : 48 ≤ T p ∧ T p ≤ 57 := by
      unfold tK at hrun
      rw [if_pos hlt] at hrun
      split at hrun
      · cases hrun
      · split at hrun
        · assumption
        · cases hrun
    refine T_le (eMo_number_49_E hd) ?_
    rw [h2, h3, if_pos (by omega), if_pos (by omega), Int.toNat_natCast, hb.1, bz_b1.mpr hdg, if_neg (by decide), w32_id (z := (p : Int) - (q.1 : Int)) (by omega) (by omega)]
    by_cases c4 : j = 4
    · rw [if_pos (by omega), if_pos (by omega)]
      refine T_seq (mo_fail h5 (by decide)) ?_
      rintro M1 ⟨x, y, _⟩
      refine T_some ⟨⟨by omega, ?_⟩, y⟩
      rw [show (p : Int) = ((q.1 + 4 : Nat) : Int) by omega] at x
      exact x
    · rw [if_neg (by omega), w32_id (z := 10 * v) (by omega) (by omega), w32_id (z := 10 * v + T p) (by omega) (by omega), w32_id (z := 10 * v + T p - 48) (by omega) (by omega), w32_id (z := (p : Int) + 1) (by omega) (by omega)]
      have := mo_n49 hd (a := a) (b := b) hq hk f (p + 1) (j + 1) (10 * v + T p - 48) (bz_up M 319 2 ((p : Int) + 1)) (mt_g ht (gX_up (by decide))) (Or.inr trivial) (by rw [bz_up_nk (by decide)]; exact h3) (by rw [bz_up_nk (by decide)]; exact h5) (by rw [bz_up_nk (by decide)]; exact h6) (by rw [bz_up_eq]; omega) (by omega) (by omega) (by omega) (by omega) (by omega) (by omega) (by omega) (by omega)
      refine T_mono this ?_
      rintro r ⟨x, y⟩
      refine ⟨?_, gX_trans (gX_up (by decide)) y⟩
      rw [show j + 1 + f = j + (f + 1) by omega] at x
      exact x
theorem mo_num (hd : 0 < d) (ht : mt T n M) (hX : mX T n q M) {a b : Int} : w_T (eMo_number Lg d a b M) (fun r => mN1 T n q (tNum T n a b q) r ∧ gX M r.2) := by
  have hq := mX_qOK hX
  have hn := ht.1
  have hte := te_all (T := T) hq.1
  refine T_le (eMo_number_E hd) ?_
  rw [if_pos hX.2.2.2.2.2.1]
  refine T_seq (mo_look ht hX) ?_
  rintro ⟨p1, p2⟩ ⟨e1, e2, e3⟩
  dsimp only at e1 e2 e3 ⊢
  have bad : ¬ tD T n q = 2 → w_T ((eMo_fail Lg (d - 1) 1 (p2 319 2) p2).bind (fun M1 => some ((0 : Int), M1))) (fun r => mN1 T n q (tNum T n a b q) r ∧ gX M r.2) := by
    intro h
    rw [e2.2]
    refine T_seq (mo_fail e2.1.2.2.2.2.2.1 (by decide)) ?_
    rintro M1 ⟨x, y, _⟩
    refine T_some ⟨?_, gX_trans (gX_2 e3) y⟩
    unfold tNum
    rw [if_neg h]
    exact ⟨show (0 : Int) ≤ 0 ∧ (0 : Int) ≤ 9999 by decide, x⟩
  rw [e1]
  by_cases c : tK T n q.1 = 2
  · rw [bz_b1.mpr (lk_2.mpr c), if_neg (by decide)]
    by_cases g : q.2 = true
    · rw [if_pos (by rw [e2.2]; exact (e2.1.2.2.2.2.1.mp g).symm)]
      refine bad (fun h => ?_)
      have := (tD_k (Or.inr rfl) h).2
      rw [g] at this
      cases this
    · rw [if_neg (by rw [e2.2]; exact fun h => g (e2.1.2.2.2.2.1.mpr h.symm)), e2.2]
      have hd1 : tD T n q = 2 := by
        unfold tD
        rw [if_neg (fun h => g h.1)]
        exact c
      have := mo_n49 (Lg := Lg) hd (a := a) (b := b) hq hd1 (te T n q.1 - q.1) q.1 0 0 p2 (mt_g ht (gX_2 e3)) (Or.inr trivial) e2.1.2.2.1 e2.1.2.2.2.2.2.1 e2.1.2.2.2.2.2.2 e2.2 (by omega) (by omega) (by omega) (by omega) (by omega) (by omega) (by omega) (by omega)
      refine T_mono this ?_
      rintro r ⟨x, y⟩
      refine ⟨?_, gX_trans (gX_2 e3) y⟩
      unfold tNum
      rw [if_pos hd1]
      rw [show 0 + (te T n q.1 - q.1) = te T n q.1 - q.1 by omega] at x
      exact x
  · rw [bz_b0.mpr (fun h => c (lk_2.mp h)), if_pos rfl]
    exact bad (fun h => c (tD_k (Or.inr rfl) h).1)
theorem mo_num_f {k pl a b : Int} (hd : 0 < d) (hX : mXf k pl M) : eMo_number Lg d a b M = some (0, M) := by
  refine eMo_number_E hd _ ?_
  rw [if_neg (by rw [hX.1]; exact hX.2.1)]
end MX

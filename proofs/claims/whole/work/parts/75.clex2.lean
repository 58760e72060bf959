/-! THE CLASS'S TEXT: what is asked of a piece -/
def wPl (i : Nat) : Int := (bz_sml.getD (5 + i) []).getD 1 0
def wFa (i : Nat) : Int := (bz_sml.getD (5 + i) []).getD 2 0
/-- a word that may stand in a place of that kind -/
abbrev isF (T : Nat → Int) (n : Nat) (w : Int) (q : pL) : Prop := tD T n q = 1 ∧ wd T n q.1 < 39 ∧ bz_and (wPl (wd T n q.1)) w ≠ 0
section CY
variable {Lg d n : Nat} {T : Nat → Int} {M M' : bz_M} {q : pL}
theorem cX_up {k : Nat} {x : Int} {r : Nat} (h : cX T n q M) (hr : r ≠ 123) : cX T n q (bz_up M r k x) := by
  unfold cX at h ⊢
  rw [bz_up_fn (Ne.symm hr)]
  exact h
theorem cX_co (h : cX T n q M) (e : M' 123 = M 123) : cX T n q M' := by
  unfold cX at h ⊢
  rw [e]
  exact h
theorem cXf_co {k pl : Int} (h : cXf n k pl M) (e : M' 123 = M 123) : cXf n k pl M' := by
  unfold cXf at h ⊢
  rw [e]
  exact h
theorem tD_3 : tD T n q = 3 ↔ tK T n q.1 = 3 := by
  unfold tD
  constructor
  · intro h
    split at h
    · cases h
    · exact h
  · intro h
    rw [if_neg (by omega)]; exact h
theorem tD_k {k : Int} (hk : k = 1 ∨ k = 2) (h : tD T n q = k) : tK T n q.1 = k ∧ q.2 = false := by
  unfold tD at h
  split at h
  · omega
  · rename_i e
    refine ⟨h, ?_⟩
    cases hq : q.2 with
    | false => rfl
    | true => exact absurd ⟨hq, by omega⟩ e
theorem tD_0 : tD T n q = 0 ↔ n ≤ q.1 := by
  have h := tK_rg (T := T) (n := n) q.1
  unfold tD
  constructor
  · intro e
    split at e
    · cases e
    · by_cases c : q.1 < n
      · have := h.1 c; omega
      · omega
  · intro e
    rw [h.2 e, if_neg (by omega)]
theorem tx_fail (hX : cX T n q M) {a b : Int} (ha : a ≠ 0) : w_T (eTx_fail Lg d a b M) (fun M' => cXf n a b M' ∧ fT M M') := by
  refine T_le eTx_fail_E ?_
  rw [if_pos hX.2.2.2.2.2.1]
  refine T_some ⟨⟨?_, ?_, ?_, ?_, ha, ?_⟩, fT_trans (fT_trans (fT_trans fT_up fT_up) (fT_trans fT_up fT_up)) fT_up⟩
  · simp [bz_up_rk]; exact hX.1
  · simp [bz_up_rk]
  · simp [bz_up_rk]
  · simp [bz_up_rk]
  · simp [bz_up_rk]
theorem tx_fail_f {k pl a b : Int} (hX : cXf n k pl M) : w_T (eTx_fail Lg d a b M) (fun M' => cXf n k pl M' ∧ fT M M') := by
  refine T_le eTx_fail_E ?_
  rw [if_neg (by rw [hX.2.2.2.1]; exact hX.2.2.2.2.1)]
  refine T_some ⟨⟨?_, ?_, ?_, ?_, hX.2.2.2.2.1, ?_⟩, fT_trans (fT_trans fT_up fT_up) fT_up⟩
  · simp [bz_up_rk]; exact hX.1
  · simp [bz_up_rk]
  · simp [bz_up_rk]
  · simp [bz_up_rk]; exact hX.2.2.2.1
  · simp [bz_up_rk]; exact hX.2.2.2.2.2
theorem tx_isSign (ht : tb T n M) (hX : cX T n q M) {a : Int} (ha : 0 ≤ a ∧ a < 128) : eTx_isSign Lg d a M = some (bz_b (isS T n a q), M) := by
  refine eTx_isSign_E _ ?_
  rw [hX.2.2.2.1, hX.1, hX.2.1]
  by_cases e : tK T n q.1 = 3
  · have hlt := tK_lt (T := T) (n := n) (p := q.1) (by omega)
    have hb := ht.2 q.1 hlt
    have hn := ht.1
    have hc := w8_is hb.2.1 hb.2.2 ha
    rw [if_pos (tD_3.mpr e), if_pos (by omega), if_pos (by omega), Int.toNat_natCast, hb.1]
    by_cases c : T q.1 = a
    · rw [if_pos (hc.mpr c), bz_b1.mpr ⟨e, c⟩]
    · rw [if_neg (fun h => c (hc.mp h)), bz_b0.mpr (fun h => c h.2)]
  · rw [if_neg (fun h => e (tD_3.mp h)), bz_b0.mpr (fun h => e h.1)]
theorem tx_isSign_f {k pl a : Int} (hX : cXf n k pl M) : eTx_isSign Lg d a M = some (0, M) := by
  refine eTx_isSign_E _ ?_
  rw [hX.2.1, if_neg (by decide)]
theorem tW_is (h : tD T n q = 1) : tW T n q = (if wd T n q.1 < 39 then ((5 + wd T n q.1 : Nat) : Int) else 0) := by
  unfold tW
  rw [if_pos (tD_k (Or.inl rfl) h).1]
theorem tx_isWord (hX : cX T n q M) {i : Nat} (hi : i < 39) : eTx_isWord Lg d (5 + i) M = some (bz_b (isW T n i q), M) := by
  refine eTx_isWord_E _ ?_
  rw [hX.2.2.2.1, hX.2.2.2.2.1]
  by_cases e : tD T n q = 1
  · rw [if_pos e, tW_is e]
    by_cases c : wd T n q.1 < 39
    · rw [if_pos c, Int.toNat_natCast, if_pos ⟨Or.inr (kd5 c), Or.inr (kd5 hi)⟩]
      by_cases c2 : wd T n q.1 = i
      · rw [if_pos (by omega), bz_b1.mpr ⟨e, c2⟩]
      · rw [if_neg (by omega), bz_b0.mpr (fun h => c2 h.2)]
    · rw [if_neg c, if_pos ⟨Or.inl rfl, Or.inr (kd5 hi)⟩, if_neg (by show ¬ (0 : Nat) = 5 + i; omega), bz_b0.mpr (fun h => c (by omega))]
  · rw [if_neg e, bz_b0.mpr (fun h => e h.1)]
theorem tx_isWord_f {k pl : Int} {w : Nat} (hX : cXf n k pl M) : eTx_isWord Lg d w M = some (0, M) := by
  refine eTx_isWord_E _ ?_
  rw [hX.2.1, if_neg (by decide)]
theorem tx_fact (hd : 0 < d) (hs : stC M) (hX : cX T n q M) {w : Int} : (isF T n w q → eTx_isFact Lg d w M = some (1, M)) ∧ (¬ isF T n w q → eTx_isFact Lg d w M = some (0, M)) := by
  have h5 : ∀ i, i < 39 → M (5 + i) 1 = wPl i := fun i hi => hs (5 + i) 1 (by omega) (by omega)
  constructor
  · intro h
    refine eTx_isFact_E hd _ ?_
    rw [hX.2.2.2.1, hX.2.2.2.2.1, if_pos h.1, tW_is h.1, if_pos h.2.1, Int.toNat_natCast, if_neg (by omega), if_pos (kd5 h.2.1)]
    have : eWo_standsIn Lg (d - 1) (5 + wd T n q.1) w M = some (1, M) := eWo_standsIn_E _ (by rw [if_pos (kd5 h.2.1), h5 _ h.2.1, if_neg h.2.2])
    rw [this]
    rfl
  · intro h
    refine eTx_isFact_E hd _ ?_
    rw [hX.2.2.2.1, hX.2.2.2.2.1]
    by_cases e : tD T n q = 1
    · rw [if_pos e, tW_is e]
      by_cases c : wd T n q.1 < 39
      · rw [if_pos c, Int.toNat_natCast, if_neg (by omega), if_pos (kd5 c)]
        have : eWo_standsIn Lg (d - 1) (5 + wd T n q.1) w M = some (0, M) := eWo_standsIn_E _ (by
          rw [if_pos (kd5 c), h5 _ c, if_pos (Classical.byContradiction (fun h' => h ⟨e, c, h'⟩))])
        rw [this]
        rfl
      · rw [if_neg c]
        rfl
    · rw [if_neg e]
theorem tx_fact_f {k pl w : Int} (hd : 0 < d) (hX : cXf n k pl M) : eTx_isFact Lg d w M = some (0, M) := by
  refine eTx_isFact_E hd _ ?_
  rw [hX.2.1, if_neg (by decide)]
theorem tx_tw1 (hd : 3 < d) (hs : stC M) (ht : tb T n M) (hq : qOK T n q) (hX : cX T n q M) {i : Nat} (hi : i < 39) (h : isW T n i q) : w_T (eTx_takesWord Lg d (5 + i) M) (fun p => p.1 = 1 ∧ cX T n (nx T n q) p.2 ∧ fT M p.2) := by
  refine T_le (eTx_takesWord_E (by omega)) ?_
  refine T_run (tx_isWord hX hi) ?_
  dsimp only
  rw [bz_b1.mpr h, if_neg (by decide)]
  refine T_seq (tx_step (by omega) hs ht hq hX (by rw [h.1]; decide)) ?_
  rintro M1 ⟨a, b⟩
  exact T_some ⟨rfl, a, b⟩
theorem tx_tw0 (hd : 0 < d) (hX : cX T n q M) {i : Nat} (hi : i < 39) (h : ¬ isW T n i q) : eTx_takesWord Lg d (5 + i) M = some (0, M) := by
  refine eTx_takesWord_E hd _ ?_
  rw [tx_isWord hX hi, bz_b0.mpr h]
  rfl
theorem tx_tw_f {k pl : Int} {w : Nat} (hd : 0 < d) (hX : cXf n k pl M) : eTx_takesWord Lg d w M = some (0, M) := by
  refine eTx_takesWord_E hd _ ?_
  rw [tx_isWord_f hX]
  rfl
theorem tx_ns1 (hd : 3 < d) (hs : stC M) (ht : tb T n M) (hq : qOK T n q) (hX : cX T n q M) {a : Int} (ha : 0 ≤ a ∧ a < 128) (h : isS T n a q) : w_T (eTx_needsSign Lg d a M) (fun M' => cX T n (nx T n q) M' ∧ fT M M') := by
  refine T_le (eTx_needsSign_E (by omega)) ?_
  refine T_run (tx_isSign ht hX ha) ?_
  dsimp only
  rw [bz_b1.mpr h, if_neg (by decide)]
  refine T_seq (tx_step (by omega) hs ht hq hX (by rw [tD_3.mpr h.1]; decide)) ?_
  rintro M1 ⟨a, b⟩
  exact T_some ⟨a, b⟩
theorem tx_ns0 (hd : 0 < d) (ht : tb T n M) (hX : cX T n q M) {a : Int} (ha : 0 ≤ a ∧ a < 128) (h : ¬ isS T n a q) : w_T (eTx_needsSign Lg d a M) (fun M' => cXf n 1 (q.1 : Int) M' ∧ fT M M') := by
  refine T_le (eTx_needsSign_E (by omega)) ?_
  refine T_run (tx_isSign ht hX ha) ?_
  dsimp only
  rw [bz_b0.mpr h, if_pos rfl, hX.2.1]
  refine T_seq (tx_fail hX (by decide)) ?_
  rintro M1 ⟨a, b⟩
  exact T_some ⟨a, b⟩
theorem tx_ns_f {k pl a : Int} (hd : 0 < d) (hX : cXf n k pl M) : w_T (eTx_needsSign Lg d a M) (fun M' => cXf n k pl M' ∧ fT M M') := by
  refine T_le (eTx_needsSign_E (by omega)) ?_
  refine T_run (tx_isSign_f hX) ?_
  dsimp only
  rw [if_pos rfl]
  refine T_seq (tx_fail_f hX) ?_
  rintro M1 ⟨a, b⟩
  exact T_some ⟨a, b⟩
theorem tx_nw1 (hd : 3 < d) (hs : stC M) (ht : tb T n M) (hq : qOK T n q) (hX : cX T n q M) {i : Nat} (hi : i < 39) (h : isW T n i q) : w_T (eTx_needsWord Lg d (5 + i) M) (fun M' => cX T n (nx T n q) M' ∧ fT M M') := by
  refine T_le (eTx_needsWord_E (by omega)) ?_
  refine T_run (tx_isWord hX hi) ?_
  dsimp only
  rw [bz_b1.mpr h, if_neg (by decide)]
  refine T_seq (tx_step (by omega) hs ht hq hX (by rw [h.1]; decide)) ?_
  rintro M1 ⟨a, b⟩
  exact T_some ⟨a, b⟩
theorem tx_nw0 (hd : 0 < d) (hX : cX T n q M) {i : Nat} (hi : i < 39) (h : ¬ isW T n i q) : w_T (eTx_needsWord Lg d (5 + i) M) (fun M' => cXf n 1 (q.1 : Int) M' ∧ fT M M') := by
  refine T_le (eTx_needsWord_E (by omega)) ?_
  refine T_run (tx_isWord hX hi) ?_
  dsimp only
  rw [bz_b0.mpr h, if_pos rfl, hX.2.1]
  refine T_seq (tx_fail hX (by decide)) ?_
  rintro M1 ⟨a, b⟩
  exact T_some ⟨a, b⟩
theorem tx_nw_f {k pl : Int} {w : Nat} (hd : 0 < d) (hX : cXf n k pl M) : w_T (eTx_needsWord Lg d w M) (fun M' => cXf n k pl M' ∧ fT M M') := by
  refine T_le (eTx_needsWord_E (by omega)) ?_
  refine T_run (tx_isWord_f hX) ?_
  dsimp only
  rw [if_pos rfl]
  refine T_seq (tx_fail_f hX) ?_
  rintro M1 ⟨a, b⟩
  exact T_some ⟨a, b⟩
/-! numbers -/
/-- what a number does to the class's text -/
def cN1 (T : Nat → Int) (n : Nat) (q : pL) (o : (Int × Nat) ⊕ Int) (a : Int) (p : Int × bz_M) : Prop := match o with
  | .inl e => p.1 = a ∧ cXf n e.1 (e.2 : Int) p.2
  | .inr v => p.1 = v ∧ cX T n (nx T n q) p.2
theorem tx_53 (hd : 3 < d) (hs : stC M) (ht : tb T n M) (hq : qOK T n q) (hX : cX T n q M) (hk : tD T n q = 2) {a b V : Int} : ∀ (f p : Nat) (v : Int), p + f = te T n q.1 → q.1 ≤ p → f ≤ 4 → (0 ≤ v ∧ v ≤ 9999) → (f = 0 ∨ v ≤ 999) → (f ≤ 1 ∨ v ≤ 99) → (f ≤ 2 ∨ v ≤ 9) → (f ≤ 3 ∨ v ≤ 0) → tVal T f p v = V → w_T (eTx_takesNumber_53 Lg d a b v (p : Int) M) (fun r => cN1 T n q (if a ≤ V ∧ V ≤ b then .inr V else .inl (2, q.1)) a r ∧ fT M r.2)
  | 0, p, v, hp, hqp, hf, hv, _, _, _, _, hV => by
    refine T_le (eTx_takesNumber_53_E (by omega)) ?_
    rw [hX.2.2.1, if_neg (by omega), hX.2.1]
    unfold tVal at hV
    subst hV
    by_cases c1 : v < a
    · rw [if_pos c1, if_neg (show ¬ (a ≤ v ∧ v ≤ b) by omega)]
      refine T_seq (tx_fail hX (by decide)) ?_
      rintro M1 ⟨x, y⟩
      exact T_some ⟨⟨rfl, x⟩, y⟩
    · rw [if_neg c1]
      by_cases c2 : b < v
      · rw [if_pos c2, if_neg (show ¬ (a ≤ v ∧ v ≤ b) by omega)]
        refine T_seq (tx_fail hX (by decide)) ?_
        rintro M1 ⟨x, y⟩
        exact T_some ⟨⟨rfl, x⟩, y⟩
      · rw [if_neg c2, if_pos (show a ≤ v ∧ v ≤ b by omega)]
        refine T_seq (tx_step (by omega) hs ht hq hX (by rw [hk]; decide)) ?_
        rintro M1 ⟨x, y⟩
        exact T_some ⟨⟨rfl, x⟩, y⟩
  | f + 1, p, v, hp, hqp, hf, hv, g0, g1, g2, g3, hV => by
    have hk2 := (tD_k (Or.inr rfl) hk).1
    have hte := te_all (T := T) hq.1
    have hrun := (te_run (T := T) hq.1 (by rw [hk2]; decide)).1 p hqp (by omega)
    rw [hk2] at hrun
    have hlt := tK_lt (T := T) (n := n) (p := p) (by omega)
    have hb := ht.2 p hlt
    have hn := ht.1
    have hdg : 48 ≤ T p ∧ T p ≤ 57 := by
      unfold tK at hrun
      rw [if_pos hlt] at hrun
      split at hrun
      · cases hrun
      · split at hrun
        · assumption
        · cases hrun
    have h8 : bz_w8 (T p) = T p := w8_id (by omega) (by omega)
    refine T_le (eTx_takesNumber_53_E (by omega)) ?_
    rw [hX.2.2.1, if_pos (by omega), if_pos (by omega), Int.toNat_natCast, hb.1, h8, w32_id (z := v * 10) (by omega) (by omega), w32_id (z := v * 10 + T p) (by omega) (by omega), w32_id (z := v * 10 + T p - 48) (by omega) (by omega), w32_id (z := (p : Int) + 1) (by omega) (by omega)]
    unfold tVal at hV
    rw [show v * 10 + T p - 48 = 10 * v + T p - 48 by omega]
    exact tx_53 hd hs ht hq hX hk f (p + 1) (10 * v + T p - 48) (by omega) (by omega) (by omega) (by omega) (by omega) (by omega) (by omega) (by omega) hV
theorem tx_num (hd : 3 < d) (hs : stC M) (ht : tb T n M) (hq : qOK T n q) (hX : cX T n q M) {a b : Int} : w_T (eTx_takesNumber Lg d a b M) (fun r => cN1 T n q (tNum T n a b q) a r ∧ fT M r.2) := by
  have hte := te_all (T := T) hq.1
  have hn := ht.1
  have hq1 := hq.1
  refine T_le (eTx_takesNumber_E (by omega)) ?_
  rw [hX.2.2.2.1, hX.2.2.1, hX.2.1, w32_id (z := ((te T n q.1 : Nat) : Int) - (q.1 : Int)) (by omega) (by omega), w32_id (z := (q.1 : Int) + 4) (by omega) (by omega)]
  unfold tNum
  by_cases e : tD T n q = 2
  · rw [if_pos e, if_pos e]
    by_cases c : 4 < te T n q.1 - q.1
    · rw [if_pos (by omega), if_pos c]
      refine T_seq (tx_fail hX (by decide)) ?_
      rintro M1 ⟨x, y⟩
      refine T_some ⟨⟨rfl, ?_⟩, y⟩
      show cXf n 1 ((q.1 + 4 : Nat) : Int) M1
      rw [show ((q.1 + 4 : Nat) : Int) = (q.1 : Int) + 4 by omega]
      exact x
    · rw [if_neg (by omega), if_neg c]
      exact tx_53 hd hs ht hq hX e (te T n q.1 - q.1) q.1 0 (by omega) (by omega) (by omega) (by omega) (by omega) (by omega) (by omega) (by omega) rfl
  · rw [if_neg e, if_neg e]
    refine T_seq (tx_fail hX (by decide)) ?_
    rintro M1 ⟨x, y⟩
    exact T_some ⟨⟨rfl, x⟩, y⟩
theorem tx_num_f {k pl a b : Int} (hd : 0 < d) (hX : cXf n k pl M) : w_T (eTx_takesNumber Lg d a b M) (fun r => r.1 = a ∧ cXf n k pl r.2 ∧ fT M r.2) := by
  refine T_le (eTx_takesNumber_E hd) ?_
  rw [hX.2.1, if_neg (by decide)]
  refine T_seq (tx_fail_f hX) ?_
  rintro M1 ⟨x, y⟩
  exact T_some ⟨rfl, x, y⟩
/-! codes that are put down -/
def cC (c : Nat) (cs : List Int) (M : bz_M) : Prop := M c 2 = (cs.length : Int) ∧ zSeg (M (c + 1)) 0 (cs.map pBk)
theorem zSeg_app {A : Nat → Int} : ∀ (l m : List Int) (k : Nat), zSeg A k (l ++ m) ↔ zSeg A k l ∧ zSeg A (k + l.length) m
  | [], m, k => by
    constructor
    · intro h; exact ⟨trivial, h⟩
    · rintro ⟨_, h⟩; exact h
  | x :: l, m, k => by
    have ih := zSeg_app (A := A) l m (k + 1)
    constructor
    · intro h
      have h2 := ih.mp h.2
      refine ⟨⟨h.1, h2.1⟩, ?_⟩
      rw [show k + (x :: l).length = k + 1 + l.length by simp; omega]
      exact h2.2
    · rintro ⟨h1, h2⟩
      refine ⟨h1.1, ih.mpr ⟨h1.2, ?_⟩⟩
      rw [show k + (x :: l).length = k + 1 + l.length by simp; omega] at h2
      exact h2
theorem cd_put {c : Nat} {cs : List Int} {op : Int} (hc : bz_oC c) (h : cC c cs M) (hl : cs.length < 1600) : w_T (eCd_put Lg d c (pBk op) M) (fun M' => cC c (cs ++ [op]) M' ∧ ∀ r, r ≠ c → r ≠ c + 1 → M' r = M r) := by
  refine T_le (eCd_put_E hc) ?_
  rw [h.1, if_pos (by omega), if_pos (by omega), Int.toNat_natCast, bz_up_nr (by omega), h.1, w32_id (by omega) (by omega)]
  refine T_some ⟨⟨?_, ?_⟩, fun r h1 h2 => ?_⟩
  · rw [bz_up_eq]; simp
  · rw [bz_up_fn (by omega), List.map_append, zSeg_app]
    refine ⟨zSeg_co (fun i _ hi => ?_) h.2, ?_, trivial⟩
    · rw [bz_up_nk (by simp at hi; omega)]
    · simp [bz_up_rk]
  · rw [bz_up_fn h1, bz_up_fn h2]
theorem cd_put_f {c : Nat} {a : Int} (hc : bz_oC c) (h : 0 ≤ M c 2 ∧ M c 2 ≤ 1600) : w_T (eCd_put Lg d c a M) (fun M' => (0 ≤ M' c 2 ∧ M' c 2 ≤ 1600) ∧ ∀ r, r ≠ c → r ≠ c + 1 → M' r = M r) := by
  refine T_le (eCd_put_E hc) ?_
  by_cases e : M c 2 < 1600
  · rw [if_pos e, if_pos (by omega), bz_up_nr (by omega), w32_id (by omega) (by omega)]
    refine T_some ⟨?_, fun r h1 h2 => ?_⟩
    · rw [bz_up_eq]; omega
    · rw [bz_up_fn h1, bz_up_fn h2]
  · rw [if_neg e]
    exact T_some ⟨h, fun _ _ _ => rfl⟩
end CY

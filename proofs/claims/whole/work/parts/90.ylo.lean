/-! A VALLEY IS TOLD: the class's names and lords -/
def tkB (Y : bz_M) (f : Nat → Int) : Bool := (List.range (Y 319 46).toNat).any (fun l => (List.range 6).all (fun k => decide (Y 1000 (6 * l + k) = f k)))
theorem tkB_iff (Y : bz_M) (f : Nat → Int) : tkB Y f = true ↔ ∃ l, l < (Y 319 46).toNat ∧ ∀ k, k < 6 → Y 1000 (6 * l + k) = f k := by
  unfold tkB
  simp only [List.any_eq_true, List.mem_range, List.all_eq_true, decide_eq_true_eq]
section YF
variable (T : Nat → Int) (n : Nat)
def tLt (q : pL) (k : Nat) : Int := if k < te T n q.1 - q.1 then T (q.1 + k) - 96 else 0
def oNm (Y : bz_M) (s : sT) : sT := match s with
  | .inl e => .inl e
  | .inr q => if tD T n q = 1 ∧ ¬ isF T n 1 q then (if 6 < te T n q.1 - q.1 then .inl (1, q.1 + 6) else if tkB Y (tLt T n q) = true then .inl (3, q.1) else .inr (nx T n q)) else .inl (1, q.1)
def tNv : Nat → Nat → Int → Int
  | 0, _, v => v
  | k + 1, p, v => tNv k (p + 1) (27 * v + T p - 96)
def yLet (Y : bz_M) (l : Nat) (f : Nat → Int) : bz_M := fun r k => if r = 1000 ∧ 6 * l ≤ k ∧ k < 6 * l + 6 then f (k - 6 * l) else Y r k
/-- the row of a lord -/
def yRow (Y : bz_M) (l : Nat) (q : pL) (a b c e g : Int) : bz_M := yLet (bz_up (bz_up (bz_up (bz_up (bz_up (bz_up (bz_up Y 356 l (tNv T (te T n q.1 - q.1) q.1 0)) 357 (5 * l) a) 357 (5 * l + 1) b) 357 (5 * l + 2) c) 357 (5 * l + 3) e) 357 (5 * l + 4) g) 319 46 ((l : Int) + 1)) l (tLt T n q)
/-- a lord, from behind its word on -/
def yLo (Y : bz_M) (q : pL) : sT × bz_M :=
  let s1 := oN T n 0 (Y 355 0 - 1) (oW T n 7 (oNm T n Y (.inr q)))
  let s2 := oN T n s1.2 (Y 355 0 - 1) (oW T n 8 s1.1)
  let s3 := oN T n 0 99 (oW T n 9 s2.1)
  let s4 := oN T n 0 99 (oW T n 10 s3.1)
  let s5 := oN T n 0 999 (oW T n 11 s4.1)
  (s5.1, yRow T n Y (Y 319 46).toNat q s1.2 s2.2 s3.2 s4.2 s5.2)
end YF
section YG
variable {Lg d n v : Nat} {T : Nat → Int} {Y M M' : bz_M} {s : sT}
theorem c_taken (hv : bz_oV v) {L : Nat} (hL : L < 5) (h3 : M v 3 = (L : Int)) (hYL : Y 319 46 = (L : Int)) (h4 : ∀ l, l < L → ∀ k, k < 6 → M (v + 4) (6 * l + k) = Y 1000 (6 * l + k)) {f : Nat → Int} (hf : ∀ k, k < 6 → M (v + 4) (6 * L + k) = f k) : eVy_isNameTaken Lg d v M = some (bz_b (tkB Y f = true), M) := by
  have key : ∀ (g l : Nat), l + g = L → (∀ j, j < l → ¬ ∀ k, k < 6 → Y 1000 (6 * j + k) = f k) → w_T (eVy_isNameTaken_2 Lg d v (l : Int) M) (fun p => p = (bz_b (tkB Y f = true), M)) := by
    intro g
    induction g with
    | zero =>
      intro l hl hn
      refine T_le (eVy_isNameTaken_2_E hv) ?_
      rw [h3, if_neg (by omega), bz_b0.mpr]
      · exact T_some rfl
      · rw [tkB_iff]
        rintro ⟨j, hj, hk⟩
        exact hn j (by omega) hk
    | succ g ih =>
      intro l hl hn
      refine T_le (eVy_isNameTaken_2_E hv) ?_
      rw [h3, if_pos (by omega)]
      have inner : ∀ (m i c : Nat), i + m = 6 → c ≤ i → (c = i ↔ ∀ k, k < i → Y 1000 (6 * l + k) = f k) → w_T (eVy_isNameTaken_14 Lg d v (l : Int) (c : Int) (i : Int) M) (fun p => p = (bz_b (tkB Y f = true), M)) := by
        intro m
        induction m with
        | zero =>
          intro i c hi hc hci
          refine T_le (eVy_isNameTaken_14_E hv) ?_
          rw [if_neg (by omega)]
          by_cases e : c = 6
          · rw [if_pos (by omega), bz_b1.mpr]
            · exact T_some rfl
            · rw [tkB_iff]
              exact ⟨l, by omega, fun k hk => hci.mp (by omega) k (by omega)⟩
          · rw [if_neg (by omega), w32_id (by omega) (by omega)]
            refine ih (l + 1) (by omega) (fun j hj => ?_)
            by_cases ej : j = l
            · subst ej
              intro hall
              have := hci.mpr (fun k hk => hall k (by omega))
              omega
            · exact hn j (by omega)
        | succ m ihm =>
          intro i c hi hc hci
          refine T_le (eVy_isNameTaken_14_E hv) ?_
          rw [h3, if_pos (by omega), w32_id (z := (l : Int) * 6) (by omega) (by omega), w32_id (z := (l : Int) * 6 + (i : Int)) (by omega) (by omega), w32_id (z := (L : Int) * 6) (by omega) (by omega), w32_id (z := (L : Int) * 6 + (i : Int)) (by omega) (by omega), if_pos (by omega), if_pos (by omega), show ((l : Int) * 6 + (i : Int)).toNat = 6 * l + i by omega, show ((L : Int) * 6 + (i : Int)).toNat = 6 * L + i by omega, h4 l (by omega) i (by omega), hf i (by omega), w32_id (z := (i : Int) + 1) (by omega) (by omega), w32_id (z := (c : Int) + 1) (by omega) (by omega)]
          by_cases e : Y 1000 (6 * l + i) = f i
          · rw [if_pos e]
            refine ihm (i + 1) (c + 1) (by omega) (by omega) ⟨fun h k hk => ?_, fun h => ?_⟩
            · by_cases ek : k = i
              · rw [ek]; exact e
              · exact hci.mp (by omega) k (by omega)
            · have := hci.mpr (fun k hk => h k (by omega))
              omega
          · rw [if_neg e]
            refine ihm (i + 1) c (by omega) (by omega) ⟨fun h => by omega, fun h => absurd (h i (by omega)) e⟩
      exact inner 6 0 0 (by omega) (by omega) ⟨fun _ k hk => by omega, fun _ => rfl⟩
  refine eVy_isNameTaken_E _ ?_
  obtain ⟨p, e, hp⟩ := key L 0 (by omega) (fun j hj => by omega)
  rw [hp] at e
  exact e
theorem tK_let {p : Nat} (h : tK T n p = 1) : 97 ≤ T p ∧ T p ≤ 122 := by
  unfold tK at h
  split at h
  · split at h
    · assumption
    · split at h <;> cases h
  · cases h
theorem c_n57 (hd : 4 < d) (hv : bz_oV v) {L : Nat} (hL : L < 5) {q : pL} (hq : qOK T n q) (hk : tD T n q = 1) (h6 : te T n q.1 - q.1 ≤ 6) (hYL : Y 319 46 = (L : Int)) {Q : bz_M → Prop} (hQ : ∀ M' : bz_M, cSt T n (if tkB Y (tLt T n q) = true then .inl (3, q.1) else .inr (nx T n q)) M' → (∀ r, r ≠ 123 → r ≠ v + 4 → M' r = M r) → (∀ k, k < 6 → M' (v + 4) (6 * L + k) = tLt T n q k) → (∀ k, ¬ (6 * L ≤ k ∧ k < 6 * L + 6) → M' (v + 4) k = M (v + 4) k) → Q M') : ∀ (f i : Nat) (M1 : bz_M), i + f = 6 → stC M1 → tb T n M1 → cX T n q M1 → M1 v 3 = (L : Int) → (∀ l, l < L → ∀ k, k < 6 → M1 (v + 4) (6 * l + k) = Y 1000 (6 * l + k)) → (∀ r, r ≠ v + 4 → M1 r = M r) → (∀ k, k < i → M1 (v + 4) (6 * L + k) = tLt T n q k) → (∀ k, ¬ (6 * L ≤ k ∧ k < 6 * L + 6) → M1 (v + 4) k = M (v + 4) k) → w_T (eVy_readName_57 Lg d v ((te T n q.1 - q.1 : Nat) : Int) (i : Int) M1) Q
  | 0, i, M1, hi, hs, ht, hX, h3, h4, hr, hl, ho => by
    have hvv := oV_c hv
    refine T_le (eVy_readName_57_E (by omega) hv) ?_
    rw [if_neg (by omega)]
    refine T_run (c_taken hv hL h3 hYL h4 (f := tLt T n q) (fun k hk => hl k (by omega))) ?_
    dsimp only
    by_cases c : tkB Y (tLt T n q) = true
    · rw [bz_b1.mpr c, if_neg (by decide), hX.2.1]
      refine T_seq (tx_fail hX (by decide)) ?_
      rintro M2 ⟨a, b⟩
      refine T_some (hQ M2 ?_ (fun r x y => (b r x).trans (hr r y)) (fun k hk => ?_) (fun k hk => ?_))
      · rw [if_pos c]; exact a
      · rw [b (v + 4) (by omega)]; exact hl k (by omega)
      · rw [b (v + 4) (by omega)]; exact ho k hk
    · rw [bz_b0.mpr c, if_pos rfl]
      refine T_seq (tx_step (by omega) hs ht hq hX (by rw [hk]; decide)) ?_
      rintro M2 ⟨a, b⟩
      refine T_some (hQ M2 ?_ (fun r x y => (b r x).trans (hr r y)) (fun k hk => ?_) (fun k hk => ?_))
      · rw [if_neg c]; exact ⟨a, nx_ok hq⟩
      · rw [b (v + 4) (by omega)]; exact hl k (by omega)
      · rw [b (v + 4) (by omega)]; exact ho k hk
  | f + 1, i, M1, hi, hs, ht, hX, h3, h4, hr, hl, ho => by
    have hvv := oV_c hv
    have hn := ht.1
    have hte := te_all (T := T) hq.1
    have rec1 : ∀ x : Int, x = tLt T n q i → w_T (eVy_readName_57 Lg d v ((te T n q.1 - q.1 : Nat) : Int) ((i : Int) + 1) (bz_up M1 (v + 4) (6 * L + i) x)) Q := by
      intro x hx
      refine c_n57 hd hv hL hq hk h6 hYL hQ f (i + 1) _ (by omega) (fun r k a b => ?_) (tb_co ht (bz_up_fn (by omega))) (cX_up hX (by omega)) ?_ (fun l hll k hkk => ?_) (fun r x => ?_) (fun k hkk => ?_) (fun k hkk => ?_)
      · rw [bz_up_fn (by omega)]; exact hs r k a b
      · rw [bz_up_nr (by omega)]; exact h3
      · rw [bz_up_nk (by omega)]; exact h4 l hll k hkk
      · rw [bz_up_fn x]; exact hr r x
      · by_cases e : k = i
        · rw [e, bz_up_eq]; exact hx
        · rw [bz_up_nk (by omega)]; exact hl k (by omega)
      · rw [bz_up_nk (by omega)]; exact ho k hkk
    refine T_le (eVy_readName_57_E (by omega) hv) ?_
    rw [if_pos (by omega), h3, hX.2.1, w32_id (z := (L : Int) * 6) (by omega) (by omega), w32_id (z := (L : Int) * 6 + (i : Int)) (by omega) (by omega), w32_id (z := (i : Int) + 1) (by omega) (by omega)]
    by_cases c : i < te T n q.1 - q.1
    · have hk1 := (tD_k (Or.inl rfl) hk).1
      have hrun := (te_run (T := T) hq.1 (by rw [hk1]; decide)).1 (q.1 + i) (by omega) (by omega)
      rw [hk1] at hrun
      have hb := ht.2 (q.1 + i) (by omega)
      have hlt := tK_let hrun
      have h8 : bz_w8 (T (q.1 + i)) = T (q.1 + i) := w8_id (by omega) (by omega)
      rw [if_pos (by omega), w32_id (z := (q.1 : Int) + (i : Int)) (by omega) (by omega), if_pos (by omega), if_pos (by omega), show ((q.1 : Int) + (i : Int)).toNat = q.1 + i by omega, hb.1, h8, w32_id (z := T (q.1 + i) - 97) (by omega) (by omega), w32_id (by omega) (by omega), show ((L : Int) * 6 + (i : Int)).toNat = 6 * L + i by omega]
      refine rec1 _ ?_
      unfold tLt
      rw [if_pos c]; omega
    · rw [if_neg (by omega), if_pos (by omega), show ((L : Int) * 6 + (i : Int)).toNat = 6 * L + i by omega]
      refine rec1 _ ?_
      unfold tLt
      rw [if_neg c]
theorem c_name (hd : 5 < d) (hv : bz_oV v) {L : Nat} (hL : L < 5) (hYL : Y 319 46 = (L : Int)) {q : pL} (hs : stC M) (ht : tb T n M) (h : cSt T n (.inr q) M) (h3 : M v 3 = (L : Int)) (h4 : ∀ l, l < L → ∀ k, k < 6 → M (v + 4) (6 * l + k) = Y 1000 (6 * l + k)) : w_T (eVy_readName Lg d v M) (fun M' => cSt T n (oNm T n Y (.inr q)) M' ∧ (∀ r, r ≠ 123 → r ≠ v + 4 → M' r = M r) ∧ (isOk (oNm T n Y (.inr q)) → ∀ k, k < 6 → M' (v + 4) (6 * L + k) = tLt T n q k) ∧ (∀ k, ¬ (6 * L ≤ k ∧ k < 6 * L + 6) → M' (v + 4) k = M (v + 4) k)) := by
  have hvv := oV_c hv
  have hn := ht.1
  have hX := h.1
  have hq : qOK T n q := h.2
  have hq1 := hq.1
  have hte := te_all (T := T) hq.1
  have hfa := tx_fact (Lg := Lg) (d := d - 1) (by omega) hs hX (w := 1)
  refine T_le (eVy_readName_E (by omega)) ?_
  unfold oNm
  have bad : ∀ (pl : Int) (e : Nat), pl = (e : Int) → w_T ((eTx_fail Lg (d - 1) 1 pl M).bind (fun M2 => some M2)) (fun M' => cSt T n (.inl (1, e)) M' ∧ (∀ r, r ≠ 123 → r ≠ v + 4 → M' r = M r) ∧ (isOk (.inl (1, e)) → ∀ k, k < 6 → M' (v + 4) (6 * L + k) = tLt T n q k) ∧ (∀ k, ¬ (6 * L ≤ k ∧ k < 6 * L + 6) → M' (v + 4) k = M (v + 4) k)) := by
    intro pl e he
    refine T_seq (tx_fail hX (by decide)) ?_
    rintro M2 ⟨a, b⟩
    rw [he] at a
    exact T_some ⟨a, fun r x _ => b r x, fun h => absurd h (fun h => h), fun k _ => by rw [b (v + 4) (by omega)]⟩
  rw [hX.2.2.2.1, hX.2.2.1, hX.2.1, w32_id (z := ((te T n q.1 : Nat) : Int) - (q.1 : Int)) (by omega) (by omega)]
  by_cases c1 : tD T n q = 1
  · rw [if_pos c1]
    by_cases c2 : isF T n 1 q
    · refine T_run (hfa.1 c2) ?_
      dsimp only
      rw [if_neg (show ¬ (1 : Int) = 0 by decide), if_neg (show ¬ (tD T n q = 1 ∧ ¬ isF T n 1 q) from fun h => h.2 c2), hX.2.1]
      exact bad _ _ rfl
    · refine T_run (hfa.2 c2) ?_
      dsimp only
      rw [if_pos (show (0 : Int) = 0 from rfl), if_pos (show tD T n q = 1 ∧ ¬ isF T n 1 q from ⟨c1, c2⟩)]
      by_cases c3 : 6 < te T n q.1 - q.1
      · rw [if_pos (show (6 : Int) < ((te T n q.1 : Nat) : Int) - (q.1 : Int) by omega), if_pos c3, hX.2.1, w32_id (by omega) (by omega)]
        exact bad _ _ (by omega)
      · rw [if_neg (show ¬ (6 : Int) < ((te T n q.1 : Nat) : Int) - (q.1 : Int) by omega), if_neg c3, show ((te T n q.1 : Nat) : Int) - (q.1 : Int) = ((te T n q.1 - q.1 : Nat) : Int) by omega]
        refine c_n57 (M := M) (by omega) hv hL hq c1 (by omega) hYL (fun M' x1 x2 x3 x4 => ⟨x1, x2, fun _ => x3, x4⟩) 6 0 M (by omega) hs ht hX h3 h4 (fun _ _ => rfl) (fun k hk => by omega) (fun _ _ => rfl)
  · dsimp only
    rw [if_neg c1, if_neg (show ¬ (tD T n q = 1 ∧ ¬ isF T n 1 q) from fun h => c1 h.1)]
    exact bad _ _ rfl
end YG

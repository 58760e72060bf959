/-! THE CLASS'S RIVER: a season -/
section CPS
variable {Lg d r s v : Nat} {V M M' : bz_M} {S : Nat → Int}
theorem cR_co (hr : bz_oR r s) (hv : bz_oV v) (h : cR V S r s v M) (k : ∀ q, ¬ cScr q → q ≠ s + 6 → q ≠ s + 7 → M' q = M q) : cR V S r s v M' := by
  have h1 := oR_c hr
  have h2 := oV_c hv
  refine ⟨by rw [k r (by omega) (by omega) (by omega)]; exact h.1, cV_co h.2.1 (k _ (by omega) (by omega) (by omega)) (k _ (by omega) (by omega) (by omega)) (k _ (by omega) (by omega) (by omega)) (k _ (by omega) (by omega) (by omega)) (k _ (by omega) (by omega) (by omega)) (k _ (by omega) (by omega) (by omega)) (k _ (by omega) (by omega) (by omega)) (k _ (by omega) (by omega) (by omega)) (k _ (by omega) (by omega) (by omega)) (k _ (by omega) (by omega) (by omega)), cS_co h.2.2 (k _ (by omega) (by omega) (by omega)) (k _ (by omega) (by omega) (by omega)) (k _ (by omega) (by omega) (by omega)) (k _ (by omega) (by omega) (by omega)) (k _ (by omega) (by omega) (by omega)) (k _ (by omega) (by omega) (by omega))⟩
theorem ri_may (hd : 0 < d) (hr : bz_oR r s) (hv : bz_oV v) (hV : vOK V) (hS : sOK V S) (hM : cR V S r s v M) {c w : Int} (h0 : 0 ≤ c) (h1 : c < vC V) (h2 : -10 ≤ w) (h3 : w ≤ 20) : eRi_mayGo Lg d r c w M = some (bz_b (sMay V S c w), M) := by
  have hC := hV.2.1
  have hR := hV.2.2.1
  have hH := hV.2.2.2.1
  have b2 := sBe_bd hS h0 h1
  have b3 := sBh_bd hS h0 h1
  refine eRi_mayGo_E hd hr hv _ ?_
  rw [if_pos hM.1, hM.2.1.1.2.1, hM.2.1.1.2.2.1]
  have kB : ∀ y, (y = 0 ∨ y = 1) → eRi_mayGo_52 Lg d r c w y M = some (if y = 1 ∧ (c = vC V - 1 ∨ (-vH V ≤ sBh V S c - w ∧ sBh V S c - w ≤ vH V)) then 1 else 0, M) := by
    intro y hy
    refine eRi_mayGo_52_E hd hr hv _ ?_
    rw [if_pos hM.1, hM.2.1.1.1, hM.2.1.1.2.2.1, w32_id (z := vC V - 1) (by omega) (by omega)]
    by_cases hl : c = vC V - 1
    · rw [if_pos hl]
      rcases hy with rfl | rfl
      · simp
      · simp [hl]
    · have e : sBh V S c = sRow S (c + 1) := by unfold sBh; rw [if_neg hl]
      rw [e] at b3 ⊢
      rw [if_neg hl, w32_id (z := c + 1) (by omega) (by omega), if_pos (by omega), hM.2.2.2.1 _ (by omega) (by omega), w32_id (by omega) (by omega), bz_abs_p (by omega) (by omega)]
      unfold pAbs
      rcases hy with rfl | rfl
      · simp
      · simp only [hl, false_or, true_and]
        repeat' split
        all_goals first | rfl | (exfalso; omega)
  unfold sMay bz_b
  by_cases h4 : w < 0
  · rw [if_pos h4, if_neg (by omega)]
  · rw [if_neg h4]
    by_cases h5 : w < vR V
    · rw [if_pos h5]
      by_cases h6 : c = 0
      · rw [if_pos h6, kB 1 (Or.inr rfl)]
        congr 2
        by_cases h7 : (c = vC V - 1 ∨ (-vH V ≤ sBh V S c - w ∧ sBh V S c - w ≤ vH V))
        · rw [if_pos ⟨rfl, h7⟩, if_pos ⟨by omega, Or.inl h6, h7⟩]
        · rw [if_neg (fun h => h7 h.2), if_neg (fun h => h7 h.2.2)]
      · have e : sBe S c = sRow S (c - 1) := by unfold sBe; rw [if_neg h6]
        rw [if_neg h6, w32_id (z := c - 1) (by omega) (by omega), if_pos (by omega), hM.2.2.2.1 _ (by omega) (by omega), ← e, w32_id (by omega) (by omega), bz_abs_p (by omega) (by omega)]
        by_cases h8 : vH V < pAbs (sBe S c - w)
        · rw [if_pos h8, kB 0 (Or.inl rfl), if_neg (by simp)]
          rw [if_neg]
          intro h
          rcases h.2.1 with h | h
          · exact h6 h
          · unfold pAbs at h8; split at h8 <;> omega
        · rw [if_neg h8, kB 1 (Or.inr rfl)]
          have h9 : -vH V ≤ sBe S c - w ∧ sBe S c - w ≤ vH V := by unfold pAbs at h8; split at h8 <;> omega
          congr 2
          by_cases h7 : (c = vC V - 1 ∨ (-vH V ≤ sBh V S c - w ∧ sBh V S c - w ≤ vH V))
          · rw [if_pos ⟨rfl, h7⟩, if_pos ⟨by omega, Or.inr h9, h7⟩]
          · rw [if_neg (fun h => h7 h.2), if_neg (fun h => h7 h.2.2)]
    · rw [if_neg h5, if_neg (by omega)]
/-- one of the two rows, and on -/
theorem ri_try (hd : 2 < d) (hr : bz_oR r s) (hv : bz_oV v) (hV : vOK V) (hS : sOK V S) (h9 : S 0 ≤ 999) (hM : cR V S r s v M) {c w to : Int} {q : Int × Int} {Q : bz_M → Prop} (h0 : 0 ≤ c) (h1 : c < vC V) (hw : w = sRow S c - 1 ∨ w = sRow S c + 1) (hto : to = if q.1 = -1 then sRow S c else q.1) (hQ : ∀ M', M' (s + 6) = aTry V S c w (M (s + 6)) → (∀ q, ¬ cScr q → q ≠ s + 6 → M' q = M q) → w_T (eRi_eatBank_20 Lg d r c (sRow S c) (if (sTry V S c w q).1 = -1 then sRow S c else (sTry V S c w q).1) (sTry V S c w q).2 (w + 2) M') Q) : w_T (eRi_eatBank_20 Lg d r c (sRow S c) to q.2 w M) Q := by
  have hC := hV.2.1
  have hR := hV.2.2.1
  have hrs := oR_c hr
  have hvv := oV_c hv
  have b1 := hS.2.2.1 c h0 h1
  refine T_le (eRi_eatBank_20_E (by omega) hr) ?_
  rw [w32_id (z := sRow S c + 1) (by omega) (by omega), if_neg (by omega), w32_id (z := w + 2) (by omega) (by omega)]
  refine T_run (ri_may (by omega) hr hv hV hS hM h0 h1 (by omega) (by omega)) ?_
  simp only [bz_b0]
  unfold sTry aTry at hQ
  by_cases hm : sMay V S c w
  · simp only [if_pos hm] at hQ
    rw [if_neg (fun h => h hm)]
    have hm1 := hm.1
    have wc : bz_w32 (bz_w32 (c * 8) + w) = 8 * c + w := by rw [w32_id (z := c * 8) (by omega) (by omega), w32_id (by omega) (by omega)]; omega
    rw [wc, if_pos (by omega)]
    have hM1 : cR V S r s v (bz_up M (s + 6) (Int.toNat (8 * c + w)) 1) := cR_co hr hv hM (fun q _ h _ => bz_up_fn h)
    refine T_seq (ri_eats (by omega) hr hv hV hS h9 hM1 h0 h1 hm1.1 (by omega)) ?_
    rintro ⟨p1, p2⟩ ⟨e1, e2⟩
    dsimp only at e1 e2 ⊢
    have f6 : p2 (s + 6) = upS (M (s + 6)) (Int.toNat (8 * c + w)) 1 := by
      rw [e2 (s + 6) (by omega)]
      funext k
      rw [bz_up_rk]
      unfold upS
      by_cases hk : k = Int.toNat (8 * c + w)
      · rw [if_pos ⟨rfl, hk⟩, if_pos hk]
      · rw [if_neg (fun h => hk h.2), if_neg hk]
    have fr : ∀ q, ¬ cScr q → q ≠ s + 6 → p2 q = M q := fun q h1 h2 => by rw [e2 q h1, bz_up_fn h2]
    have hQ2 := hQ p2 f6 fr
    rw [e1]
    by_cases hq : q.2 < sEats V S c w
    · rw [if_pos hq]
      simp only [if_pos hq] at hQ2
      rw [if_neg (by omega)] at hQ2
      exact hQ2
    · rw [if_neg hq]
      simp only [if_neg hq] at hQ2
      rw [hto]
      exact hQ2
  · simp only [if_neg hm] at hQ
    rw [if_pos hm, hto]
    exact hQ M rfl (fun _ _ _ => rfl)
theorem sTry_1 {c w : Int} {q : Int × Int} (hq : q.1 = -1 ∨ (0 ≤ q.1 ∧ q.1 < vR V)) : (sTry V S c w q).1 = -1 ∨ (0 ≤ (sTry V S c w q).1 ∧ (sTry V S c w q).1 < vR V) := by
  unfold sTry
  split
  · rename_i h
    split
    · have := h.1; dsimp only; omega
    · exact hq
  · exact hq
theorem sBest_1 {c : Int} : (sBest V S c).1 = -1 ∨ (0 ≤ (sBest V S c).1 ∧ (sBest V S c).1 < vR V) := by
  unfold sBest
  exact sTry_1 (sTry_1 (Or.inl rfl))
/-- what stands in the row of a column behind its move -/
theorem sMove_row {c c' : Int} (h0 : 0 ≤ c) (h0' : 0 ≤ c') : sRow (sMove V S c) c' = if c' = c then (if (sBest V S c).1 = -1 then sRow S c else (sBest V S c).1) else sRow S c' := by
  unfold sMove
  by_cases h : (sBest V S c).1 = -1
  · rw [if_pos h, if_pos h]
    split
    · rename_i e; rw [e]
    · rfl
  · rw [if_neg h, if_neg h]
    unfold sRow upS
    by_cases e : c' = c
    · rw [if_pos e, if_pos (by rw [e])]
    · rw [if_neg e, if_neg (by omega)]
theorem sMove_ne {c : Int} (h0 : 0 ≤ c) (h1 : c < 10) {k : Nat} (hk : k < 2 ∨ 12 ≤ k) : sMove V S c k = S k := by
  unfold sMove
  split
  · rfl
  · exact upS_ne (by omega)
theorem sOK_co {S S' : Nat → Int} (hS : sOK V S) (hL : vL V ≤ 5) (hr : ∀ c, 0 ≤ c → c < vC V → 0 ≤ sRow S' c ∧ sRow S' c < vR V) (h : ∀ k, k < 2 ∨ 12 ≤ k → S' k = S k) : sOK V S' := by
  refine ⟨by rw [h 0 (by omega)]; exact hS.1, by rw [h 1 (by omega)]; exact hS.2.1, hr, fun k h1 h2 => ?_, fun l h1 h2 => ?_⟩
  · have := hS.2.2.2.1 k h1 h2
    unfold sWi sEv at this ⊢
    rw [h _ (by omega), h _ (by omega)]
    exact this
  · have := hS.2.2.2.2 l h1 h2
    unfold sOf sPu at this ⊢
    rw [h _ (by omega), h _ (by omega)]
    exact this
theorem sMove_ok (hV : vOK V) (hS : sOK V S) {c : Int} (h0 : 0 ≤ c) (h1 : c < vC V) : sOK V (sMove V S c) := by
  have hC := hV.2.1
  have hL := hV.2.2.2.2.1
  refine sOK_co hS (by omega) (fun c' h2 h3 => ?_) (fun k hk => sMove_ne h0 (by omega) hk)
  rw [sMove_row h0 h2]
  have b1 := hS.2.2.1 c h0 h1
  have b2 := hS.2.2.1 c' h2 h3
  have b3 := sBest_1 (V := V) (S := S) (c := c)
  split
  · split <;> omega
  · omega
theorem sMoves_ok (hV : vOK V) : ∀ (k : Nat) (c : Int) (S : Nat → Int), sOK V S → 0 ≤ c → c + k = vC V → sOK V (sMoves V k c S) ∧ ∀ j, j < 2 ∨ 12 ≤ j → sMoves V k c S j = S j
  | 0, _, S, hS, _, _ => ⟨hS, fun _ _ => rfl⟩
  | k + 1, c, S, hS, h0, h1 => by
    have hC := hV.2.1
    have h := sMoves_ok hV k (c + 1) (sMove V S c) (sMove_ok hV hS h0 (by omega)) (by omega) (by omega)
    exact ⟨h.1, fun j hj => (h.2 j hj).trans (sMove_ne h0 (by omega) hj)⟩
theorem cS_row {S' : Nat → Int} {c x : Int} (h : cS s S M) (h0 : 0 ≤ c) (h1 : c < 10) (hx : ∀ c', 0 ≤ c' → c' < 10 → sRow S' c' = if c' = c then x else sRow S c') (hn : ∀ k, k < 2 ∨ 12 ≤ k → S' k = S k) (e : M' (s + 1) = (fun k => if k = Int.toNat c then x else M (s + 1) k)) (k : ∀ q, q = s ∨ q = s + 2 ∨ q = s + 3 ∨ q = s + 4 ∨ q = s + 5 → M' q = M q) : cS s S' M' := by
  refine ⟨by rw [k s (by omega), hn 0 (by omega), hn 1 (by omega)]; exact h.1, fun c' h2 h3 => ?_, fun j h2 h3 => ?_, fun l h2 h3 => ?_⟩
  · rw [e, hx c' h2 h3]
    by_cases hc : c' = c
    · rw [if_pos hc]; simp only [hc, if_true]
    · rw [if_neg hc]
      have : ¬ c'.toNat = c.toNat := by omega
      simp only [if_neg this]
      exact h.2.1 c' h2 h3
  · rw [k (s + 2) (by omega), k (s + 3) (by omega)]
    unfold sWi sEv
    rw [hn _ (by omega), hn _ (by omega)]
    exact h.2.2.1 j h2 h3
  · rw [k (s + 4) (by omega), k (s + 5) (by omega)]
    unfold sOf sPu
    rw [hn _ (by omega), hn _ (by omega)]
    exact h.2.2.2 l h2 h3
theorem ri_eat (hd : 2 < d) (hr : bz_oR r s) (hv : bz_oV v) (hV : vOK V) (hS : sOK V S) (h9 : S 0 ≤ 999) (hM : cR V S r s v M) {c : Int} (h0 : 0 ≤ c) (h1 : c < vC V) : w_T (eRi_eatBank Lg d r c M) (fun M' => cR V (sMove V S c) r s v M' ∧ M' (s + 6) = aMove V S c (M (s + 6)) ∧ ∀ q, ¬ cScr q → q ≠ s + 1 → q ≠ s + 6 → M' q = M q) := by
  have hC := hV.2.1
  have hR := hV.2.2.1
  have hrs := oR_c hr
  have hvv := oV_c hv
  have b1 := hS.2.2.1 c h0 h1
  refine T_le (eRi_eatBank_E hr) ?_
  rw [if_pos (by omega), hM.2.2.2.1 c h0 (by omega), w32_id (z := sRow S c - 1) (by omega) (by omega)]
  refine ri_try (q := (-1, 0)) hd hr hv hV hS h9 hM h0 h1 (Or.inl rfl) (by simp) ?_
  intro M1 ea ef
  have hM1 : cR V S r s v M1 := cR_co hr hv hM (fun q h1 h2 _ => ef q h1 h2)
  rw [show sRow S c - 1 + 2 = sRow S c + 1 by omega]
  refine ri_try hd hr hv hV hS h9 hM1 h0 h1 (Or.inr rfl) rfl ?_
  intro M2 ea2 ef2
  have hM2 : cR V S r s v M2 := cR_co hr hv hM1 (fun q h1 h2 _ => ef2 q h1 h2)
  refine T_le (eRi_eatBank_20_E (by omega) hr) ?_
  rw [w32_id (z := sRow S c + 1) (by omega) (by omega), if_pos (by omega), if_pos (by omega)]
  refine T_some ⟨?_, ?_, fun q h1 h2 h3 => ?_⟩
  · have k : ∀ q, q ≠ s + 1 → bz_up M2 (s + 1) c.toNat (if (sBest V S c).1 = -1 then sRow S c else (sBest V S c).1) q = M2 q := fun q h => bz_up_fn h
    refine ⟨?_, ?_, ?_⟩
    · exact (congrFun (k r (by omega)) 0).trans hM2.1
    · exact cV_co hM2.2.1 (k _ (by omega)) (k _ (by omega)) (k _ (by omega)) (k _ (by omega)) (k _ (by omega)) (k _ (by omega)) (k _ (by omega)) (k _ (by omega)) (k _ (by omega)) (k _ (by omega))
    · refine cS_row hM2.2.2 h0 (by omega) (fun c' h2 h3 => sMove_row h0 h2) (fun k hk => sMove_ne h0 (by omega) hk) ?_ (fun q hq => k q (by omega))
      funext j
      unfold bz_up
      rw [if_pos rfl]
      rfl
  · rw [bz_up_fn (by omega), ea2, ea]
    rfl
  · rw [bz_up_fn h2, ef2 q h1 h3, ef q h1 h3]
theorem ri_moves (hd : 3 < d) (hr : bz_oR r s) (hv : bz_oV v) (hV : vOK V) {Q : Int × bz_M → Prop} : ∀ (k : Nat) (c : Int) (S : Nat → Int) (M : bz_M), sOK V S → S 0 ≤ 999 → cR V S r s v M → 0 ≤ c → c + k = vC V → (∀ M', cR V (sMoves V k c S) r s v M' → M' (s + 6) = aMoves V k c S (M (s + 6)) → (∀ q, ¬ cScr q → q ≠ s + 1 → q ≠ s + 6 → M' q = M q) → w_T (eRi_pass_26 Lg d r 0 M') Q) → w_T (eRi_pass_2 Lg d r c M) Q
  | 0, c, S, M, hS, h9, hM, h0, h1, hQ => by
    refine T_le (eRi_pass_2_E (by omega) hr hv) ?_
    rw [if_pos hM.1, hM.2.1.1.1, if_neg (by omega)]
    exact hQ M hM rfl (fun _ _ _ _ => rfl)
  | k + 1, c, S, M, hS, h9, hM, h0, h1, hQ => by
    have hC := hV.2.1
    refine T_le (eRi_pass_2_E (by omega) hr hv) ?_
    rw [if_pos hM.1, hM.2.1.1.1, if_pos (by omega), w32_id (z := c + 1) (by omega) (by omega)]
    refine T_seq (ri_eat (by omega) hr hv hV hS h9 hM h0 (by omega)) ?_
    rintro M1 ⟨g1, g2, g3⟩
    refine ri_moves hd hr hv hV k (c + 1) (sMove V S c) M1 (sMove_ok hV hS h0 (by omega)) (by rw [sMove_ne h0 (by omega) (by omega)]; exact h9) g1 (by omega) (by omega) ?_
    intro M' e1 e2 e3
    exact hQ M' e1 (by rw [e2, g2]; rfl) (fun q h1 h2 h3 => (e3 q h1 h2 h3).trans (g3 q h1 h2 h3))
theorem sEver_ne {c : Int} {k : Nat} (hb : 0 ≤ c ∧ c < 10) (hr : 0 ≤ sRow S c ∧ sRow S c < 8) (hk : k < 92 ∨ 172 ≤ k) : sEver S c k = S k := by
  unfold sEver
  split
  · exact upS_ne (by omega)
  · rfl
theorem sEver_at {c j : Int} (hb : 0 ≤ c ∧ c < 10) (hr : 0 ≤ sRow S c ∧ sRow S c < 8) (he : sEv S (8 * c + sRow S c) ≤ 99) (hj : 0 ≤ j) : sEv (sEver S c) j = if j = 8 * c + sRow S c then min (sEv S j + 1) 99 else sEv S j := by
  unfold sEver
  have e : S (Int.toNat (92 + 8 * c + sRow S c)) = sEv S (8 * c + sRow S c) := by unfold sEv; congr 2; omega
  rw [e]
  by_cases h : j = 8 * c + sRow S c
  · rw [if_pos h]
    have e2 : Int.toNat (92 + j) = Int.toNat (92 + 8 * c + sRow S c) := by omega
    split
    · rw [h] at e2 ⊢
      show upS S _ _ (Int.toNat (92 + (8 * c + sRow S c))) = _
      rw [e2, upS_eq]; omega
    · rw [h]; omega
  · rw [if_neg h]
    split
    · show upS S _ _ (Int.toNat (92 + j)) = _
      rw [upS_ne (by omega)]; rfl
    · rfl
theorem sEver_ok (hV : vOK V) (hS : sOK V S) {c : Int} (h0 : 0 ≤ c) (h1 : c < vC V) : sOK V (sEver S c) := by
  have hC := hV.2.1
  have hR := hV.2.2.1
  have hL := hV.2.2.2.2.1
  have b1 := hS.2.2.1 c h0 h1
  have hn : ∀ k, k < 92 ∨ 172 ≤ k → sEver S c k = S k := fun k hk => sEver_ne (by omega) (by omega) hk
  refine ⟨by rw [hn 0 (by omega)]; exact hS.1, by rw [hn 1 (by omega)]; exact hS.2.1, fun c' h2 h3 => ?_, fun k h2 h3 => ?_, fun l h2 h3 => ?_⟩
  · have := hS.2.2.1 c' h2 h3
    unfold sRow at this ⊢
    rw [hn _ (by omega)]; exact this
  · have hk := hS.2.2.2.1 k h2 h3
    refine ⟨?_, ?_⟩
    · have := hk.1
      unfold sWi at this ⊢
      rw [hn _ (by omega)]; exact this
    · rw [sEver_at (by omega) (by omega) (hS.2.2.2.1 _ (by omega) (by omega)).2.2 h2]
      split <;> omega
  · have := hS.2.2.2.2 l h2 h3
    unfold sOf sPu at this ⊢
    rw [hn _ (by omega), hn _ (by omega)]; exact this
theorem sEvers_ok (hV : vOK V) : ∀ (k : Nat) (c : Int) (S : Nat → Int), sOK V S → 0 ≤ c → c + k = vC V → sOK V (sEvers k c S) ∧ ∀ j, j < 92 ∨ 172 ≤ j → sEvers k c S j = S j
  | 0, _, S, hS, _, _ => ⟨hS, fun _ _ => rfl⟩
  | k + 1, c, S, hS, h0, h1 => by
    have hC := hV.2.1
    have hR := hV.2.2.1
    have b1 := hS.2.2.1 c h0 (by omega)
    have h := sEvers_ok hV k (c + 1) (sEver S c) (sEver_ok hV hS h0 (by omega)) (by omega) (by omega)
    exact ⟨h.1, fun j hj => (h.2 j hj).trans (sEver_ne (by omega) (by omega) hj)⟩
theorem ri_evers (hd : 3 < d) (hr : bz_oR r s) (hv : bz_oV v) (hV : vOK V) {Q : Int × bz_M → Prop} : ∀ (k : Nat) (c : Int) (S : Nat → Int) (M : bz_M), sOK V S → cR V S r s v M → 0 ≤ c → c + k = vC V → (∀ M', cR V (sEvers k c S) r s v M' → (∀ q, q ≠ s + 3 → M' q = M q) → w_T (eRi_pass_92 Lg d r 0 0 (bz_up M' r 4 0)) Q) → w_T (eRi_pass_26 Lg d r c M) Q
  | 0, c, S, M, hS, hM, h0, h1, hQ => by
    refine T_le (eRi_pass_26_E (by omega) hr hv) ?_
    rw [if_pos hM.1, hM.2.1.1.1, if_neg (by omega)]
    exact hQ M hM (fun _ _ => rfl)
  | k + 1, c, S, M, hS, hM, h0, h1, hQ => by
    have hC := hV.2.1
    have hR := hV.2.2.1
    have hrs := oR_c hr
    have hvv := oV_c hv
    have b1 := hS.2.2.1 c h0 (by omega)
    have b2 := (hS.2.2.2.1 (8 * c + sRow S c) (by omega) (by omega)).2
    have wc : bz_w32 (bz_w32 (c * 8) + sRow S c) = 8 * c + sRow S c := by rw [w32_id (z := c * 8) (by omega) (by omega), w32_id (by omega) (by omega)]; omega
    refine T_le (eRi_pass_26_E (by omega) hr hv) ?_
    rw [if_pos hM.1, hM.2.1.1.1, if_pos (by omega), if_pos (by omega), hM.2.2.2.1 c h0 (by omega), wc, if_pos (by omega), (hM.2.2.2.2.1 _ (by omega) (by omega)).2, w32_id (z := c + 1) (by omega) (by omega), w32_id (by omega) (by omega)]
    have kf : ∀ q, q ≠ s + 3 → bz_up M (s + 3) (8 * c + sRow S c).toNat (min (sEv S (8 * c + sRow S c) + 1) 99) q = M q := fun q h => bz_up_fn h
    refine ri_evers hd hr hv hV k (c + 1) (sEver S c) _ (sEver_ok hV hS h0 (by omega)) ?_ (by omega) (by omega) (fun M' e1 e2 => hQ M' e1 (fun q hq => (e2 q hq).trans (kf q hq)))
    refine ⟨(congrFun (kf r (by omega)) 0).trans hM.1, cV_co hM.2.1 (kf _ (by omega)) (kf _ (by omega)) (kf _ (by omega)) (kf _ (by omega)) (kf _ (by omega)) (kf _ (by omega)) (kf _ (by omega)) (kf _ (by omega)) (kf _ (by omega)) (kf _ (by omega)), ?_⟩
    have hn : ∀ k, k < 92 ∨ 172 ≤ k → sEver S c k = S k := fun k hk => sEver_ne (by omega) (by omega) hk
    refine ⟨?_, fun c' h2 h3 => ?_, fun j h2 h3 => ⟨?_, ?_⟩, fun l h2 h3 => ?_⟩
    · rw [kf s (by omega), hn 0 (by omega), hn 1 (by omega)]; exact hM.2.2.1
    · rw [kf (s + 1) (by omega), hM.2.2.2.1 c' h2 h3]; unfold sRow; rw [hn _ (by omega)]
    · rw [kf (s + 2) (by omega), (hM.2.2.2.2.1 j h2 h3).1]; unfold sWi; rw [hn _ (by omega)]
    · rw [sEver_at (by omega) (by omega) b2.2 h2, bz_up_rk]
      by_cases hj : j = 8 * c + sRow S c
      · rw [if_pos hj, if_pos ⟨rfl, by rw [hj]⟩, hj]
      · rw [if_neg hj, if_neg (fun h => hj (by omega)), (hM.2.2.2.2.1 j h2 h3).2]
    · rw [kf (s + 4) (by omega), kf (s + 5) (by omega), (hM.2.2.2.2.2 l h2 h3).1, (hM.2.2.2.2.2 l h2 h3).2]
      unfold sOf sPu
      rw [hn _ (by omega), hn _ (by omega)]
      exact ⟨rfl, rfl⟩
theorem sOffer_le {l : Int} (h : 0 ≤ sPu S l) : sOffer V S l ≤ sPu S l := by
  unfold sOffer bz_of
  split <;> omega
/-- a purse that is paid from -/
theorem sPur_at {l l' x : Int} (h0 : 0 ≤ l) (h1 : 0 ≤ l') : sPu (upS S (Int.toNat (173 + 2 * l)) x) l' = (if l' = l then x else sPu S l') ∧ sOf (upS S (Int.toNat (173 + 2 * l)) x) l' = sOf S l' := by
  refine ⟨?_, upS_ne (by omega)⟩
  unfold sPu
  by_cases h : l' = l
  · rw [if_pos h, h, upS_eq]
  · rw [if_neg h, upS_ne (by omega)]
theorem sPur_ok (hV : vOK V) (hS : sOK V S) {l x : Int} (h0 : 0 ≤ l) (h1 : l < vL V) (hx : 0 ≤ x ∧ x ≤ 999) : sOK V (upS S (Int.toNat (173 + 2 * l)) x) := by
  have hC := hV.2.1
  refine ⟨by rw [upS_ne (by omega)]; exact hS.1, by rw [upS_ne (by omega)]; exact hS.2.1, fun c h2 h3 => ?_, fun k h2 h3 => ?_, fun l' h2 h3 => ?_⟩
  · have := hS.2.2.1 c h2 h3
    unfold sRow at this ⊢
    rw [upS_ne (by omega)]; exact this
  · have := hS.2.2.2.1 k h2 h3
    unfold sWi sEv at this ⊢
    rw [upS_ne (by omega), upS_ne (by omega)]; exact this
  · have := hS.2.2.2.2 l' h2 h3
    have e := sPur_at (S := S) (x := x) h0 h2
    rw [e.1, e.2]
    split <;> omega
theorem sColL_ok (hV : vOK V) {c : Int} : ∀ (k : Nat) (l : Int) (q : (Nat → Int) × Int), sOK V q.1 → 0 ≤ l → l + k = vL V → sOK V (sColL V c k l q).1 ∧ (∀ j, j < 172 → (sColL V c k l q).1 j = q.1 j) ∧ q.2 ≤ (sColL V c k l q).2 ∧ (sColL V c k l q).2 ≤ q.2 + 99 * k
  | 0, _, q, hS, _, _ => ⟨hS, fun _ _ => rfl, by unfold sColL; omega, by unfold sColL; omega⟩
  | k + 1, l, q, hS, h0, h1 => by
    unfold sColL
    have ho := sOffer_bd (S := q.1) hV h0 (by omega)
    have hp := hS.2.2.2.2 l h0 (by omega)
    have hle := sOffer_le (V := V) (S := q.1) (l := l) (by omega)
    split
    · have h := sColL_ok hV (c := c) k (l + 1) (upS q.1 (Int.toNat (173 + 2 * l)) (sPu q.1 l - sOffer V q.1 l), q.2 + sOffer V q.1 l) (sPur_ok hV hS h0 (by omega) (by omega)) (by omega) (by omega)
      refine ⟨h.1, fun j hj => (h.2.1 j hj).trans (upS_ne (by omega)), ?_, ?_⟩
      · have := h.2.2.1; dsimp only at this; omega
      · have := h.2.2.2; dsimp only at this; push_cast; omega
    · have h := sColL_ok hV (c := c) k (l + 1) q hS (by omega) (by omega)
      refine ⟨h.1, h.2.1, h.2.2.1, ?_⟩
      have := h.2.2.2; push_cast; omega
theorem ri_colL (hd : 0 < d) (hr : bz_oR r s) (hv : bz_oV v) (hV : vOK V) {c : Int} : ∀ (k : Nat) (l n : Int) (S : Nat → Int) (M : bz_M), sOK V S → cR V S r s v M → 0 ≤ l → l + k = vL V → 0 ≤ n → n + 99 * k ≤ 100000 → w_T (eRi_collect_4 Lg d r c n l M) (fun p => p.1 = (sColL V c k l (S, n)).2 ∧ cR V (sColL V c k l (S, n)).1 r s v p.2 ∧ p.2 (s + 7) = bColL V c k l (M (s + 7)) ∧ ∀ q, q ≠ s + 5 → q ≠ s + 7 → p.2 q = M q)
  | 0, l, n, S, M, hS, hM, h0, h1, h2, h3 => by
    refine T_le (eRi_collect_4_E hd hr hv) ?_
    rw [if_pos hM.1, hM.2.1.1.2.2.2.1, if_neg (by omega)]
    exact T_some ⟨rfl, hM, rfl, fun _ _ _ => rfl⟩
  | k + 1, l, n, S, M, hS, hM, h0, h1, h2, h3 => by
    have hL := hV.2.2.2.2.1
    have hrs := oR_c hr
    have hvv := oV_c hv
    have ho := sOffer_bd (S := S) hV h0 (by omega)
    have hp := hS.2.2.2.2 l h0 (by omega)
    have hle := sOffer_le (V := V) (S := S) (l := l) (by omega)
    have e := hM.2.1.2.2.1 l h0 (by omega)
    have e2 := hM.2.2.2.2.2 l h0 (by omega)
    refine T_le (eRi_collect_4_E hd hr hv) ?_
    simp (disch := omega) only [bz_up_nr]
    rw [if_pos hM.1, hM.2.1.1.2.2.2.1, if_pos (by omega), if_pos (by omega), e.1, e.2.1, e.2.2.1, e2.1, e2.2, w32_id (z := l + 1) (by omega) (by omega), if_pos hM.1]
    simp only [bz_b0]
    unfold sColL bColL
    by_cases hc : vFr V l ≤ c ∧ c ≤ vTo V l
    · rw [if_neg (fun h => h hc), if_pos hc, if_pos hc]
      have eo : bz_of (sOf S l) (sPu S l) (vPa V l) = sOffer V S l := rfl
      rw [eo, w32_id (z := n + sOffer V S l) (by omega) (by omega), w32_id (z := sPu S l - sOffer V S l) (by omega) (by omega)]
      have kf : ∀ q, q ≠ s + 5 → q ≠ s + 7 → bz_up (bz_up M (s + 7) l.toNat (bz_w32 (M (s + 7) l.toNat + 1))) (s + 5) l.toNat (sPu S l - sOffer V S l) q = M q := fun q h h' => by rw [bz_up_fn h, bz_up_fn h']
      have e7 : bz_up (bz_up M (s + 7) l.toNat (bz_w32 (M (s + 7) l.toNat + 1))) (s + 5) l.toNat (sPu S l - sOffer V S l) (s + 7) = upS (M (s + 7)) l.toNat (bz_w32 (M (s + 7) l.toNat + 1)) := by
        rw [bz_up_fn (by omega)]; unfold bz_up upS; rw [if_pos rfl]
      refine T_mono (ri_colL hd hr hv hV k (l + 1) (n + sOffer V S l) (upS S (Int.toNat (173 + 2 * l)) (sPu S l - sOffer V S l)) _ (sPur_ok hV hS h0 (by omega) (by omega)) ?_ (by omega) (by omega) (by omega) (by omega)) ?_
      · refine ⟨(congrFun (kf r (by omega) (by omega)) 0).trans hM.1, cV_co hM.2.1 (kf _ (by omega) (by omega)) (kf _ (by omega) (by omega)) (kf _ (by omega) (by omega)) (kf _ (by omega) (by omega)) (kf _ (by omega) (by omega)) (kf _ (by omega) (by omega)) (kf _ (by omega) (by omega)) (kf _ (by omega) (by omega)) (kf _ (by omega) (by omega)) (kf _ (by omega) (by omega)), ?_⟩
        refine ⟨?_, fun c' h2 h3 => ?_, fun j h2 h3 => ?_, fun l' h2 h3 => ?_⟩
        · rw [kf s (by omega) (by omega), upS_ne (by omega), upS_ne (by omega)]; exact hM.2.2.1
        · rw [kf (s + 1) (by omega) (by omega), hM.2.2.2.1 c' h2 h3]; unfold sRow; rw [upS_ne (by omega)]
        · rw [kf (s + 2) (by omega) (by omega), kf (s + 3) (by omega) (by omega), (hM.2.2.2.2.1 j h2 h3).1, (hM.2.2.2.2.1 j h2 h3).2]; unfold sWi sEv; rw [upS_ne (by omega), upS_ne (by omega)]; exact ⟨rfl, rfl⟩
        · have ea := sPur_at (S := S) (x := sPu S l - sOffer V S l) h0 h2
          rw [ea.1, ea.2, kf (s + 4) (by omega) (by omega), (hM.2.2.2.2.2 l' h2 h3).1, bz_up_rk]
          refine ⟨rfl, ?_⟩
          by_cases hl : l' = l
          · rw [if_pos hl, if_pos ⟨rfl, by rw [hl]⟩]
          · rw [if_neg hl, if_neg (fun h => hl (by omega)), bz_up_nr (by omega), (hM.2.2.2.2.2 l' h2 h3).2]
      · rintro ⟨p1, p2⟩ ⟨g1, g2, g3, g5⟩
        exact ⟨g1, g2, by rw [g3, e7], fun q h h' => by rw [g5 q h h', kf q h h']⟩
    · rw [if_pos hc, if_neg hc, if_neg hc]
      exact ri_colL hd hr hv hV k (l + 1) n S M hS hM (by omega) (by omega) (by omega) (by omega)
end CPS

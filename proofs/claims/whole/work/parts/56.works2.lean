/-! QUERIES: works, whole -/
def wRes (q : Int × Int × Int) (x : Int) (a b : Int) : Prop := x = q.1 ∧ (q.1 = 1 → a = q.2.1) ∧ (q.1 = 2 → a = q.2.1 ∧ b = q.2.2)
section WL
variable {Lg d v : Nat} {V M M0 M' : bz_M} {S : Nat → Int}
theorem w2R_ge {c r : Int} {n : Nat} {k : Int} : ∀ (f : Nat) (i : Int), 0 ≤ i → w2R V S c r n k f i = -1 ∨ 0 ≤ w2R V S c r n k f i
  | 0, _, _ => Or.inl rfl
  | f + 1, i, h => by
    unfold w2R
    split
    · exact Or.inr h
    · exact w2R_ge f (i + 1) (by omega)
theorem fc_78 (hd : 6 < d) (hv : bz_oV v) (hV : vOK V) (hS : sOK V S) (h9 : S 0 ≤ 999) (hW : sW S) {c r n : Int} (h0 : 0 ≤ c) (h1 : c < vC V) (h2 : 0 ≤ r) (h3 : r < vR V) (hn0 : 0 ≤ n) (hn : S 0 + n ≤ 999) : ∀ (f : Nat) (k : Int) (M : bz_M), cR V S 131 148 v M → (∀ j, 0 ≤ j → j < 80 → AW V S c r n.toNat M j) → 0 ≤ k → k + f = 80 → w_T (eFc_fewestWillows_78 Lg d n (8 * c + r) k M) (fun p => wRes (qP2 V S c r n.toNat f k) p.1 (p.2 279 2) (p.2 279 3) ∧ qC M p.2)
  | 0, k, M, hM, hA, g0, g1 => by
    refine T_le eFc_fewestWillows_78_E ?_
    rw [if_neg (by omega)]
    exact T_some ⟨⟨rfl, fun h => by simp [qP2] at h, fun h => by simp [qP2] at h⟩, qC_refl _⟩
  | f + 1, k, M, hM, hA, g0, g1 => by
    refine T_le eFc_fewestWillows_78_E ?_
    rw [if_pos (by omega)]
    refine fc_two hd hv hV hS h9 hW h0 h1 h2 h3 hn0 hn (by omega) (80 - k).toNat k M hM hA g0 (by omega) (fun M' q1 q2 => ?_)
    unfold qP2
    by_cases hw : w2R V S c r n.toNat k (80 - k).toNat k = -1
    · rw [if_pos hw]
      simp only [if_pos hw]
      refine T_mono (fc_78 hd hv hV hS h9 hW h0 h1 h2 h3 hn0 hn f (k + 1) M' (cR_qC hv hM q1) (fun j a b => ?_) (by omega) (by omega)) (fun p hp => ⟨hp.1, qC_trans q1 hp.2⟩)
      have := hA j a b
      unfold AW at this ⊢
      rw [q2]; exact this
    · rw [if_neg hw]
      simp only [if_neg hw]
      refine ⟨⟨rfl, fun h => by simp at h, fun _ => ⟨?_, ?_⟩⟩, qC_trans q1 (qC_trans (qC_282 (by decide)) (qC_282 (by decide)))⟩
      · rw [bz_up_nk (by decide), bz_up_eq]
      · rw [bz_up_eq]
theorem fc_25 (hd : 6 < d) (hv : bz_oV v) (hV : vOK V) (hS : sOK V S) (h9 : S 0 ≤ 999) (hW : sW S) {c r n : Int} (h0 : 0 ≤ c) (h1 : c < vC V) (h2 : 0 ≤ r) (h3 : r < vR V) (hn0 : 0 ≤ n) (hn : S 0 + n ≤ 999) : ∀ (f : Nat) (k : Int) (M : bz_M), cR V S 131 148 v M → (∀ j, 0 ≤ j → j < k → AW V S c r n.toNat M j) → 0 ≤ k → k + f = 80 → w_T (eFc_fewestWillows_25 Lg d n (8 * c + r) k M) (fun p => wRes (qP1 V S c r n.toNat f k) p.1 (p.2 279 2) (p.2 279 3) ∧ qC M p.2)
  | 0, k, M, hM, hA, g0, g1 => by
    refine T_le (eFc_fewestWillows_25_E (by omega)) ?_
    rw [if_neg (by omega)]
    exact fc_78 hd hv hV hS h9 hW h0 h1 h2 h3 hn0 hn 80 0 M hM (fun j a b => hA j a (by omega)) (by omega) (by omega)
  | f + 1, k, M, hM, hA, g0, g1 => by
    have hk : 0 ≤ k ∧ k < 80 := by omega
    refine T_le (eFc_fewestWillows_25_E (by omega)) ?_
    rw [if_pos (by omega), w32_id (by omega) (by omega)]
    refine T_run (fc_takes hv hV hS hM hk.1 hk.2 (by omega)) ?_
    simp only [bz_b0]
    unfold qP1
    by_cases hc : canP V S k 1
    · rw [if_neg (fun h => h hc)]
      refine T_seq (fc_land (by omega) hv hV hS h9 hW hM h0 h1 h2 h3 hn0 hn (Or.inr (Or.inl ⟨hk, rfl, rfl⟩))) ?_
      rintro ⟨p1, p2⟩ ⟨c1, ⟨A, cA, c2⟩, c3⟩
      dsimp only at c1 c2 c3 ⊢
      have q1 := qC_fA c3
      have e82 : p2 282 = M 282 := c3 282 (by decide)
      rw [c1]
      by_cases hl : lnd V (sPl S k) c r n.toNat
      · rw [if_neg (by rw [bz_b0]; exact fun h => h hl)]
        simp only [if_pos (show canP V S k 1 ∧ lnd V (sPl S k) c r n.toNat from ⟨hc, hl⟩)]
        exact T_some ⟨⟨rfl, fun _ => bz_up_eq p2 279 2 k, fun h => by simp at h⟩, qC_trans q1 (qC_282 (by decide))⟩
      · rw [if_pos (by rw [bz_b0]; exact hl)]
        simp only [if_neg (show ¬ (canP V S k 1 ∧ lnd V (sPl S k) c r n.toNat) from fun h => hl h.2)]
        have ha01 : ∀ j, j < 80 → p2 292 j = 0 ∨ p2 292 j = 1 := by
          rw [c2]; exact aRun_01 _ _ _ (fun i hi => Or.inl (cA i hi))
        refine T_bind (T_le eFc_rememberAsked_E (fc_rem hk.1 hk.2 80 0 p2 (by omega) (by omega) ha01 (fun j hj => by omega) (fun M1 b1 b2 b3 => ?_)))
        have q2 : qC p2 M1 := qC_of (fun q hq => b3 q (by omega))
        refine T_mono (fc_25 hd hv hV hS h9 hW h0 h1 h2 h3 hn0 hn f (k + 1) M1 (cR_qC hv hM (qC_trans q1 q2)) (fun j a b => ?_) (by omega) (by omega)) (fun p hp => ⟨hp.1, qC_trans q1 (qC_trans q2 hp.2)⟩)
        intro hcj
        by_cases hjk : j = k
        · rw [hjk]
          refine ⟨hl, fun i hi => ⟨by rw [b1 i hi]; exact ha01 i hi, fun hz => ⟨A, ?_⟩⟩⟩
          rw [b1 i hi, c2] at hz
          exact hz
        · have := hA j a (by omega) hcj
          refine ⟨this.1, fun i hi => ?_⟩
          rw [b2 _ (by omega), e82]
          exact this.2 i hi
    · rw [if_pos hc]
      simp only [if_neg (show ¬ (canP V S k 1 ∧ lnd V (sPl S k) c r n.toNat) from fun h => hc h.1)]
      refine fc_25 hd hv hV hS h9 hW h0 h1 h2 h3 hn0 hn f (k + 1) M hM (fun j a b => ?_) (by omega) (by omega)
      by_cases hjk : j = k
      · rw [hjk]; exact fun h => absurd h hc
      · exact hA j a (by omega)
theorem fc_few (hd : 7 < d) (hv : bz_oV v) (hV : vOK V) (hS : sOK V S) (h9 : S 0 ≤ 999) (hW : sW S) (hM : cR V S 131 148 v M) {c r n : Int} (h0 : 0 ≤ c) (h1 : c < vC V) (h2 : 0 ≤ r) (h3 : r < vR V) (hn0 : 0 ≤ n) (hn : S 0 + n ≤ 999) : w_T (eFc_fewestWillows Lg d c r n M) (fun p => wRes (qFew V S c r n.toNat) p.1 (p.2 279 2) (p.2 279 3) ∧ qC M p.2) := by
  have hC := hV.2.1
  have hR := hV.2.2.1
  have wc : bz_w32 (bz_w32 (c * 8) + r) = 8 * c + r := by rw [w32_id (z := c * 8) (by omega) (by omega), w32_id (by omega) (by omega)]; omega
  refine T_le (eFc_fewestWillows_E (by omega)) ?_
  rw [wc]
  refine T_seq (fc_land (by omega) hv hV hS h9 hW hM h0 h1 h2 h3 hn0 hn (Or.inl ⟨rfl, rfl, rfl⟩)) ?_
  rintro ⟨p1, p2⟩ ⟨c1, _, c3⟩
  dsimp only at c1 c3 ⊢
  have q1 := qC_fA c3
  rw [c1]
  unfold qFew
  by_cases hl : lnd V S c r n.toNat
  · rw [if_neg (by rw [bz_b0]; exact fun h => h hl)]
    simp only [if_pos hl]
    exact T_some ⟨⟨rfl, fun h => by simp at h, fun h => by simp at h⟩, q1⟩
  · rw [if_pos (by rw [bz_b0]; exact hl)]
    simp only [if_neg hl]
    exact T_mono (fc_25 (by omega) hv hV hS h9 hW h0 h1 h2 h3 hn0 hn 80 0 p2 (cR_qC hv hM q1) (fun j a b => by omega) (by omega) (by omega)) (fun p hp => ⟨hp.1, qC_trans q1 hp.2⟩)
theorem qP2_rg {c r : Int} {n : Nat} : ∀ (f : Nat) (k : Int), (qP2 V S c r n f k).1 = -1 ∨ (qP2 V S c r n f k).1 = 2
  | 0, _ => Or.inl rfl
  | f + 1, k => by
    unfold qP2
    split
    · exact qP2_rg f (k + 1)
    · exact Or.inr rfl
theorem qP1_rg {c r : Int} {n : Nat} : ∀ (f : Nat) (k : Int), (qP1 V S c r n f k).1 = -1 ∨ (qP1 V S c r n f k).1 = 1 ∨ (qP1 V S c r n f k).1 = 2
  | 0, _ => by unfold qP1; have := qP2_rg (V := V) (S := S) (c := c) (r := r) (n := n) 80 0; omega
  | f + 1, k => by
    unfold qP1
    split
    · exact Or.inr (Or.inl rfl)
    · exact qP1_rg f (k + 1)
theorem qFew_rg {c r : Int} {n : Nat} : (qFew V S c r n).1 = -1 ∨ (qFew V S c r n).1 = 0 ∨ (qFew V S c r n).1 = 1 ∨ (qFew V S c r n).1 = 2 := by
  unfold qFew
  split
  · exact Or.inr (Or.inl rfl)
  · have := qP1_rg (V := V) (S := S) (c := c) (r := r) (n := n) 80 0; omega
theorem c_works (hd : 8 < d) (hv : bz_oV v) (hV : vOK V) (hS : sOK V S) (h9 : S 0 ≤ 999) (hW : sW S) (hM : cR V S 131 148 v M) {c r n k : Int} : w_T (eBr_works Lg d c r n k M) (fun p => p.1 = qWorks V S c r n k ∧ qC M p.2) := by
  have s0 := hS.1
  have e0 : M 148 0 = S 0 := by rw [hM.2.2.1.1]; omega
  refine T_le (eBr_works_E (by omega) hv) ?_
  simp only [bz_b0]
  rw [if_pos hM.1, hM.2.1.1.1, hM.2.1.1.2.1, e0, w32_id (z := 999 - S 0) (by omega) (by omega)]
  unfold qWorks
  by_cases h1 : (0 ≤ c ∧ c < vC V) ∧ 0 ≤ r ∧ r < vR V
  · rw [if_neg (fun h => h h1)]
    by_cases h2 : 1 ≤ n ∧ n ≤ 20 ∧ n ≤ 999 - S 0
    · rw [if_neg (fun h => h h2)]
      refine T_seq (fc_few (by omega) hv hV hS h9 hW hM h1.1.1 h1.1.2 h1.2.1 h1.2.2 (by omega) (by omega)) ?_
      rintro ⟨p1, p2⟩ ⟨⟨c1, c2, c3⟩, c4⟩
      dsimp only at c1 c2 c3 c4 ⊢
      have hg := qFew_rg (V := V) (S := S) (c := c) (r := r) (n := n.toNat)
      rw [c1]
      have cnd : -1 ≤ k → k ≤ 1 → ((0 ≤ c ∧ c < vC V) ∧ 0 ≤ r ∧ r < vR V) ∧ (1 ≤ n ∧ n ≤ 20 ∧ S 0 + n ≤ 999) ∧ (-1 ≤ k ∧ k ≤ 1) := fun x y => ⟨h1, by omega, x, y⟩
      by_cases g1 : k = -1
      · rw [if_pos g1, if_pos (cnd (by omega) (by omega)), if_pos g1]; exact T_some ⟨rfl, c4⟩
      · rw [if_neg g1]
        by_cases g2 : k < 0
        · rw [if_pos g2, if_neg (fun h => by omega)]; exact T_some ⟨rfl, c4⟩
        · rw [if_neg g2]
          by_cases g3 : k < (qFew V S c r n.toNat).1
          · rw [if_pos g3, if_pos (cnd (by omega) (by omega)), if_neg g1, if_pos g3]
            by_cases g4 : k = 0
            · rw [if_pos g4, if_pos g4]
              refine T_some ⟨?_, c4⟩
              rcases hg with g | g | g | g
              · omega
              · omega
              · exact c2 g
              · exact (c3 g).1
            · rw [if_neg g4, if_neg g4]
              exact T_some ⟨(c3 (by omega)).2, c4⟩
          · rw [if_neg g3]
            by_cases g5 : k ≤ 1
            · rw [if_pos (cnd (by omega) g5), if_neg g1, if_neg g3]; exact T_some ⟨rfl, c4⟩
            · rw [if_neg (fun h => g5 h.2.2.2)]; exact T_some ⟨rfl, c4⟩
    · rw [if_pos h2, if_neg (by omega)]; exact T_some ⟨rfl, qC_refl _⟩
  · rw [if_pos h1, if_neg (fun h => h1 h.1)]; exact T_some ⟨rfl, qC_refl _⟩
/-! the reference -/
theorem th_73 (h : th M0 M) {k : Nat} {x : Int} (hk : k = 73 ∨ k = 74) : th M0 (bz_up M 319 k x) := by
  refine ⟨by rw [bz_up_nk (by omega)]; exact h.1, fun j hj => by rw [bz_up_nr (by decide)]; exact h.2.1 j hj, fun j hj => by rw [bz_up_nr (by decide)]; exact h.2.2.1 j hj, fun q hq h4 => by rw [bz_up_fn (by omega)]; exact h.2.2.2.1 q hq h4, fun j hj h7 => by rw [bz_up_nk (by omega)]; exact h.2.2.2.2 j hj h7⟩
theorem mR_73 (h : mR V S M) {k : Nat} {x : Int} (hk : k = 73 ∨ k = 74) : mR V S (bz_up M 319 k x) := mR_qM h ⟨fun q hq => bz_up_fn (by omega), fun j hj => bz_up_nk (by omega) _⟩
theorem mo_run (hd : 8 < d) (hV : vOK V) (hS : sOK V S) (hM : mR V S M) (ht : th M0 M) {c r n : Int} (h0 : 0 ≤ c) (h1 : c < vC V) (hn0 : 0 ≤ n) (hn : S 0 + n ≤ 999) : w_T (eMo_doesRun Lg d c r n M) (fun p => p.1 = bz_b (lnd V S c r n.toNat) ∧ th M0 p.2 ∧ p.2 364 = M0 364 ∧ p.2 319 73 = M 319 73 ∧ p.2 319 74 = M 319 74) := by
  have hC := hV.2.1
  have s0 := hS.1
  refine T_le (eMo_doesRun_E (by omega)) ?_
  refine T_seq (mo_goT (by omega) hV hS hM ht hn0 (by omega) (by omega)) ?_
  rintro M1 ⟨b1, _, b3, _, _, _, _, b8, b9⟩
  rw [w32_id (z := 2 + c) (by omega) (by omega), if_pos (by omega), mr_row b1 h0 (by omega)]
  unfold bz_b lnd
  by_cases hh : sRow (sRun V n.toNat S) c = r
  · rw [if_pos hh, if_pos hh]
    refine T_seq (mo_anew b3) ?_
    rintro M2 ⟨c1, c2, c3⟩
    exact T_some ⟨rfl, c1, c2, (congrFun (c3 319 (by decide)) 73).trans b8, (congrFun (c3 319 (by decide)) 74).trans b9⟩
  · rw [if_neg hh, if_neg hh]
    refine T_seq (mo_anew b3) ?_
    rintro M2 ⟨c1, c2, c3⟩
    exact T_some ⟨rfl, c1, c2, (congrFun (c3 319 (by decide)) 73).trans b8, (congrFun (c3 319 (by decide)) 74).trans b9⟩
theorem mo_can (hd : 0 < d) (hS : sOK V S) (hM : mR V S M) {k : Int} (h0 : 0 ≤ k) (h1 : k < 80) : eMo_canSet Lg d k M = some (if sWi S k = 9 then (0, M) else (1, bz_up M 364 (Int.toNat (12 + k)) (sWi S k + 1))) := by
  have b := hS.2.2.2.1 k h0 h1
  have e : M 364 (Int.toNat (12 + k)) = sWi S k := hM.2 _ (by omega)
  refine eMo_canSet_E hd _ ?_
  rw [w32_id (z := 12 + k) (by omega) (by omega), if_pos (by omega), e, w32_id (by omega) (by omega)]
  split <;> rfl
theorem mR_pl (hM : mR V S M) {k : Int} (h0 : 0 ≤ k) (h1 : k < 80) : mR V (sPl S k) (bz_up M 364 (Int.toNat (12 + k)) (sWi S k + 1)) := by
  refine ⟨mV_fm hM.1 (mFm_up (by omega)), fun j hj => ?_⟩
  rw [bz_up_rk]
  unfold sPl upS
  by_cases hk2 : j = Int.toNat (12 + k)
  · rw [if_pos ⟨rfl, hk2⟩, if_pos hk2]
  · rw [if_neg (fun h => hk2 h.2), if_neg hk2]
    exact hM.2 j hj
theorem mo_isC (hV : vOK V) (hM : mR V S M) {k : Int} (h0 : 0 ≤ k) (h1 : k < 80) : ((¬ M 319 60 = 0 ∧ 0 ≤ bz_w32 (Int.tdiv k 8) ∧ bz_w32 (Int.tdiv k 8) ≤ bz_w32 (M 355 3 - 1)) ∧ 0 ≤ Int.tmod k 8 ∧ Int.tmod k 8 ≤ bz_w32 (M 355 4 - 1)) ↔ isC V k := by
  have hC := hV.2.1
  have hR := hV.2.2.1
  have e6 : M 319 60 = 1 := hM.1.1.2.2.2.2.trans hV.1
  rw [e6, hM.1.1.1, hM.1.1.2.1, Int.tdiv_eq_ediv_of_nonneg h0, Int.tmod_eq_emod_of_nonneg h0, w32_id (z := k / 8) (by omega) (by omega), w32_id (z := vC V - 1) (by omega) (by omega), w32_id (z := vR V - 1) (by omega) (by omega)]
  unfold isC
  omega
theorem mo_oneL (hd : 9 < d) (hV : vOK V) (hS : sOK V S) (hW : sW S) (hM0 : mR V S M0) {c r n : Int} (h0 : 0 ≤ c) (h1 : c < vC V) (hn0 : 0 ≤ n) (hn : S 0 + n ≤ 999) : ∀ (f : Nat) (k : Int) (M : bz_M), th M0 M → M 364 = M0 364 → 0 ≤ k → k + f = 80 → w_T (eMo_isWorkOne_3 Lg d c r n k M) (fun p => th M0 p.2 ∧ p.2 364 = M0 364 ∧ ((p.1 = 0 ∧ qP1 V S c r n.toNat f k = qP2 V S c r n.toNat 80 0) ∨ (p.1 = 1 ∧ (qP1 V S c r n.toNat f k).1 = 1 ∧ p.2 319 73 = (qP1 V S c r n.toNat f k).2.1)))
  | 0, k, M, ht, h4, g0, g1 => by
    refine T_le (eMo_isWorkOne_3_E (by omega)) ?_
    rw [if_neg (by omega)]
    exact T_some ⟨ht, h4, Or.inl ⟨rfl, rfl⟩⟩
  | f + 1, k, M, ht, h4, g0, g1 => by
    have hk : 0 ≤ k ∧ k < 80 := by omega
    have hM := mR_th ht hM0 h4
    have b := hS.2.2.2.1 k hk.1 hk.2
    have b2 := hW k hk.1 hk.2
    refine T_le (eMo_isWorkOne_3_E (by omega)) ?_
    rw [if_pos (by omega), w32_id (z := k + 1) (by omega) (by omega)]
    simp only [bz_b0]
    have skip : ¬ (canP V S k 1 ∧ lnd V (sPl S k) c r n.toNat) → qP1 V S c r n.toNat (f + 1) k = qP1 V S c r n.toNat f (k + 1) := fun h => if_neg h
    by_cases hc : isC V k
    · rw [if_neg (fun h => h ((mo_isC hV hM hk.1 hk.2).mpr hc))]
      refine T_run (mo_can (by omega) hS hM hk.1 hk.2) ?_
      by_cases h9 : sWi S k = 9
      · rw [if_pos h9]
        dsimp only
        rw [if_pos rfl, skip (fun h => by have := h.1.2; omega)]
        exact mo_oneL hd hV hS hW hM0 h0 h1 hn0 hn f (k + 1) M ht h4 (by omega) (by omega)
      · rw [if_neg h9]
        dsimp only
        rw [if_neg (by decide)]
        have hs1 : sOK V (sPl S k) := sWiUp_ok hV hS hk.1 hk.2 (by omega)
        have e0 : sPl S k 0 = S 0 := upS_ne (by omega)
        refine T_seq (mo_run (by omega) hV hs1 (mR_73 (mR_pl hM hk.1 hk.2) (Or.inl rfl)) (th_73 (th_up ht (by omega)) (Or.inl rfl)) h0 h1 hn0 (by rw [e0]; exact hn)) ?_
        rintro ⟨p1, p2⟩ ⟨c1, c2, c3, c4, c5⟩
        dsimp only at c1 c2 c3 c4 c5 ⊢
        rw [c1]
        by_cases hl : lnd V (sPl S k) c r n.toNat
        · rw [if_neg (by rw [bz_b0]; exact fun h => h hl)]
          have e : qP1 V S c r n.toNat (f + 1) k = (1, k, -1) := if_pos ⟨⟨hc, by omega⟩, hl⟩
          rw [e]
          exact T_some ⟨c2, c3, Or.inr ⟨rfl, rfl, c4.trans (bz_up_eq _ _ _ _)⟩⟩
        · rw [if_pos (by rw [bz_b0]; exact hl), skip (fun h => hl h.2)]
          exact mo_oneL hd hV hS hW hM0 h0 h1 hn0 hn f (k + 1) p2 c2 c3 (by omega) (by omega)
    · rw [if_pos (fun h => hc ((mo_isC hV hM hk.1 hk.2).mp h)), skip (fun h => hc h.1.1)]
      exact mo_oneL hd hV hS hW hM0 h0 h1 hn0 hn f (k + 1) M ht h4 (by omega) (by omega)
theorem mo_twoL (hd : 9 < d) (hV : vOK V) (hS : sOK V S) (hW : sW S) (hM0 : mR V S M0) {c r n : Int} (h0 : 0 ≤ c) (h1 : c < vC V) (hn0 : 0 ≤ n) (hn : S 0 + n ≤ 999) {k : Int} (hk : 0 ≤ k ∧ k < 80) {Q : Int × bz_M → Prop} : ∀ (f : Nat) (i : Int) (M : bz_M), th M0 M → M 364 = M0 364 → 0 ≤ i → i + f = 80 → (∀ M', th M0 M' → M' 364 = M0 364 → (if w2R V S c r n.toNat k f i = -1 then w_T (eMo_isWorkTwo_3 Lg d c r n (k + 1) M') Q else M' 319 73 = k → M' 319 74 = w2R V S c r n.toNat k f i → Q (1, M'))) → w_T (eMo_isWorkTwo_14 Lg d c r n k i M) Q
  | 0, i, M, ht, h4, g0, g1, hQ => by
    refine T_le (eMo_isWorkTwo_14_E (by omega)) ?_
    rw [if_neg (by omega), w32_id (by omega) (by omega)]
    have := hQ M ht h4
    rw [show w2R V S c r n.toNat k 0 i = -1 from rfl, if_pos rfl] at this
    exact this
  | f + 1, i, M, ht, h4, g0, g1, hQ => by
    have hi : 0 ≤ i ∧ i < 80 := by omega
    have hM := mR_th ht hM0 h4
    have b := hS.2.2.2.1 k hk.1 hk.2
    have b2 := hW k hk.1 hk.2
    have b3 := hS.2.2.2.1 i hi.1 hi.2
    have b4 := hW i hi.1 hi.2
    have skip : ¬ (prP V S k i ∧ lnd V (sPl (sPl S k) i) c r n.toNat) → ∀ M1, th M0 M1 → M1 364 = M0 364 → w_T (eMo_isWorkTwo_14 Lg d c r n k (i + 1) M1) Q := by
      intro hno M1 t1 t2
      refine mo_twoL hd hV hS hW hM0 h0 h1 hn0 hn hk f (i + 1) M1 t1 t2 (by omega) (by omega) (fun M' r1 r2 => ?_)
      have := hQ M' r1 r2
      rw [show w2R V S c r n.toNat k (f + 1) i = w2R V S c r n.toNat k f (i + 1) from if_neg hno] at this
      exact this
    have back : ¬ (prP V S k i ∧ lnd V (sPl (sPl S k) i) c r n.toNat) → ∀ M1, th M0 M1 → w_T ((eMo_triesAnew Lg (d - 1) M1).bind (fun M1 => (eMo_isWorkTwo_14 Lg d c r n k (bz_w32 (i + 1)) M1))) Q := by
      intro hno M1 t1
      refine T_seq (mo_anew t1) ?_
      rintro M2 ⟨c1, c2, _⟩
      rw [w32_id (by omega) (by omega)]
      exact skip hno M2 c1 c2
    refine T_le (eMo_isWorkTwo_14_E (by omega)) ?_
    rw [if_pos (by omega)]
    simp only [bz_b0]
    by_cases hc : isC V k
    · rw [if_neg (fun h => h ((mo_isC hV hM hk.1 hk.2).mpr hc))]
      by_cases hc2 : isC V i
      · rw [if_neg (fun h => h ((mo_isC hV hM hi.1 hi.2).mpr hc2))]
        refine T_run (mo_can (by omega) hS hM hk.1 hk.2) ?_
        by_cases h9 : sWi S k = 9
        · rw [if_pos h9]
          dsimp only
          rw [if_pos rfl]
          refine T_le (eMo_isWorkTwo_81_E (by omega)) ?_
          rw [if_pos rfl]
          exact back (fun h => by have := h.1.1.2; split at this <;> omega) _ (th_73 (th_73 ht (Or.inl rfl)) (Or.inr rfl))
        · rw [if_neg h9]
          dsimp only
          rw [if_neg (by decide)]
          have hs1 : sOK V (sPl S k) := sWiUp_ok hV hS hk.1 hk.2 (by omega)
          have hm1 := mR_pl hM hk.1 hk.2
          have ht1 := th_up (k := Int.toNat (12 + k)) (x := sWi S k + 1) ht (by omega)
          refine T_run (mo_can (by omega) hs1 hm1 hi.1 hi.2) ?_
          have ew : sWi (sPl S k) i = if i = k then sWi S k + 1 else sWi S i := sWi_up hk.1 hi.1
          by_cases h9i : sWi (sPl S k) i = 9
          · rw [if_pos h9i]
            dsimp only
            rw [if_pos rfl]
            refine T_le (eMo_isWorkTwo_81_E (by omega)) ?_
            rw [if_pos rfl]
            refine back (fun h => ?_) _ (th_73 (th_73 ht1 (Or.inl rfl)) (Or.inr rfl))
            rw [ew] at h9i
            have g := h.1.1.2
            have g2 := h.1.2.2
            by_cases e : i = k
            · rw [if_pos e] at h9i; rw [if_pos e.symm] at g; omega
            · rw [if_neg e] at h9i; omega
          · rw [if_neg h9i]
            dsimp only
            rw [if_neg (by decide)]
            have bw : sWi (sPl S k) i ≤ 8 ∧ 0 ≤ sWi (sPl S k) i := by rw [ew] at h9i ⊢; split at h9i <;> rename_i e <;> simp only [e] <;> simp <;> omega
            have hs2 : sOK V (sPl (sPl S k) i) := sWiUp_ok hV hs1 hi.1 hi.2 (by omega)
            have hm2 := mR_pl hm1 hi.1 hi.2
            have ht2 := th_up (k := Int.toNat (12 + i)) (x := sWi (sPl S k) i + 1) ht1 (by omega)
            have e0 : sPl (sPl S k) i 0 = S 0 := by unfold sPl; rw [upS_ne (by omega), upS_ne (by omega)]
            have hp : prP V S k i := by
              refine ⟨⟨hc, ?_⟩, hc2, ?_⟩
              · rw [ew] at bw
                by_cases e : k = i
                · rw [if_pos e]; rw [if_pos e.symm] at bw; omega
                · rw [if_neg e]; omega
              · rw [ew] at bw
                by_cases e : i = k
                · rw [if_pos e] at bw; rw [e]; omega
                · rw [if_neg e] at bw; omega
            refine T_le (eMo_isWorkTwo_81_E (by omega)) ?_
            rw [if_neg (by decide)]
            refine T_seq (mo_run (by omega) hV hs2 (mR_73 (mR_73 hm2 (Or.inl rfl)) (Or.inr rfl)) (th_73 (th_73 ht2 (Or.inl rfl)) (Or.inr rfl)) h0 h1 hn0 (by rw [e0]; exact hn)) ?_
            rintro ⟨p1, p2⟩ ⟨c1, c2, c3, c4, c5⟩
            dsimp only at c1 c2 c3 c4 c5 ⊢
            rw [c1]
            by_cases hl : lnd V (sPl (sPl S k) i) c r n.toNat
            · rw [if_neg (by rw [bz_b0]; exact fun h => h hl)]
              have := hQ p2 c2 c3
              rw [show w2R V S c r n.toNat k (f + 1) i = i from if_pos ⟨hp, hl⟩, if_neg (by omega)] at this
              exact T_some (this (by rw [c4, bz_up_nk (by decide), bz_up_eq]) (by rw [c5, bz_up_eq]))
            · rw [if_pos (by rw [bz_b0]; exact hl)]
              exact back (fun h => hl h.2) p2 c2
      · rw [if_pos (fun h => hc2 ((mo_isC hV hM hi.1 hi.2).mp h)), w32_id (by omega) (by omega)]
        exact skip (fun h => hc2 h.1.2.1) M ht h4
    · rw [if_pos (fun h => hc ((mo_isC hV hM hk.1 hk.2).mp h)), w32_id (by omega) (by omega)]
      exact skip (fun h => hc h.1.1.1) M ht h4
theorem mo_two (hd : 9 < d) (hV : vOK V) (hS : sOK V S) (hW : sW S) (hM0 : mR V S M0) {c r n : Int} (h0 : 0 ≤ c) (h1 : c < vC V) (hn0 : 0 ≤ n) (hn : S 0 + n ≤ 999) : ∀ (f : Nat) (k : Int) (M : bz_M), th M0 M → M 364 = M0 364 → 0 ≤ k → k + f = 80 → w_T (eMo_isWorkTwo_3 Lg d c r n k M) (fun p => th M0 p.2 ∧ ((p.1 = 0 ∧ (qP2 V S c r n.toNat f k).1 = -1) ∨ (p.1 = 1 ∧ (qP2 V S c r n.toNat f k).1 = 2 ∧ p.2 319 73 = (qP2 V S c r n.toNat f k).2.1 ∧ p.2 319 74 = (qP2 V S c r n.toNat f k).2.2)))
  | 0, k, M, ht, h4, g0, g1 => by
    refine T_le eMo_isWorkTwo_3_E ?_
    rw [if_neg (by omega)]
    exact T_some ⟨ht, Or.inl ⟨rfl, rfl⟩⟩
  | f + 1, k, M, ht, h4, g0, g1 => by
    refine T_le eMo_isWorkTwo_3_E ?_
    rw [if_pos (by omega)]
    refine mo_twoL hd hV hS hW hM0 h0 h1 hn0 hn (by omega) (80 - k).toNat k M ht h4 g0 (by omega) (fun M' r1 r2 => ?_)
    unfold qP2
    by_cases hw : w2R V S c r n.toNat k (80 - k).toNat k = -1
    · rw [if_pos hw]
      simp only [if_pos hw]
      exact mo_two hd hV hS hW hM0 h0 h1 hn0 hn f (k + 1) M' r1 r2 (by omega) (by omega)
    · rw [if_neg hw]
      simp only [if_neg hw]
      intro a b
      exact ⟨r1, Or.inr ⟨trivial, trivial, a, b⟩⟩
theorem m_works (hd : 10 < d) (hV : vOK V) (hS : sOK V S) (h9 : S 0 ≤ 999) (hW : sW S) (hM : mR V S M) (h7 : M 319 70 = 0) {c r n k : Int} : w_T (eMo_works Lg d c r n k M) (fun p => p.1 = qWorks V S c r n k ∧ qM M p.2) := by
  have hC := hV.2.1
  have hR := hV.2.2.1
  have s0 := hS.1
  have e0 : M 364 0 = S 0 := hM.2 0 (by omega)
  have e6 : M 319 60 = 1 := hM.1.1.2.2.2.2.trans hV.1
  refine T_le (eMo_works_E (by omega)) ?_
  simp only [bz_b0]
  rw [hM.1.1.1, hM.1.1.2.1, e0, e6, w32_id (z := vC V - 1) (by omega) (by omega), w32_id (z := vR V - 1) (by omega) (by omega)]
  unfold qWorks
  by_cases h1 : (0 ≤ c ∧ c < vC V) ∧ 0 ≤ r ∧ r < vR V
  · rw [if_neg (fun h => h (by omega))]
    by_cases h2 : 1 ≤ n ∧ n ≤ 20
    · rw [w32_id (z := S 0 + n) (by omega) (by omega)]
      by_cases h3 : S 0 + n ≤ 999
      · rw [if_neg (fun h => h (by omega))]
        by_cases h4 : -1 ≤ k ∧ k ≤ 1
        · rw [if_neg (fun h => h h4), if_pos (show ((0 ≤ c ∧ c < vC V) ∧ 0 ≤ r ∧ r < vR V) ∧ (1 ≤ n ∧ n ≤ 20 ∧ S 0 + n ≤ 999) ∧ (-1 ≤ k ∧ k ≤ 1) from ⟨h1, by omega, h4⟩)]
          -- the end: what is told
          have fin : ∀ (q : Int × Int × Int) (M1 : bz_M), q = qFew V S c r n.toNat → th M M1 → (q.1 = 1 → M1 319 73 = q.2.1) → (q.1 = 2 → M1 319 73 = q.2.1 ∧ M1 319 74 = q.2.2) → w_T (eMo_works_82 Lg d k q.1 M1) (fun p => p.1 = (if k = -1 then (qFew V S c r n.toNat).1 else if k < (qFew V S c r n.toNat).1 then (if k = 0 then (qFew V S c r n.toNat).2.1 else (qFew V S c r n.toNat).2.2) else -1) ∧ qM M p.2) := by
            rintro q M1 rfl t1 z1 z2
            have hg := qFew_rg (V := V) (S := S) (c := c) (r := r) (n := n.toNat)
            refine T_le (eMo_works_82_E (by omega)) ?_
            refine T_bind ?_
            have hb := mo_back (Lg := Lg) (d := d - 1) (by omega) t1 h7
            have hb3 : w_T (eMo_takesBack Lg (d - 1) M1) (fun M2 => M2 319 73 = M1 319 73 ∧ M2 319 74 = M1 319 74) := by
              refine T_le (eMo_takesBack_E (by omega)) ?_
              refine T_seq (mo_anew t1) ?_
              rintro M2 ⟨_, _, c3⟩
              exact T_some ⟨by rw [bz_up_nk (by decide), c3 319 (by decide)], by rw [bz_up_nk (by decide), c3 319 (by decide)]⟩
            obtain ⟨M2, em, q1⟩ := hb
            obtain ⟨M2', em', q2⟩ := hb3
            rw [em] at em'
            cases em'
            refine ⟨M2, em, ?_⟩
            dsimp only
            rw [q2.1, q2.2]
            by_cases g1 : k = -1
            · rw [if_pos g1, if_pos g1]; exact T_some ⟨rfl, q1⟩
            · rw [if_neg g1, if_neg g1]
              by_cases g2 : (qFew V S c r n.toNat).1 = -1
              · rw [if_pos g2, if_neg (by omega)]; exact T_some ⟨g2, q1⟩
              · rw [if_neg g2]
                by_cases g3 : k < (qFew V S c r n.toNat).1
                · rw [if_pos g3, if_pos g3]
                  by_cases g4 : k = 0
                  · rw [if_pos g4, if_pos g4]
                    refine T_some ⟨?_, q1⟩
                    rcases hg with g | g | g | g
                    · omega
                    · omega
                    · exact z1 g
                    · exact (z2 g).1
                  · rw [if_neg g4, if_neg g4]
                    exact T_some ⟨(z2 (by omega)).2, q1⟩
                · rw [if_neg g3, if_neg g3]; exact T_some ⟨rfl, q1⟩
          refine T_seq mo_aside ?_
          rintro M1 ⟨a1, a2, _⟩
          refine T_seq (mo_run (by omega) hV hS (mR_th a1 hM a2) a1 h1.1.1 h1.1.2 (by omega) (by omega)) ?_
          rintro ⟨p1, p2⟩ ⟨c1, c2, c3, _, _⟩
          dsimp only at c1 c2 c3 ⊢
          rw [c1]
          by_cases hl : lnd V S c r n.toNat
          · rw [if_neg (by rw [bz_b0]; exact fun h => h hl)]
            exact fin (0, -1, -1) p2 (by unfold qFew; rw [if_pos hl]) c2 (fun h => by simp at h) (fun h => by simp at h)
          · rw [if_pos (by rw [bz_b0]; exact hl)]
            have ef : qFew V S c r n.toNat = qP1 V S c r n.toNat 80 0 := by unfold qFew; rw [if_neg hl]
            refine T_seq (T_le eMo_isWorkOne_E (mo_oneL (by omega) hV hS hW hM h1.1.1 h1.1.2 (by omega) (by omega) 80 0 p2 c2 c3 (by omega) (by omega))) ?_
            rintro ⟨p3, p4⟩ ⟨d1, d2, d3⟩
            dsimp only at d1 d2 d3 ⊢
            rcases d3 with ⟨rfl, d4⟩ | ⟨rfl, d4, d5⟩
            · rw [if_pos rfl]
              refine T_seq (T_le eMo_isWorkTwo_E (mo_two (by omega) hV hS hW hM h1.1.1 h1.1.2 (by omega) (by omega) 80 0 p4 d1 d2 (by omega) (by omega))) ?_
              rintro ⟨p5, p6⟩ ⟨f1, f2⟩
              dsimp only at f1 f2 ⊢
              rw [d4] at ef
              rcases f2 with ⟨rfl, f3⟩ | ⟨rfl, f3, f4, f5⟩
              · rw [if_pos rfl]
                have := fin _ p6 ef.symm f1 (fun h => by omega) (fun h => by omega)
                rw [f3] at this
                exact this
              · rw [if_neg (by decide)]
                have := fin _ p6 ef.symm f1 (fun h => by omega) (fun _ => ⟨f4, f5⟩)
                rw [f3] at this
                exact this
            · rw [if_neg (by decide)]
              have := fin _ p4 ef.symm d1 (fun _ => d5) (fun h => by omega)
              rw [d4] at this
              exact this
        · rw [if_pos h4, if_neg (fun h => h4 h.2.2)]; exact T_some ⟨rfl, qM_refl _⟩
      · rw [if_pos (by omega), if_neg (fun h => by omega)]; exact T_some ⟨rfl, qM_refl _⟩
    · rw [if_pos (by omega), if_neg (fun h => by omega)]; exact T_some ⟨rfl, qM_refl _⟩
  · rw [if_pos (by omega), if_neg (fun h => h1 h.1)]; exact T_some ⟨rfl, qM_refl _⟩
end WL

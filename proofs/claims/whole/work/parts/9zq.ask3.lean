/-! SIM: ask: the lords are asked, both -/
def qV (V : bz_M) (S : Nat → Int) (cs : List Int) (l : Int) : Int := (pEv (fQ V S l) (gQ V S) cs []).headD 0
def qFo (V : bz_M) (S : Nat → Int) (k : Int) (cs : List Int) : Nat → Int → Int → Int
  | 0, _, a => a
  | j + 1, l, a => qFo V S k cs j (l + 1) (wLd k a l (qV V S cs l))
abbrev aGk (k : Nat) : Prop := k = 61 ∨ (64 ≤ k ∧ k ≤ 68) ∨ (127 ≤ k ∧ k ≤ 129)
def aqG (M M' : bz_M) : Prop := (∀ r, r ≠ 319 → r ≠ 366 → r ≠ 410 → M' r = M r) ∧ ∀ k, ¬ aGk k → M' 319 k = M 319 k
section TL
variable {Lg d n v : Nat} {V M M1 M2 : bz_M} {S : Nat → Int} {cs : List Int} {t : Bool}
theorem aqG_refl (M : bz_M) : aqG M M := ⟨fun _ _ _ _ => rfl, fun _ _ => rfl⟩
theorem aqG_trans {A B C : bz_M} (h : aqG A B) (g : aqG B C) : aqG A C := ⟨fun r a b c => (g.1 r a b c).trans (h.1 r a b c), fun k a => (g.2 k a).trans (h.2 k a)⟩
theorem aqG_z {A B : bz_M} (h : mFz A B) : aqG A B := ⟨fun r a _ c => h.1 r c a, fun k a => h.2 k (by omega) (by omega) (by omega) (by omega) (by omega) (by omega) (by omega)⟩
theorem qV_is (hV : vOK V) (hS : sOK V S) {l : Int} (h0 : 0 ≤ l) (h1 : l < vL V) (hok : pOK cs [] [t]) : pEv (fQ V S l) (gQ V S) cs [] = [qV V S cs l] ∧ (t = true → qV V S cs l = 0 ∨ qV V S cs l = 1) ∧ (-1000000 ≤ qV V S cs l ∧ qV V S cs l ≤ 1000000) := by
  obtain ⟨x, hx, hb⟩ := pEv_one (fQ_bd hV hS h0 h1) (gQ_bd hV hS) hok
  unfold qV
  rw [hx]
  cases t with
  | true =>
    rw [if_pos rfl] at hb
    have hb' : x = 0 ∨ x = 1 := hb
    exact ⟨rfl, fun _ => hb', by show -1000000 ≤ x ∧ x ≤ 1000000; omega⟩
  | false =>
    rw [if_neg (by decide)] at hb
    exact ⟨rfl, fun h => (by cases h), hb⟩
theorem wLd_bd {k a l x B : Int} (hB : 10 ≤ B) (ha : -B ≤ a ∧ a ≤ B) (hl : 0 ≤ l ∧ l ≤ 5) (hx : -1000000 ≤ x ∧ x ≤ 1000000) : -(B + 1000000) ≤ wLd k a l x ∧ wLd k a l x ≤ B + 1000000 := by
  unfold wLd
  repeat' split
  all_goals omega
theorem c_ans (hd : 5 < d) (o : bz_oV v) (hV : vOK V) (hS : sOK V S) (h9 : S 0 ≤ 999) {k : Int} (hk0 : 0 ≤ k) (hk5 : k ≤ 5) (hA : ∀ op ∈ cs, aQ op) (hok : pOK cs [] [t]) (hb : cs.length ≤ 1600) : ∀ (j : Nat) (l a : Int) (M : bz_M), cR V S 131 148 v M → M 125 2 = 38 + k → cC 126 cs M → 0 ≤ l → l + j = vL V → (-(10 + 1000000 * l) ≤ a ∧ a ≤ 10 + 1000000 * l) → w_T (eQu_answer_31 Lg d a l M) (fun p => p.1 = qFo V S k cs j l a ∧ cFq M p.2)
  | 0, l, a, M, hM, hk, hc, h0, h1, ha => by
    refine T_le (eQu_answer_31_E (by omega) o) ?_
    have e3 : M v 3 = vL V := hM.2.1.1.2.2.2.1
    rw [if_pos hM.1, e3, if_neg (by omega)]
    exact T_some ⟨rfl, cFq_refl M⟩
  | j + 1, l, a, M, hM, hk, hc, h0, h1, ha => by
    have hL := hV.2.2.2.2.1
    have e3 : M v 3 = vL V := hM.2.1.1.2.2.2.1
    obtain ⟨x1, x2, x3⟩ := qV_is hV hS h0 (show l < vL V by omega) hok
    refine T_le (eQu_answer_31_E (by omega) o) ?_
    rw [if_pos hM.1, e3, if_pos (by omega), w32_id (z := l + 1) (by omega) (by omega)]
    refine T_seq (qu_value (by omega) o hV hS h9 hM h0 (by omega) hA hok hb hc.2 hc.1 x1) ?_
    rintro ⟨p1, N⟩ ⟨a1, a2⟩
    dsimp only at a1 a2 ⊢
    have hk' : N 125 2 = 38 + k := by rw [a2 125 (by decide)]; exact hk
    rw [a1]
    refine T_run (qu_with hk0 hk5 hk' (by omega) (by omega)) ?_
    dsimp only
    have wb := wLd_bd (k := k) (a := a) (l := l) (x := qV V S cs l) (B := 10 + 1000000 * l) (by omega) ha (by omega) x3
    refine T_mono (c_ans hd o hV hS h9 hk0 hk5 hA hok hb j (l + 1) _ N (cR_cFq o hM a2) hk' ⟨by rw [a2 126 (by decide)]; exact hc.1, by rw [a2 (126 + 1) (by decide)]; exact hc.2⟩ (by omega) (by omega) (by omega)) ?_
    rintro ⟨p2, N2⟩ ⟨b1, b2⟩
    exact ⟨b1, cFq_trans a2 b2⟩
theorem mo_t55 {k x y a : Int} (ha : M 319 128 = a) (hx : -10000000000 ≤ x ∧ x ≤ 10000000000) (hb : -10000000000 ≤ a ∧ a ≤ 10000000000) : w_T (eMo_qTakes_55 Lg d k x y M) (fun M' => M' 319 129 = 0 ∧ M' 319 128 = (if k = 2 then (if y = 0 then a else a + 1) else if k = 3 then a + x else if 3 < k then (if M 319 129 = 0 then (if k = 4 then (if a < x then x else a) else (if x < a then x else a)) else x) else a) ∧ (∀ q, q ≠ 319 → M' q = M q) ∧ ∀ j, j ≠ 128 → j ≠ 129 → M' 319 j = M 319 j) := by
  have up : ∀ z : Int, ¬ 3 < k → w_T (eMo_qTakes_90 Lg d k x (bz_up M 319 128 z)) (fun M' => M' 319 129 = 0 ∧ M' 319 128 = z ∧ (∀ q, q ≠ 319 → M' q = M q) ∧ ∀ j, j ≠ 128 → j ≠ 129 → M' 319 j = M 319 j) := fun z hk => by
    refine T_mono mo_t90 ?_
    rintro M' ⟨b1, b2, b3, b4⟩
    rw [if_neg hk, bz_up_eq] at b2
    exact ⟨b1, b2, fun q hq => by rw [b3 q hq, bz_up_fn hq], fun j x y => by rw [b4 j x y, bz_up_nk x]⟩
  refine T_le eMo_qTakes_55_E ?_
  rw [ha]
  by_cases c2 : k = 2
  · rw [if_pos c2]
    simp only [if_pos c2]
    by_cases cy : y = 0
    · rw [if_pos cy, if_neg (by omega)]
      simp only [if_pos cy]
      refine T_mono mo_t90 ?_
      rintro M' ⟨b1, b2, b3, b4⟩
      rw [if_neg (by omega), ha] at b2
      exact ⟨b1, b2, b3, b4⟩
    · rw [if_neg cy, if_neg (by omega), w64_id (z := a + 1) (by omega) (by omega)]
      simp only [if_neg cy]
      exact up _ (by omega)
  · rw [if_neg c2]
    simp only [if_neg c2]
    by_cases c3 : k = 3
    · rw [if_pos c3, w64_id (z := a + x) (by omega) (by omega)]
      simp only [if_pos c3]
      exact up _ (by omega)
    · rw [if_neg c3]
      simp only [if_neg c3]
      refine T_mono mo_t90 ?_
      rintro M' ⟨b1, b2, b3, b4⟩
      rw [ha] at b2
      exact ⟨b1, b2, b3, b4⟩
theorem mo_takes_w {k x l a : Int} (hk0 : 0 ≤ k) (hk5 : k ≤ 5) (ha : M 319 128 = a) (h9 : M 319 129 = if l = 0 then 1 else 0) (ht : k < 3 → x = 0 ∨ x = 1) (hx : -1000000 ≤ x ∧ x ≤ 1000000) (hb : -1000000000 ≤ a ∧ a ≤ 1000000000) (hl : 0 ≤ l ∧ l ≤ 5) : w_T (eMo_qTakes Lg d k x l M) (fun M' => M' 319 129 = 0 ∧ M' 319 128 = wLd k a l x ∧ (∀ q, q ≠ 319 → M' q = M q) ∧ ∀ j, j ≠ 128 → j ≠ 129 → M' 319 j = M 319 j) := by
  have h90 : M 319 129 = 0 ↔ l ≠ 0 := by
    rw [h9]
    by_cases c : l = 0
    · rw [if_pos c]; omega
    · rw [if_neg c]; omega
  have same : ∀ y : Int, (k = 2 → wLd k a l x = if y = 0 then a else a + 1) → (k = 0 ∨ k = 1 → wLd k a l x = a) → w_T (eMo_qTakes_55 Lg d k x y M) (fun M' => M' 319 129 = 0 ∧ M' 319 128 = wLd k a l x ∧ (∀ q, q ≠ 319 → M' q = M q) ∧ ∀ j, j ≠ 128 → j ≠ 129 → M' 319 j = M 319 j) := fun y g2 g01 => by
    refine T_mono (mo_t55 ha (by omega) (by omega)) ?_
    rintro M' ⟨b1, b2, b3, b4⟩
    refine ⟨b1, ?_, b3, b4⟩
    rw [b2]
    by_cases c2 : k = 2
    · rw [if_pos c2, g2 c2]
    rw [if_neg c2]
    by_cases c3 : k = 3
    · rw [if_pos c3]
      unfold wLd
      rw [if_neg (by omega), if_neg (by omega), if_neg (by omega), if_neg (by omega)]
    rw [if_neg c3]
    by_cases c4 : 3 < k
    · rw [if_pos c4]
      unfold wLd
      rw [if_neg (show ¬ k = 0 by omega), if_neg (show ¬ k = 1 by omega)]
      by_cases cl : l = 0
      · rw [if_neg (fun e => h90.mp e cl), if_pos cl, if_pos cl]
        by_cases c44 : k = 4
        · rw [if_pos c44]
        · rw [if_neg c44, if_pos (by omega)]
      · rw [if_pos (h90.mpr cl), if_neg cl, if_neg cl]
        by_cases c44 : k = 4
        · rw [if_pos c44, if_pos c44]
        · rw [if_neg c44, if_neg c44, if_pos (show k = 5 by omega)]
    · rw [if_neg c4]
      exact (g01 (by omega)).symm
  have put : ∀ y : Int, (k = 0 ∨ k = 1) → wLd k a l x = l → w_T (eMo_qTakes_55 Lg d k x y (bz_up M 319 128 l)) (fun M' => M' 319 129 = 0 ∧ M' 319 128 = wLd k a l x ∧ (∀ q, q ≠ 319 → M' q = M q) ∧ ∀ j, j ≠ 128 → j ≠ 129 → M' 319 j = M 319 j) := fun y hk he => by
    refine T_mono (mo_t55 (bz_up_eq _ _ _ _) (by omega) (by omega)) ?_
    rintro M' ⟨b1, b2, b3, b4⟩
    refine ⟨b1, ?_, fun q hq => by rw [b3 q hq, bz_up_fn hq], fun j x y => by rw [b4 j x y, bz_up_nk x]⟩
    rw [b2, if_neg (by omega), if_neg (by omega), if_neg (by omega), he]
  have s16 : ∀ y : Int, (k < 3 → (y = 0 ∨ y = 1) ∧ y = x) → w_T (eMo_qTakes_16 Lg d k x l y M) (fun M' => M' 319 129 = 0 ∧ M' 319 128 = wLd k a l x ∧ (∀ q, q ≠ 319 → M' q = M q) ∧ ∀ j, j ≠ 128 → j ≠ 129 → M' 319 j = M 319 j) := fun y hy => by
    refine T_le eMo_qTakes_16_E ?_
    simp only [lcmp_eq]
    rw [ha]
    by_cases c0 : k = 0
    · have y1 := hy (by omega)
      rw [if_pos c0, if_neg (show ¬ k = 1 by omega)]
      by_cases cy : y = 0
      · rw [if_pos cy]
        refine same y (by omega) (fun _ => ?_)
        unfold wLd
        rw [if_pos c0, if_pos (show x = 0 by omega)]
        split <;> rfl
      · rw [if_neg cy]
        by_cases ca : a = -1
        · rw [if_pos ca]
          refine put y (Or.inl c0) ?_
          unfold wLd
          rw [if_pos c0, if_pos ca, if_neg (show ¬ x = 0 by omega)]
        · rw [if_neg ca]
          refine same y (by omega) (fun _ => ?_)
          unfold wLd
          rw [if_pos c0, if_neg ca]
    rw [if_neg c0]
    by_cases c1 : k = 1
    · have y1 := hy (by omega)
      rw [if_pos c1]
      by_cases cy : y = 0
      · rw [if_pos cy]
        refine same y (by omega) (fun _ => ?_)
        unfold wLd
        rw [if_neg c0, if_pos c1, if_pos (show x = 0 by omega)]
      · rw [if_neg cy]
        refine put y (Or.inr c1) ?_
        unfold wLd
        rw [if_neg c0, if_pos c1, if_neg (show ¬ x = 0 by omega)]
    rw [if_neg c1]
    refine same y (fun c2 => ?_) (by omega)
    have y1 := hy (by omega)
    unfold wLd
    rw [if_neg c0, if_neg c1, if_neg (by omega), if_neg (by omega)]
    by_cases cy : y = 0
    · rw [if_pos cy]; omega
    · rw [if_neg cy]; omega
  refine T_le eMo_qTakes_E ?_
  simp only [lcmp_eq]
  by_cases c3 : k < 3
  · rw [if_pos c3]
    have := ht c3
    by_cases cx : x = 1
    · rw [if_pos cx]; exact s16 1 (fun _ => ⟨Or.inr rfl, cx.symm⟩)
    · rw [if_neg cx]; exact s16 0 (fun _ => ⟨Or.inl rfl, by omega⟩)
  · rw [if_neg c3]
    exact s16 0 (fun h => absurd h c3)
theorem m_ans (hd : 5 < d) (hV : vOK V) (hS : sOK V S) {k : Int} (hk0 : 0 ≤ k) (hk5 : k ≤ 5) (hA : ∀ op ∈ cs, aQ op) (hok : pOK cs [] [t]) (hkt : k < 3 → t = true) (hb : cs.length ≤ 1700) : ∀ (j : Nat) (l a : Int) (M : bz_M), mR V S M → (∀ i, 0 ≤ i → i < vL V → M 366 i.toNat = sBends V S (vFr V i) (vTo V i)) → zSeg (M 408) 0 cs → M 319 121 = (cs.length : Int) → M 319 128 = a → (M 319 129 = if l = 0 then 1 else 0) → 0 ≤ l → l + j = vL V → (-(10 + 1000000 * l) ≤ a ∧ a ≤ 10 + 1000000 * l) → w_T (eMo_ask_215 Lg d k l M) (fun p => p.1 = qFo V S k cs j l a ∧ aqG M p.2)
  | 0, l, a, M, hM, h6, hz, h1, ha, h9, h0, hl, hb2 => by
    refine T_le (eMo_ask_215_E (by omega)) ?_
    have e3 : M 319 47 = vL V := hM.1.1.2.2.2.1
    rw [e3, if_neg (by omega), ha]
    exact T_some ⟨rfl, aqG_refl M⟩
  | j + 1, l, a, M, hM, h6, hz, h1, ha, h9, h0, hl, hb2 => by
    have hL := hV.2.2.2.2.1
    have e3 : M 319 47 = vL V := hM.1.1.2.2.2.1
    obtain ⟨x1, x2, x3⟩ := qV_is hV hS h0 (show l < vL V by omega) hok
    refine T_le (eMo_ask_215_E (by omega)) ?_
    rw [e3, if_pos (by omega), w32_id (z := l + 1) (by omega) (by omega)]
    refine T_seq (mo_value (by omega) hV hS hM h0 (by omega) (h6 l h0 (by omega)) hA hok hb hz h1 x1) ?_
    rintro ⟨p1, N⟩ ⟨a1, a2⟩
    dsimp only at a1 a2 ⊢
    rw [a1]
    refine T_seq (mo_takes_w (a := a) hk0 hk5 (by rw [a2.2 128 (by decide)]; exact ha) (by rw [a2.2 129 (by decide)]; exact h9) (fun hk => x2 (hkt hk)) x3 (by omega) (by omega)) ?_
    rintro N2 ⟨b1, b2, b3, b4⟩
    have wb := wLd_bd (k := k) (a := a) (l := l) (x := qV V S cs l) (B := 10 + 1000000 * l) (by omega) hb2 (by omega) x3
    have g1 : aqG M N := aqG_z (mFz_fr a2)
    have g2 : aqG N N2 := ⟨fun r x _ _ => b3 r x, fun k hk => b4 k (by omega) (by omega)⟩
    have gg := aqG_trans g1 g2
    have mR2 : mR V S N2 := ⟨mV_co hM.1 (gg.1 _ (by decide) (by decide) (by decide)) (gg.2 _ (by decide)) (gg.2 _ (by decide)) (gg.1 _ (by decide) (by decide) (by decide)) (gg.1 _ (by decide) (by decide) (by decide)) (gg.1 _ (by decide) (by decide) (by decide)) (gg.1 _ (by decide) (by decide) (by decide)) (gg.1 _ (by decide) (by decide) (by decide)), fun i hi => by rw [gg.1 364 (by decide) (by decide) (by decide)]; exact hM.2 i hi⟩
    refine T_mono (m_ans hd hV hS hk0 hk5 hA hok hkt hb j (l + 1) _ N2 mR2 (fun i x y => by rw [b3 366 (by decide), a2.1 366 (by decide) (by decide)]; exact h6 i x y) (by rw [gg.1 408 (by decide) (by decide) (by decide)]; exact hz) (by rw [gg.2 121 (by decide)]; exact h1) b2 (by rw [b1, if_neg (by omega)]) (by omega) (by omega) (by omega)) ?_
    rintro ⟨p2, N3⟩ ⟨c1, c2⟩
    exact ⟨c1, aqG_trans gg c2⟩
theorem m_bnd (hd : 7 < d) (hV : vOK V) (hS : sOK V S) {k : Int} {M0 : bz_M} {Q : Int × bz_M → Prop} (hQ : ∀ N, mR V S N → aqG M0 N → (∀ i, 0 ≤ i → i < vL V → N 366 i.toNat = sBends V S (vFr V i) (vTo V i)) → N 319 128 = M0 319 128 → N 319 129 = M0 319 129 → w_T (eMo_ask_215 Lg d k 0 (bz_up N 319 61 2)) Q) : ∀ (j : Nat) (i : Int) (M : bz_M), mR V S M → aqG M0 M → (∀ i', 0 ≤ i' → i' < i → M 366 i'.toNat = sBends V S (vFr V i') (vTo V i')) → M 319 128 = M0 319 128 → M 319 129 = M0 319 129 → 0 ≤ i → i + j = vL V → w_T (eMo_ask_183 Lg d k i M) Q
  | 0, i, M, hM, hf, h6, h8, h9, h0, hl => by
    refine T_le (eMo_ask_183_E (by omega)) ?_
    have e3 : M 319 47 = vL V := hM.1.1.2.2.2.1
    rw [e3, if_neg (by omega)]
    exact hQ M hM hf (fun i' x y => h6 i' x (by omega)) h8 h9
  | j + 1, i, M, hM, hf, h6, h8, h9, h0, hl => by
    have hL := hV.2.2.2.2.1
    have e3 : M 319 47 = vL V := hM.1.1.2.2.2.1
    refine T_le (eMo_ask_183_E (by omega)) ?_
    rw [e3, if_pos (by omega), w32_id (z := i + 1) (by omega) (by omega)]
    refine T_seq (mo_bendsOf (by omega) hV hS hM h0 (by omega)) ?_
    rintro ⟨p1, N⟩ ⟨a1, a2⟩
    dsimp only at a1 a2 ⊢
    rw [if_pos (by omega), a1]
    have g1 : aqG M (bz_up N 366 i.toNat (sBends V S (vFr V i) (vTo V i))) := aqG_trans (aqG_z a2) ⟨fun r _ x _ => bz_up_fn x, fun k _ => bz_up_nr (by decide) _⟩
    have mR2 : mR V S (bz_up N 366 i.toNat (sBends V S (vFr V i) (vTo V i))) := ⟨mV_co hM.1 (g1.1 _ (by decide) (by decide) (by decide)) (g1.2 _ (by decide)) (g1.2 _ (by decide)) (g1.1 _ (by decide) (by decide) (by decide)) (g1.1 _ (by decide) (by decide) (by decide)) (g1.1 _ (by decide) (by decide) (by decide)) (g1.1 _ (by decide) (by decide) (by decide)) (g1.1 _ (by decide) (by decide) (by decide)), fun i hi => by rw [g1.1 364 (by decide) (by decide) (by decide)]; exact hM.2 i hi⟩
    refine m_bnd hd hV hS hQ j (i + 1) _ mR2 (aqG_trans hf g1) (fun i' x y => ?_) ?_ ?_ (by omega) (by omega)
    · by_cases e : i' = i
      · rw [e, bz_up_eq]
      · rw [bz_up_nk (by omega), a2.1 366 (by decide) (by decide)]
        exact h6 i' x (by omega)
    · rw [bz_up_nr (by decide), a2.2 128 (by decide) (by decide) (by decide) (by decide) (by decide) (by decide) (by decide)]; exact h8
    · rw [bz_up_nr (by decide), a2.2 129 (by decide) (by decide) (by decide) (by decide) (by decide) (by decide) (by decide)]; exact h9
end TL

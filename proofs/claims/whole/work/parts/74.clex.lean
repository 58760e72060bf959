/-! THE CLASS'S TEXT, PIECE BY PIECE -/
def tb (T : Nat → Int) (n : Nat) (M : bz_M) : Prop := n ≤ 1600 ∧ ∀ j, j < n → M 124 j = bz_w8 (T j) ∧ 0 ≤ T j ∧ T j < 256
def stC (M : bz_M) : Prop := ∀ r k, 2 ≤ r → r ≤ 121 → M r k = (bz_sml.getD r []).getD k 0
def cX (T : Nat → Int) (n : Nat) (q : pL) (M : bz_M) : Prop := M 123 1 = (n : Int) ∧ M 123 3 = (q.1 : Int) ∧ M 123 4 = ((te T n q.1 : Nat) : Int) ∧ M 123 2 = tD T n q ∧ M 123 5 = tW T n q ∧ M 123 6 = 0 ∧ M 123 7 = -1
def cXf (n : Nat) (k pl : Int) (M : bz_M) : Prop := M 123 1 = (n : Int) ∧ M 123 2 = 4 ∧ M 123 5 = 0 ∧ M 123 6 = k ∧ k ≠ 0 ∧ M 123 7 = pl
def fT (M M' : bz_M) : Prop := ∀ r, r ≠ 123 → M' r = M r
theorem fT_refl (M : bz_M) : fT M M := fun _ _ => rfl
theorem fT_trans {A B C : bz_M} (h : fT A B) (g : fT B C) : fT A C := fun r hr => (g r hr).trans (h r hr)
theorem fT_up {M : bz_M} {k : Nat} {x : Int} : fT M (bz_up M 123 k x) := fun _ hr => bz_up_fn hr
theorem w8_c {x : Int} (h0 : 0 ≤ x) (h1 : x < 256) : (x < 128 ∧ bz_w8 x = x) ∨ (128 ≤ x ∧ bz_w8 x = x - 256) := by
  unfold bz_w8
  rw [Int.bmod_def]
  split <;> omega
theorem w8_is {x c : Int} (h0 : 0 ≤ x) (h1 : x < 256) (hc : 0 ≤ c ∧ c < 128) : bz_w8 x = c ↔ x = c := by
  have := w8_c h0 h1
  omega
set_option maxRecDepth 100000 in
theorem wT_a : ∀ i, i < 39 → (bz_sml.getD 4 []).getD i 0 = ((5 + i : Nat) : Int) ∧ (bz_sml.getD (5 + i) []).getD 0 0 = ((44 + i : Nat) : Int) ∧ bz_kd 0 (5 + i) = some (.inl 12) ∧ bz_kd 0 (44 + i) = some (.inl 13) ∧ bz_kd 0 (44 + i + 39) = some (.inr (2, (wSp i).length)) := by decide +kernel
set_option maxRecDepth 100000 in
theorem wT_b : ∀ i, i < 39 → (bz_sml.getD (44 + i) []).getD 0 0 = ((44 + i + 39 : Nat) : Int) ∧ (bz_sml.getD (44 + i) []).getD 1 0 = 0 ∧ bz_shr ((wSp i).length : Int) 0 = ((wSp i).length : Int) ∧ 0 < (wSp i).length ∧ (wSp i).length ≤ 6 := by decide +kernel
set_option maxRecDepth 100000 in
theorem wT_c : ∀ i, i < 39 → ∀ k, k < (wSp i).length → bz_and ((wSp i).getD k 0) 255 % 65536 = (wSp i).getD k 0 ∧ 97 ≤ (wSp i).getD k 0 ∧ (wSp i).getD k 0 ≤ 122 := by decide +kernel
theorem wT_all (i : Nat) (h : i < 39) : (bz_sml.getD 4 []).getD i 0 = ((5 + i : Nat) : Int) ∧ (bz_sml.getD (5 + i) []).getD 0 0 = ((44 + i : Nat) : Int) ∧ bz_kd 0 (5 + i) = some (.inl 12) ∧ bz_kd 0 (44 + i) = some (.inl 13) ∧ bz_kd 0 (44 + i + 39) = some (.inr (2, (wSp i).length)) ∧ (bz_sml.getD (44 + i) []).getD 0 0 = ((44 + i + 39 : Nat) : Int) ∧ (bz_sml.getD (44 + i) []).getD 1 0 = 0 ∧ bz_shr ((wSp i).length : Int) 0 = ((wSp i).length : Int) ∧ (∀ k, k < (wSp i).length → bz_and ((wSp i).getD k 0) 255 % 65536 = (wSp i).getD k 0 ∧ 97 ≤ (wSp i).getD k 0 ∧ (wSp i).getD k 0 ≤ 122) ∧ 0 < (wSp i).length ∧ (wSp i).length ≤ 6 :=
  ⟨(wT_a i h).1, (wT_a i h).2.1, (wT_a i h).2.2.1, (wT_a i h).2.2.2.1, (wT_a i h).2.2.2.2, (wT_b i h).1, (wT_b i h).2.1, (wT_b i h).2.2.1, wT_c i h, (wT_b i h).2.2.2.1, (wT_b i h).2.2.2.2⟩
section CX
variable {Lg d n : Nat} {T : Nat → Int} {M M' : bz_M} {q : pL}
theorem tb_co (h : tb T n M) (e : M' 124 = M 124) : tb T n M' := ⟨h.1, fun j hj => by rw [e]; exact h.2 j hj⟩
theorem stC_fT (h : stC M) (f : fT M M') : stC M' := fun r k h1 h2 => by rw [f r (by omega)]; exact h r k h1 h2
theorem tb_fT (h : tb T n M) (f : fT M M') : tb T n M' := tb_co h (f 124 (by decide))
theorem tx_kindAt (ht : tb T n M) (h1 : M 123 1 = (n : Int)) (p : Nat) : eTx_kindAt Lg d (p : Int) M = some (tK T n p, M) := by
  refine eTx_kindAt_E _ ?_
  rw [h1]
  unfold tK
  by_cases h : p < n
  · have hb := ht.2 p h
    have hn := ht.1
    have hc := w8_c hb.2.1 hb.2.2
    rw [if_pos (by omega), if_pos (by omega), Int.toNat_natCast, hb.1, if_pos h]
    have b0 := hb.2.1
    have b1 := hb.2.2
    clear hb ht
    generalize bz_w8 (T p) = x at hc ⊢
    generalize T p = y at hc b0 b1 ⊢
    repeat' split
    all_goals first | rfl | (exfalso; omega)
  · rw [if_neg (by omega), if_neg h]
theorem tx_30 {x1 : Int} {Q : bz_M → Prop} : ∀ (f p : Nat) (M : bz_M), tb T n M → n - p = f → p ≤ n → M 123 3 = (p : Int) → M 123 1 = (n : Int) → (∀ M', fT M M' → (∀ k, k ≠ 3 → M' 123 k = M 123 k) → M' 123 3 = ((sk T n p : Nat) : Int) → w_T (if M' 123 3 = M' 123 4 then (if x1 = 0 then eTx_step_102 Lg d 0 M' else eTx_step_102 Lg d 1 M') else eTx_step_102 Lg d 0 M') Q) → w_T (eTx_step_30 Lg d x1 M) Q
  | 0, p, M, ht, hf, hp, h3, h1, hQ => by
    refine T_le eTx_step_30_E ?_
    have hs : sk T n p = p := sk_id (by omega)
    have := hQ M (fT_refl M) (fun _ _ => rfl) (by rw [hs]; exact h3)
    rw [h3, h1, if_neg (by omega)]
    rw [h3] at this
    exact this
  | f + 1, p, M, ht, hf, hp, h3, h1, hQ => by
    have hb := ht.2 p (by omega)
    have hn := ht.1
    have c10 := w8_is hb.2.1 hb.2.2 (c := 10) (by decide)
    have c32 := w8_is hb.2.1 hb.2.2 (c := 32) (by decide)
    refine T_le eTx_step_30_E ?_
    rw [h3, h1, if_pos (by omega), if_pos (by omega), Int.toNat_natCast, hb.1]
    have go : (T p = 10 ∨ T p = 32) → w_T (eTx_step_30 Lg d x1 (bz_up M 123 3 (bz_w32 ((p : Int) + 1)))) Q := by
      intro hsp
      rw [w32_id (by omega) (by omega)]
      refine tx_30 f (p + 1) _ (tb_fT ht fT_up) (by omega) (by omega) (by rw [bz_up_eq]; omega) (by rw [bz_up_nk (by decide)]; exact h1) (fun M' a b c => hQ M' (fT_trans fT_up a) (fun k hk => by rw [b k hk, bz_up_nk hk]) ?_)
      rw [c, sk_eq p, if_pos ⟨by omega, hsp⟩]
    by_cases e1 : T p = 10
    · rw [if_pos (c10.mpr e1)]; exact go (Or.inl e1)
    · rw [if_neg (fun h => e1 (c10.mp h))]
      by_cases e2 : T p = 32
      · rw [if_pos (c32.mpr e2)]; exact go (Or.inr e2)
      · rw [if_neg (fun h => e2 (c32.mp h))]
        have hs : sk T n p = p := sk_id (by omega)
        have := hQ M (fT_refl M) (fun _ _ => rfl) (by rw [hs]; exact h3)
        rw [h3] at this
        exact this
/-- the end of a piece -/
theorem tx_run (hd : 0 < d) {x2 k0 : Int} {Q : bz_M → Prop} (hk : k0 = 1 ∨ k0 = 2) : ∀ (f e : Nat) (M : bz_M), tb T n M → n - e = f → e ≤ n → M 123 4 = (e : Int) → M 123 2 = k0 → M 123 1 = (n : Int) → (∀ M', fT M M' → (∀ k, k ≠ 4 → M' 123 k = M 123 k) → M' 123 4 = ((ru T n k0 e : Nat) : Int) → w_T (if M' 123 2 = 1 then (eTx_wordThere Lg (d - 1) M').bind (fun p2 => eTx_step_198 Lg d x2 p2.1 p2.2) else eTx_step_198 Lg d x2 0 M') Q) → w_T (eTx_step_123 Lg d x2 M) Q
  | 0, e, M, ht, hf, he, h4, h2, h1, hQ => by
    refine T_le (eTx_step_123_E hd) ?_
    have hr : ru T n k0 e = e := by rw [ru_eq, if_neg (by omega)]
    have := hQ M (fT_refl M) (fun _ _ => rfl) (by rw [hr]; exact h4)
    rw [h4, h1, if_neg (by omega)]
    exact this
  | f + 1, e, M, ht, hf, he, h4, h2, h1, hQ => by
    have hn := ht.1
    refine T_le (eTx_step_123_E hd) ?_
    rw [h4, h1, if_pos (by omega)]
    refine T_run (tx_kindAt ht h1 e) ?_
    simp only [h2]
    by_cases c : tK T n e = k0
    · rw [if_pos c, if_neg (by omega), h4, w32_id (by omega) (by omega)]
      refine tx_run hd hk f (e + 1) _ (tb_fT ht fT_up) (by omega) (by omega) (by rw [bz_up_eq]; omega) (by rw [bz_up_nk (by decide)]; exact h2) (by rw [bz_up_nk (by decide)]; exact h1) (fun M' a b g => hQ M' (fT_trans fT_up a) (fun k hk => by rw [b k hk, bz_up_nk hk]) ?_)
      rw [g, ru_eq k0 e, if_pos ⟨by omega, c⟩]
    · rw [if_neg c]
      have hr : ru T n k0 e = e := by rw [ru_eq, if_neg (fun h => c h.2)]
      have := hQ M (fT_refl M) (fun _ _ => rfl) (by rw [hr]; exact h4)
      rw [h2] at this
      exact this
theorem tx_123 (hd : 0 < d) {x2 : Int} {Q : bz_M → Prop} {p : Nat} (hp : p ≤ n) (ht : tb T n M) (h3 : M 123 3 = (p : Int)) (h4 : M 123 4 = (p : Int)) (h2 : M 123 2 = tK T n p) (h1 : M 123 1 = (n : Int)) (hQ : ∀ M', fT M M' → (∀ k, k ≠ 4 → M' 123 k = M 123 k) → M' 123 4 = ((te T n p : Nat) : Int) → w_T (if M' 123 2 = 1 then (eTx_wordThere Lg (d - 1) M').bind (fun p2 => eTx_step_198 Lg d x2 p2.1 p2.2) else eTx_step_198 Lg d x2 0 M') Q) : w_T (eTx_step_123 Lg d x2 M) Q := by
  have hn := ht.1
  have hr := tK_rg (T := T) (n := n) p
  by_cases hlt : p < n
  · rcases hr.1 hlt with hk | hk | hk
    · refine tx_run hd (k0 := 1) (Or.inl rfl) (n - p) p M ht rfl hp h4 (h2.trans hk) h1 (fun M' a b c => hQ M' a b ?_)
      rw [c]; unfold te; rw [hk, if_neg (by decide)]
    · refine tx_run hd (k0 := 2) (Or.inr rfl) (n - p) p M ht rfl hp h4 (h2.trans hk) h1 (fun M' a b c => hQ M' a b ?_)
      rw [c]; unfold te; rw [hk, if_neg (by decide)]
    · have h2' := h2.trans hk
      have ht' : te T n p = p + 1 := by unfold te; rw [if_pos hk]
      refine T_le (eTx_step_123_E hd) ?_
      rw [h4, h1, if_pos (by omega)]
      refine T_run (tx_kindAt ht h1 p) ?_
      simp only [h2', hk, h4, h3, ↓reduceIte]
      rw [w32_id (by omega) (by omega)]
      have g4 : (bz_up M 123 4 ((p : Int) + 1)) 123 4 = ((p + 1 : Nat) : Int) := by rw [bz_up_eq]; omega
      have gk : ∀ k, k ≠ 4 → (bz_up M 123 4 ((p : Int) + 1)) 123 k = M 123 k := fun k hk => bz_up_nk hk _
      have hM := hQ (bz_up M 123 4 ((p : Int) + 1)) fT_up gk (by rw [g4, ht'])
      refine T_le (eTx_step_123_E hd) ?_
      rw [gk 2 (by decide), h2', if_neg (by decide)] at hM
      by_cases hl : p + 1 < n
      · rw [g4, gk 1 (by decide), h1, if_pos (by omega)]
        refine T_run (tx_kindAt (tb_fT ht fT_up) (by rw [gk 1 (by decide)]; exact h1) (p + 1)) ?_
        by_cases c : tK T n (p + 1) = 3
        · simp only [gk 2 (by decide), h2', g4, gk 3 (by decide), h3, c, ↓reduceIte]
          rw [if_neg (by omega)]
          exact hM
        · simp only [gk 2 (by decide), h2', g4, gk 3 (by decide), h3, c, ↓reduceIte]
          exact hM
      · rw [g4, gk 1 (by decide), h1, if_neg (by omega), gk 2 (by decide), h2', if_neg (by decide)]
        exact hM
  · have hk := hr.2 (by omega)
    refine T_le (eTx_step_123_E hd) ?_
    rw [h4, h1, if_neg (by omega)]
    refine hQ M (fT_refl M) (fun _ _ => rfl) ?_
    rw [h4]; unfold te; rw [hk, if_neg (by decide), ru_eq, if_neg (by omega)]
/-! words -/
theorem kd5 {i : Nat} (hi : i < 39) : bz_kd Lg (5 + i) = some (.inl 12) := (bz_kd_Lg (by omega)).trans (wT_all i hi).2.2.1
theorem kd44 {i : Nat} (hi : i < 39) : bz_kd Lg (44 + i) = some (.inl 13) := (bz_kd_Lg (by omega)).trans (wT_all i hi).2.2.2.1
theorem js_len (hd : 0 < d) (hs : stC M) {i : Nat} (hi : i < 39) : eJs_length Lg d (44 + i) M = some (((wSp i).length : Int), M) := by
  have hw := wT_all i hi
  refine eJs_length_E hd (kd44 hi) ((bz_kd_Lg (by omega)).trans hw.2.2.2.2.1) _ ?_
  rw [if_pos (by rw [hs (44 + i) 0 (by omega) (by omega)]; exact hw.2.2.2.2.2.1)]
  have h0 : M (44 + i) 1 = 0 := by rw [hs (44 + i) 1 (by omega) (by omega)]; exact hw.2.2.2.2.2.2.1
  have hc : eJs_coder Lg (d - 1) (44 + i) M = some (0, M) := eJs_coder_E (kd44 hi) _ (by rw [h0]; rfl)
  rw [hc]
  show some (bz_shr ((wSp i).length : Int) 0, M) = _
  rw [hw.2.2.2.2.2.2.2.1]
theorem js_char (hd : 0 < d) (hs : stC M) {i k : Nat} (hi : i < 39) (hk : k < (wSp i).length) : eJs_charAt Lg d (44 + i) (k : Int) M = some ((wSp i).getD k 0, M) := by
  have hw := wT_all i hi
  have hb := hw.2.2.2.2.2.2.2.2.1 k hk
  refine eJs_charAt_E hd (kd44 hi) _ ?_
  have h0 : M (44 + i) 1 = 0 := by rw [hs (44 + i) 1 (by omega) (by omega)]; exact hw.2.2.2.2.2.2.1
  have hc : eJs_isLatin1 Lg (d - 1) (44 + i) M = some (1, M) := eJs_isLatin1_E (kd44 hi) _ (by rw [h0]; rfl)
  have hM : M (44 + i + 39) k = (wSp i).getD k 0 := by
    rw [hs (44 + i + 39) k (by omega) (by omega)]
    unfold wSp
    rw [show 83 + i = 44 + i + 39 by omega]
  have hl : eJl_charAt Lg (d - 1) (44 + i + 39) (k : Int) M = some ((wSp i).getD k 0, M) := by
    refine eJl_charAt_E ((bz_kd_Lg (by omega)).trans hw.2.2.2.2.1) _ ?_
    rw [if_pos ⟨by omega, by omega, by decide⟩, if_pos (by omega), Int.toNat_natCast, hM, hb.1, if_pos (by omega)]
  have e0 : M (44 + i) 0 = ((44 + i + 39 : Nat) : Int) := by rw [hs (44 + i) 0 (by omega) (by omega)]; exact hw.2.2.2.2.2.1
  rw [hc]
  simp only [Option.bind_some, e0, hl, ↓reduceIte]
  rw [if_neg (by decide), if_pos (by omega)]
theorem tx_w21 (hd : 1 < d) (hs : stC M) (ht : tb T n M) {p i : Nat} (hi : i < 39) (hp : p ≤ n) (h3 : M 123 3 = (p : Int)) (h4 : M 123 4 = ((te T n p : Nat) : Int)) {Q : Nat × bz_M → Prop} (hQ : ∀ k : Nat, ((k = (wSp i).length ∧ p + k = te T n p) ↔ wMt T n p i = true) → k ≤ (wSp i).length → w_T (eTx_wordThere_67 Lg d (i : Int) (44 + i) (k : Int) M) Q) : ∀ (f k : Nat), k + f = (wSp i).length → (∀ j, j < k → T (p + j) = (wSp i).getD j 0) → w_T (eTx_wordThere_21 Lg d (i : Int) (44 + i) (k : Int) M) Q
  | 0, k, hk, hj => by
    refine T_le (eTx_wordThere_21_E (by omega)) ?_
    rw [if_pos (kd44 hi)]
    refine T_run (js_len (by omega) hs hi) ?_
    dsimp only
    rw [if_neg (by omega)]
    refine hQ k ⟨fun h => ?_, fun h => ?_⟩ (by omega)
    · unfold wMt
      rw [Bool.and_eq_true, decide_eq_true_eq, wEq_iff]
      exact ⟨by omega, fun j h' => hj j (by omega)⟩
    · unfold wMt at h
      rw [Bool.and_eq_true, decide_eq_true_eq] at h
      omega
  | f + 1, k, hk, hj => by
    have hn := ht.1
    have hte := te_all (T := T) hp
    have hb := (wT_all i hi).2.2.2.2.2.2.2.2.1 k (by omega)
    have hl6 := (wT_all i hi).2.2.2.2.2.2.2.2.2.2
    refine T_le (eTx_wordThere_21_E (by omega)) ?_
    rw [if_pos (kd44 hi)]
    refine T_run (js_len (by omega) hs hi) ?_
    simp only [h3, h4]
    rw [if_pos (by omega), w32_id (by omega) (by omega)]
    by_cases c : p + k < te T n p
    · have hT := ht.2 (p + k) (by omega)
      rw [if_pos (by omega), if_pos (by omega), if_pos (kd44 hi)]
      refine T_run (js_char (by omega) hs hi (by omega)) ?_
      dsimp only
      rw [show ((p : Int) + (k : Int)).toNat = p + k by omega, hT.1]
      have hc := w8_is hT.2.1 hT.2.2 (c := (wSp i).getD k 0) (by omega)
      by_cases e : T (p + k) = (wSp i).getD k 0
      · rw [if_pos (hc.mpr e), w32_id (by omega) (by omega)]
        refine tx_w21 hd hs ht hi hp h3 h4 hQ f (k + 1) (by omega) (fun j h' => ?_)
        by_cases ej : j = k
        · rw [ej]; exact e
        · exact hj j (by omega)
      · rw [if_neg (fun h => e (hc.mp h))]
        refine hQ k ⟨fun h => by omega, fun h => ?_⟩ (by omega)
        unfold wMt at h
        rw [Bool.and_eq_true, decide_eq_true_eq, wEq_iff] at h
        exact absurd (h.2 k (by omega)) e
    · rw [if_neg (by omega)]
      refine hQ k ⟨fun h => by omega, fun h => ?_⟩ (by omega)
      unfold wMt at h
      rw [Bool.and_eq_true, decide_eq_true_eq] at h
      omega
theorem tx_w2 (hd : 1 < d) (hs : stC M) (ht : tb T n M) {p : Nat} (hp : p ≤ n) (h3 : M 123 3 = (p : Int)) (h4 : M 123 4 = ((te T n p : Nat) : Int)) : ∀ (f i : Nat), i + f = 39 → w_T (eTx_wordThere_2 Lg d (i : Int) M) (fun r => r = ((if wdF T n p f i < 39 then 5 + wdF T n p f i else 0), M))
  | 0, i, h => by
    refine T_le eTx_wordThere_2_E ?_
    rw [if_neg (by omega)]
    refine T_some ?_
    unfold wdF
    rw [if_neg (by decide)]
  | f + 1, i, h => by
    have hi : i < 39 := by omega
    have hw := wT_all i hi
    have hl6 := hw.2.2.2.2.2.2.2.2.2.2
    have hn := ht.1
    have hte := te_all (T := T) hp
    refine T_le eTx_wordThere_2_E ?_
    have e4 : M 4 i = ((5 + i : Nat) : Int) := by rw [hs 4 i (by omega) (by omega)]; exact hw.1
    rw [if_pos (by omega), if_pos (by omega), Int.toNat_natCast, e4, Int.toNat_natCast, if_pos (kd5 hi), show M (5 + i) 0 = ((44 + i : Nat) : Int) by rw [hs (5 + i) 0 (by omega) (by omega)]; exact hw.2.1, Int.toNat_natCast]
    refine tx_w21 hd hs ht hi hp h3 h4 (fun k hk hkl => ?_) (wSp i).length 0 (by omega) (fun j hj => by omega)
    refine T_le (eTx_wordThere_67_E (by omega)) ?_
    rw [if_pos (kd44 hi)]
    refine T_run (js_len (by omega) hs hi) ?_
    simp only [h3, h4]
    rw [w32_id (z := (p : Int) + (k : Int)) (by omega) (by omega), w32_id (z := (i : Int) + 1) (by omega) (by omega)]
    have next : ¬ wMt T n p i = true → w_T (eTx_wordThere_2 Lg d ((i : Int) + 1) M) (fun r => r = ((if wdF T n p (f + 1) i < 39 then 5 + wdF T n p (f + 1) i else 0), M)) := fun e => by
      have := tx_w2 hd hs ht hp h3 h4 f (i + 1) (by omega)
      unfold wdF
      rw [if_neg e]
      exact this
    by_cases e1 : k = (wSp i).length
    · rw [if_pos (by omega)]
      by_cases e2 : p + k = te T n p
      · rw [if_pos (by omega), if_pos (by omega), Int.toNat_natCast, e4, Int.toNat_natCast]
        refine T_some ?_
        unfold wdF
        rw [if_pos (hk.mp ⟨e1, e2⟩), if_pos hi]
      · rw [if_neg (by omega)]
        exact next (fun e => e2 (hk.mpr e).2)
    · rw [if_neg (by omega)]
      exact next (fun e => e1 (hk.mpr e).1)
theorem tx_word (hd : 1 < d) (hs : stC M) (ht : tb T n M) {p : Nat} (hp : p ≤ n) (h3 : M 123 3 = (p : Int)) (h4 : M 123 4 = ((te T n p : Nat) : Int)) : eTx_wordThere Lg d M = some ((if wd T n p < 39 then 5 + wd T n p else 0), M) := by
  obtain ⟨r, e, hr⟩ := tx_w2 (Lg := Lg) hd hs ht hp h3 h4 39 0 (by omega)
  rw [hr] at e
  exact eTx_wordThere_E _ e
/-- the next piece -/
theorem tx_step0 (hd : 2 < d) (hs : stC M) (ht : tb T n M) {e : Nat} (he : e ≤ n) (h1 : M 123 1 = (n : Int)) (h4 : M 123 4 = (e : Int)) (h6 : M 123 6 = 0) (h7 : M 123 7 = -1) : w_T (eTx_step Lg d M) (fun M' => cX T n (nxq T n e (decide (M 123 2 = 1 ∨ M 123 2 = 2))) M' ∧ fT M M') := by
  have key : ∀ x1 : Int, x1 = (if M 123 2 = 1 ∨ M 123 2 = 2 then 1 else 0) → w_T (eTx_step_30 Lg d x1 (bz_up M 123 3 (M 123 4))) (fun M' => cX T n (nxq T n e (decide (M 123 2 = 1 ∨ M 123 2 = 2))) M' ∧ fT M M') := by
    intro x1 hx
    refine tx_30 (n - e) e _ (tb_fT ht fT_up) rfl he (by rw [bz_up_eq]; exact h4) (by rw [bz_up_nk (by decide)]; exact h1) (fun M1 a b c => ?_)
    have bk : ∀ k, k ≠ 3 → M1 123 k = M 123 k := fun k hk => (b k hk).trans (bz_up_nk hk _)
    have ff : fT M M1 := fT_trans fT_up a
    have hsk := sk_le (T := T) he
    have y : ∀ y0 : Int, y0 = (if (nxq T n e (decide (M 123 2 = 1 ∨ M 123 2 = 2))).2 = true then 1 else 0) → w_T (eTx_step_102 Lg d y0 M1) (fun M' => cX T n (nxq T n e (decide (M 123 2 = 1 ∨ M 123 2 = 2))) M' ∧ fT M M') := by
      intro y0 hy
      generalize hq : nxq T n e (decide (M 123 2 = 1 ∨ M 123 2 = 2)) = q at hy ⊢
      have hq1 : q.1 = sk T n e := by rw [← hq]; rfl
      refine T_le (eTx_step_102_E (by omega)) ?_
      rw [c]
      refine T_run (tx_kindAt (tb_fT ht ff) ((bk 1 (by decide)).trans h1) (sk T n e)) ?_
      dsimp only
      rw [c, ← hq1]
      refine tx_123 (by omega) (p := q.1) (by omega) (tb_fT ht (fT_trans ff (fT_trans fT_up fT_up))) ?_ (bz_up_eq _ _ _ _) ?_ ?_ (fun M2 a2 b2 c2 => ?_)
      · rw [bz_up_nk (by decide), bz_up_nk (by decide), c, hq1]
      · rw [bz_up_nk (by decide), bz_up_eq]
      · rw [bz_up_nk (by decide), bz_up_nk (by decide), bk 1 (by decide), h1]
      have f2 : fT M M2 := fT_trans (fT_trans ff (fT_trans fT_up fT_up)) a2
      have m2 : M2 123 2 = tK T n q.1 := by rw [b2 2 (by decide), bz_up_nk (by decide), bz_up_eq]
      have m3 : M2 123 3 = (q.1 : Int) := by rw [b2 3 (by decide), bz_up_nk (by decide), bz_up_nk (by decide), c, hq1]
      have mk : ∀ k, k ≠ 2 → k ≠ 3 → k ≠ 4 → M2 123 k = M 123 k := fun k x1 x2 x3 => by rw [b2 k x3, bz_up_nk x3, bz_up_nk x1, bk k x2]
      have fin : ∀ w : Nat, (w : Int) = tW T n q → w_T (eTx_step_198 Lg d y0 w M2) (fun M' => cX T n q M' ∧ fT M M') := by
        intro w hw
        refine T_le eTx_step_198_E ?_
        have base : ∀ (kk : Int) (M3 : bz_M), kk = tD T n q → (M3 = bz_up M2 123 5 (Int.ofNat w) ∧ kk = tK T n q.1) ∨ M3 = bz_up (bz_up M2 123 5 (Int.ofNat w)) 123 2 kk → cX T n q M3 ∧ fT M M3 := by
          intro kk M3 hkk h
          rcases h with ⟨rfl, hk⟩ | rfl
          · refine ⟨⟨?_, ?_, ?_, ?_, ?_, ?_, ?_⟩, fT_trans f2 fT_up⟩
            · rw [bz_up_nk (by decide), mk 1 (by decide) (by decide) (by decide)]; exact h1
            · rw [bz_up_nk (by decide)]; exact m3
            · rw [bz_up_nk (by decide)]; exact c2
            · rw [bz_up_nk (by decide), m2, ← hk]; exact hkk
            · rw [bz_up_eq]; exact hw
            · rw [bz_up_nk (by decide), mk 6 (by decide) (by decide) (by decide)]; exact h6
            · rw [bz_up_nk (by decide), mk 7 (by decide) (by decide) (by decide)]; exact h7
          · refine ⟨⟨?_, ?_, ?_, ?_, ?_, ?_, ?_⟩, fT_trans f2 (fT_trans fT_up fT_up)⟩
            · rw [bz_up_nk (by decide), bz_up_nk (by decide), mk 1 (by decide) (by decide) (by decide)]; exact h1
            · rw [bz_up_nk (by decide), bz_up_nk (by decide)]; exact m3
            · rw [bz_up_nk (by decide), bz_up_nk (by decide)]; exact c2
            · rw [bz_up_eq]; exact hkk
            · rw [bz_up_nk (by decide), bz_up_eq]; exact hw
            · rw [bz_up_nk (by decide), bz_up_nk (by decide), mk 6 (by decide) (by decide) (by decide)]; exact h6
            · rw [bz_up_nk (by decide), bz_up_nk (by decide), mk 7 (by decide) (by decide) (by decide)]; exact h7
        rw [m2]
        by_cases g : q.2 = true
        · rw [if_pos g] at hy
          rw [hy, if_neg (by decide)]
          by_cases t1 : tK T n q.1 = 1
          · rw [if_pos t1]; exact T_some (base 4 _ (by unfold tD; rw [if_pos ⟨g, Or.inl t1⟩]) (Or.inr rfl))
          · rw [if_neg t1]
            by_cases t2 : tK T n q.1 = 2
            · rw [if_pos t2]; exact T_some (base 4 _ (by unfold tD; rw [if_pos ⟨g, Or.inr t2⟩]) (Or.inr rfl))
            · rw [if_neg t2]; exact T_some (base _ _ (by unfold tD; rw [if_neg (by omega)]) (Or.inl ⟨rfl, rfl⟩))
        · rw [if_neg g] at hy
          rw [hy, if_pos rfl]
          exact T_some (base _ _ (by unfold tD; rw [if_neg (fun h => g h.1)]) (Or.inl ⟨rfl, rfl⟩))
      rw [m2]
      by_cases t1 : tK T n q.1 = 1
      · rw [if_pos t1]
        refine T_run (tx_word (by omega) (stC_fT hs f2) (tb_fT ht f2) (p := q.1) (by omega) m3 c2) ?_
        refine fin _ ?_
        unfold tW
        rw [if_pos t1]
        split <;> rfl
      · rw [if_neg t1]
        refine fin 0 ?_
        unfold tW
        rw [if_neg t1]; rfl
    have hy2 : (nxq T n e (decide (M 123 2 = 1 ∨ M 123 2 = 2))).2 = (decide (sk T n e = e) && decide (M 123 2 = 1 ∨ M 123 2 = 2)) := rfl
    rw [c, bk 4 (by decide), h4]
    by_cases g1 : sk T n e = e
    · rw [if_pos (by omega)]
      by_cases g2 : M 123 2 = 1 ∨ M 123 2 = 2
      · rw [if_pos g2] at hx
        rw [hx, if_neg (by decide)]
        exact y 1 (by rw [hy2, if_pos]; simp [g1, g2])
      · rw [if_neg g2] at hx
        rw [hx, if_pos rfl]
        exact y 0 (by rw [hy2, if_neg]; simp [g2])
    · rw [if_neg (by omega)]
      exact y 0 (by rw [hy2, if_neg]; simp [g1])
  refine T_le eTx_step_E ?_
  by_cases a : M 123 2 = 1
  · rw [if_pos a]; exact key 1 (by rw [if_pos (Or.inl a)])
  · rw [if_neg a]
    by_cases b : M 123 2 = 2
    · rw [if_pos b]; exact key 1 (by rw [if_pos (Or.inr b)])
    · rw [if_neg b]; exact key 0 (by rw [if_neg (by omega)])
theorem tx_step (hd : 2 < d) (hs : stC M) (ht : tb T n M) (hq : qOK T n q) (hX : cX T n q M) (hk : tD T n q ≠ 4) : w_T (eTx_step Lg d M) (fun M' => cX T n (nx T n q) M' ∧ fT M M') := by
  have e : tD T n q = tK T n q.1 := by
    unfold tD at hk ⊢
    split at hk
    · exact absurd rfl hk
    · rename_i h; rw [if_neg h]
  have := tx_step0 (Lg := Lg) hd hs ht (te_all hq.1).2.1 hX.1 hX.2.2.1 hX.2.2.2.2.2.1 hX.2.2.2.2.2.2
  rw [hX.2.2.2.1, e] at this
  exact this
theorem tx_begin (hd : 3 < d) (hs : stC M) (ht : tb T n M) (h1 : M 123 1 = (n : Int)) : w_T (eTx_begin Lg d M) (fun M' => cX T n (nxq T n 0 false) M' ∧ fT M M') := by
  refine T_le (eTx_begin_E (by omega)) ?_
  have f : fT M (bz_up (bz_up (bz_up (bz_up M 123 6 0) 123 7 (-1)) 123 2 0) 123 4 0) := fT_trans (fT_trans fT_up fT_up) (fT_trans fT_up fT_up)
  refine T_seq (tx_step0 (by omega) (stC_fT hs f) (tb_fT ht f) (e := 0) (by omega) ?_ ?_ ?_ ?_) ?_
  · rw [bz_up_nk (by decide), bz_up_nk (by decide), bz_up_nk (by decide), bz_up_nk (by decide)]; exact h1
  · rw [bz_up_eq]; rfl
  · rw [bz_up_nk (by decide), bz_up_nk (by decide), bz_up_nk (by decide), bz_up_eq]
  · rw [bz_up_nk (by decide), bz_up_nk (by decide), bz_up_eq]
  rintro M1 ⟨a, b⟩
  rw [show (decide ((bz_up (bz_up (bz_up (bz_up M 123 6 0) 123 7 (-1)) 123 2 0) 123 4 0) 123 2 = 1 ∨ (bz_up (bz_up (bz_up (bz_up M 123 6 0) 123 7 (-1)) 123 2 0) 123 4 0) 123 2 = 2)) = false by rw [bz_up_nk (by decide), bz_up_eq]; rfl] at a
  exact T_some ⟨a, fT_trans f b⟩
end CX

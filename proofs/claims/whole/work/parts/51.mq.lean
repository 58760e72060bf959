/-! THE REFERENCE: in thought -/
abbrev mSf (k : Nat) : Prop := k = 61 ∨ (64 ≤ k ∧ k ≤ 68) ∨ k = 71 ∨ k = 73 ∨ k = 74 ∨ k = 83 ∨ k = 127
abbrev mSr (q : Nat) : Prop := q = 319 ∨ (365 ≤ q ∧ q ≤ 371) ∨ q = 373 ∨ q = 374 ∨ q = 410
def qM (M M' : bz_M) : Prop := (∀ q, ¬ mSr q → M' q = M q) ∧ ∀ k, ¬ mSf k → M' 319 k = M 319 k
theorem qM_refl (M : bz_M) : qM M M := ⟨fun _ _ => rfl, fun _ _ => rfl⟩
theorem qM_trans {A B C : bz_M} (h : qM A B) (g : qM B C) : qM A C := ⟨fun q hq => (g.1 q hq).trans (h.1 q hq), fun k hk => (g.2 k hk).trans (h.2 k hk)⟩
theorem qM_fz {M M' : bz_M} (h : mFz M M') : qM M M' := ⟨fun q hq => h.1 q (by omega) (by omega), fun k hk => h.2 k (by omega) (by omega) (by omega) (by omega) (by omega) (by omega) (by omega)⟩
/-- M thinks of what comes of M0 -/
def th (M0 M : bz_M) : Prop := M 319 70 = 1 ∧ (∀ k, k < 182 → M 365 k = M0 364 k) ∧ (∀ k, 182 ≤ k → M 364 k = M0 364 k) ∧ (∀ q, ¬ mSr q → q ≠ 364 → M q = M0 q) ∧ ∀ k, ¬ mSf k → k ≠ 70 → M 319 k = M0 319 k
section MQ
variable {Lg d : Nat} {V M0 M M' : bz_M} {S : Nat → Int}
theorem mR_qM (h : mR V S M) (f : qM M M') : mR V S M' := ⟨mV_co h.1 (f.1 _ (by decide)) (f.2 _ (by decide)) (f.2 _ (by decide)) (f.1 _ (by decide)) (f.1 _ (by decide)) (f.1 _ (by decide)) (f.1 _ (by decide)) (f.1 _ (by decide)), fun k hk => by rw [f.1 364 (by decide)]; exact h.2 k hk⟩
theorem th_fh (h : th M0 M) (f : mFh M M') (g : ∀ j, 182 ≤ j → M' 364 j = M 364 j) : th M0 M' := by
  refine ⟨?_, fun k hk => ?_, fun k hk => ?_, fun q hq h4 => ?_, fun k hk h7 => ?_⟩
  · rw [f.2 70 (by decide) (by decide) (by decide) (by decide) (by decide) (by decide) (by decide) (by decide)]; exact h.1
  · rw [f.1 365 (by decide) (by decide) (by decide) (by decide)]; exact h.2.1 k hk
  · rw [g k hk]; exact h.2.2.1 k hk
  · rw [f.1 q (by omega) (by omega) h4 (by omega)]; exact h.2.2.2.1 q hq h4
  · rw [f.2 k (by omega) (by omega) (by omega) (by omega) (by omega) (by omega) (by omega) (by omega)]; exact h.2.2.2.2 k hk h7
theorem th_fz (h : th M0 M) (f : mFz M M') : th M0 M' := th_fh h (mFh_fg (mFg_fm (mFm_fz f))) (fun j _ => by rw [f.1 364 (by decide) (by decide)])
theorem th_up {k : Nat} {x : Int} (h : th M0 M) (hk : k < 182) : th M0 (bz_up M 364 k x) := th_fh h mFh_a (fun j hj => bz_up_nk (by omega) _)
theorem th_V (h : th M0 M) (hV : mV V M0) : mV V M := by
  have k := h.2.2.2.1
  exact mV_co hV (k _ (by decide) (by decide)) (h.2.2.2.2 _ (by decide) (by decide)) (h.2.2.2.2 _ (by decide) (by decide)) (k _ (by decide) (by decide)) (k _ (by decide) (by decide)) (k _ (by decide) (by decide)) (k _ (by decide) (by decide)) (k _ (by decide) (by decide))
theorem mo_asideL {Q : bz_M → Prop} : ∀ (k : Nat) (x : Int) (M : bz_M), 0 ≤ x → x + k = 182 → (∀ i : Nat, (i : Int) < x → M 365 i = M 364 i) → (∀ M', (∀ i, i < 182 → M' 365 i = M 364 i) → (∀ q, q ≠ 365 → M' q = M q) → Q M') → w_T (eMo_putsAside_7 Lg d x M) Q
  | 0, x, M, h0, h1, hz, hQ => by
    refine T_le eMo_putsAside_7_E ?_
    rw [if_neg (by omega)]
    exact T_some (hQ M (fun i hi => hz i (by omega)) (fun _ _ => rfl))
  | k + 1, x, M, h0, h1, hz, hQ => by
    refine T_le eMo_putsAside_7_E ?_
    rw [if_pos (by omega), if_pos (by omega), if_pos (by omega), w32_id (by omega) (by omega)]
    have e4 : bz_up M 365 x.toNat (M 364 x.toNat) 364 = M 364 := bz_up_fn (by decide)
    refine mo_asideL k (x + 1) _ (by omega) (by omega) (fun i hi => ?_) (fun M' a b => hQ M' (fun i hi => by rw [a i hi, e4]) (fun q hq => by rw [b q hq, bz_up_fn hq]))
    rw [e4, bz_up_rk]
    split
    · rename_i h; rw [h.2]
    · exact hz i (by omega)
theorem mo_aside : w_T (eMo_putsAside Lg d M) (fun M' => th M M' ∧ M' 364 = M 364 ∧ M' 367 = M 367) := by
  refine T_le eMo_putsAside_E ?_
  refine mo_asideL 182 0 _ (by omega) (by omega) (fun i hi => by omega) (fun M' a b => ⟨⟨?_, fun k hk => ?_, fun k hk => ?_, fun q hq h4 => ?_, fun k hk h7 => ?_⟩, ?_, ?_⟩)
  · rw [b 319 (by decide), bz_up_eq]
  · rw [a k hk, bz_up_nr (by decide)]
  · rw [b 364 (by decide), bz_up_nr (by decide)]
  · rw [b q (by omega), bz_up_fn (by omega)]
  · rw [b 319 (by decide), bz_up_nk h7]
  · rw [b 364 (by decide), bz_up_fn (by decide)]
  · rw [b 367 (by decide), bz_up_fn (by decide)]
theorem mo_anewL {Q : bz_M → Prop} : ∀ (k : Nat) (x : Int) (M : bz_M), 0 ≤ x → x + k = 182 → (∀ i : Nat, (i : Int) < x → M 364 i = M 365 i) → (∀ M', (∀ i, i < 182 → M' 364 i = M 365 i) → (∀ i, 182 ≤ i → M' 364 i = M 364 i) → (∀ q, q ≠ 364 → M' q = M q) → Q M') → w_T (eMo_triesAnew_2 Lg d x M) Q
  | 0, x, M, h0, h1, hz, hQ => by
    refine T_le eMo_triesAnew_2_E ?_
    rw [if_neg (by omega)]
    exact T_some (hQ M (fun i hi => hz i (by omega)) (fun _ _ => rfl) (fun _ _ => rfl))
  | k + 1, x, M, h0, h1, hz, hQ => by
    refine T_le eMo_triesAnew_2_E ?_
    rw [if_pos (by omega), if_pos (by omega), if_pos (by omega), w32_id (by omega) (by omega)]
    have e4 : bz_up M 364 x.toNat (M 365 x.toNat) 365 = M 365 := bz_up_fn (by decide)
    refine mo_anewL k (x + 1) _ (by omega) (by omega) (fun i hi => ?_) (fun M' a b c => hQ M' (fun i hi => by rw [a i hi, e4]) (fun i hi => by rw [b i hi, bz_up_nk (by omega)]) (fun q hq => by rw [c q hq, bz_up_fn hq]))
    rw [e4, bz_up_rk]
    split
    · rename_i h; rw [h.2]
    · exact hz i (by omega)
theorem mo_anew (h : th M0 M) : w_T (eMo_triesAnew Lg d M) (fun M' => th M0 M' ∧ M' 364 = M0 364 ∧ ∀ q, q ≠ 364 → M' q = M q) := by
  refine T_le eMo_triesAnew_E ?_
  refine mo_anewL 182 0 M (by omega) (by omega) (fun i hi => by omega) (fun M' a b c => ⟨⟨?_, fun k hk => ?_, fun k hk => ?_, fun q hq h4 => ?_, fun k hk h7 => ?_⟩, ?_, c⟩)
  · rw [c 319 (by decide)]; exact h.1
  · rw [c 365 (by decide)]; exact h.2.1 k hk
  · rw [b k hk]; exact h.2.2.1 k hk
  · rw [c q h4]; exact h.2.2.2.1 q hq h4
  · rw [c 319 (by decide)]; exact h.2.2.2.2 k hk h7
  · funext k
    by_cases hk : k < 182
    · rw [a k hk, h.2.1 k hk]
    · rw [b k (by omega), h.2.2.1 k (by omega)]
theorem mo_back (hd : 0 < d) (h : th M0 M) (h0 : M0 319 70 = 0) : w_T (eMo_takesBack Lg d M) (fun M' => qM M0 M') := by
  refine T_le (eMo_takesBack_E hd) ?_
  refine T_seq (mo_anew h) ?_
  rintro M1 ⟨a1, a2, a3⟩
  refine T_some ⟨fun q hq => ?_, fun k hk => ?_⟩
  · rw [bz_up_fn (by omega)]
    by_cases h4 : q = 364
    · rw [h4]; exact a2
    · exact a1.2.2.2.1 q hq h4
  · rw [bz_up_rk]
    split
    · rename_i e; rw [e.2]; exact h0.symm
    · rename_i e; exact a1.2.2.2.2 k hk (fun e' => e ⟨rfl, e'⟩)
theorem mR_th (h : th M0 M) (hM : mR V S M0) (e : M 364 = M0 364) : mR V S M := ⟨th_V h hM.1, fun k hk => by rw [e]; exact hM.2 k hk⟩
/-- n seasons, thought of -/
theorem mo_goT (hd : 7 < d) (hV : vOK V) (hS : sOK V S) (hM : mR V S M) (ht : th M0 M) {n : Int} (h0 : 0 ≤ n) (h9 : S 0 + n ≤ 1030) (hn : n ≤ 1000) : w_T (eMo_seasonsGo Lg d n M) (fun M' => mR V (sRun V n.toNat S) M' ∧ M' 367 = gRun V n.toNat S (M 367) ∧ th M0 M' ∧ M' 368 = M 368 ∧ M' 373 = M 373 ∧ M' 374 = M 374 ∧ M' 319 83 = M 319 83 ∧ M' 319 73 = M 319 73 ∧ M' 319 74 = M 319 74) := by
  refine T_mono (mo_go hd hV hS hM (by rw [ht.1]; decide) h0 h9 hn) ?_
  rintro M' ⟨a, b, c, e⟩
  exact ⟨a, b, th_fh ht c e, c.1 _ (by decide) (by decide) (by decide) (by decide), c.1 _ (by decide) (by decide) (by decide) (by decide), c.1 _ (by decide) (by decide) (by decide) (by decide), c.2 _ (by decide) (by decide) (by decide) (by decide) (by decide) (by decide) (by decide) (by decide), c.2 _ (by decide) (by decide) (by decide) (by decide) (by decide) (by decide) (by decide) (by decide), c.2 _ (by decide) (by decide) (by decide) (by decide) (by decide) (by decide) (by decide) (by decide)⟩
theorem mo_bendsM (hd : 6 < d) (hV : vOK V) (hS : sOK V S) : ∀ (k : Nat) (c n : Int) (M : bz_M), mR V S M → 0 ≤ c → c + k = vC V → 0 ≤ n → n + k ≤ 100 → w_T (eMo_bendMany_4 Lg d n c M) (fun p => p.1 = sBendsL V S k c n ∧ mFz M p.2)
  | 0, c, n, M, hM, h0, h1, h2, h3 => by
    refine T_le (eMo_bendMany_4_E (by omega)) ?_
    rw [hM.1.1.1, if_neg (by omega)]
    exact T_some ⟨rfl, mFz_refl _⟩
  | k + 1, c, n, M, hM, h0, h1, h2, h3 => by
    have hC := hV.2.1
    refine T_le (eMo_bendMany_4_E (by omega)) ?_
    rw [hM.1.1.1, if_pos (by omega), w32_id (z := c + 1) (by omega) (by omega), w32_id (z := n + 1) (by omega) (by omega)]
    refine T_seq (mo_bend (by omega) hV hS hM h0 (by omega)) ?_
    rintro ⟨p1, p2⟩ ⟨e1, e2⟩
    dsimp only at e1 e2 ⊢
    rw [e1]
    unfold sBendsL
    have hM2 := mR_fz hM e2
    split
    · exact T_mono (mo_bendsM hd hV hS k (c + 1) n p2 hM2 (by omega) (by omega) (by omega) (by omega)) (fun p hp => ⟨hp.1, mFz_trans e2 hp.2⟩)
    · exact T_mono (mo_bendsM hd hV hS k (c + 1) (n + 1) p2 hM2 (by omega) (by omega) (by omega) (by omega)) (fun p hp => ⟨hp.1, mFz_trans e2 hp.2⟩)
theorem mo_bendMany (hd : 6 < d) (hV : vOK V) (hS : sOK V S) (hM : mR V S M) : w_T (eMo_bendMany Lg d M) (fun p => p.1 = sBends V S 0 (vC V - 1) ∧ mFz M p.2) := by
  have hC := hV.2.1
  refine T_le eMo_bendMany_E ?_
  have := mo_bendsM (Lg := Lg) hd hV hS (vC V).toNat 0 0 M hM (by omega) (by omega) (by omega) (by omega)
  unfold sBends
  rw [show (vC V - 1 + 1 - 0).toNat = (vC V).toNat by omega]
  exact this
theorem mo_bendsO (hd : 6 < d) (hV : vOK V) (hS : sOK V S) {l : Int} (hl0 : 0 ≤ l) (hl : l < vL V) : ∀ (k : Nat) (c n : Int) (M : bz_M), mR V S M → 0 ≤ c → c + k = vTo V l + 1 → 0 ≤ n → n + k ≤ 100 → w_T (eMo_bendsOf_14 Lg d l n c M) (fun p => p.1 = sBendsL V S k c n ∧ mFz M p.2)
  | 0, c, n, M, hM, h0, h1, h2, h3 => by
    have hL := hV.2.2.2.2.1
    refine T_le (eMo_bendsOf_14_E (by omega)) ?_
    have w2 : bz_w32 (26 + bz_w32 (5 * l)) = 26 + 5 * l := by rw [w32_id (z := 5 * l) (by omega) (by omega), w32_id (by omega) (by omega)]
    rw [w2, if_pos (by omega), (mr_lord hM hl0).2.1, if_pos (by omega)]
    exact T_some ⟨rfl, mFz_refl _⟩
  | k + 1, c, n, M, hM, h0, h1, h2, h3 => by
    have hC := hV.2.1
    have hL := hV.2.2.2.2.1
    have hF := (hV.2.2.2.2.2.2.1 l hl0 hl).1
    refine T_le (eMo_bendsOf_14_E (by omega)) ?_
    have w2 : bz_w32 (26 + bz_w32 (5 * l)) = 26 + 5 * l := by rw [w32_id (z := 5 * l) (by omega) (by omega), w32_id (by omega) (by omega)]
    rw [w2, if_pos (by omega), (mr_lord hM hl0).2.1, if_neg (by omega), w32_id (z := c + 1) (by omega) (by omega), w32_id (z := n + 1) (by omega) (by omega)]
    refine T_seq (mo_bend (by omega) hV hS hM h0 (by omega)) ?_
    rintro ⟨p1, p2⟩ ⟨e1, e2⟩
    dsimp only at e1 e2 ⊢
    rw [e1]
    unfold sBendsL
    have hM2 := mR_fz hM e2
    split
    · exact T_mono (mo_bendsO hd hV hS hl0 hl k (c + 1) n p2 hM2 (by omega) (by omega) (by omega) (by omega)) (fun p hp => ⟨hp.1, mFz_trans e2 hp.2⟩)
    · exact T_mono (mo_bendsO hd hV hS hl0 hl k (c + 1) (n + 1) p2 hM2 (by omega) (by omega) (by omega) (by omega)) (fun p hp => ⟨hp.1, mFz_trans e2 hp.2⟩)
theorem mo_bendsOf (hd : 6 < d) (hV : vOK V) (hS : sOK V S) (hM : mR V S M) {l : Int} (hl0 : 0 ≤ l) (hl : l < vL V) : w_T (eMo_bendsOf Lg d l M) (fun p => p.1 = sBends V S (vFr V l) (vTo V l) ∧ mFz M p.2) := by
  have hC := hV.2.1
  have hL := hV.2.2.2.2.1
  have hF := (hV.2.2.2.2.2.2.1 l hl0 hl).1
  refine T_le eMo_bendsOf_E ?_
  have w2 : bz_w32 (25 + bz_w32 (5 * l)) = 25 + 5 * l := by rw [w32_id (z := 5 * l) (by omega) (by omega), w32_id (by omega) (by omega)]
  rw [w2, if_pos (by omega), (mr_lord hM hl0).1]
  exact mo_bendsO hd hV hS hl0 hl (vTo V l + 1 - vFr V l).toNat (vFr V l) 0 M hM (by omega) (by omega) (by omega) (by omega)
end MQ

/-! THE CLASS: seasons ahead -/
def qC (M M' : bz_M) : Prop := (∀ q, ¬ (cScr q ∨ (281 ≤ q ∧ q ≤ 298) ∨ q = 279) → M' q = M q) ∧ M' 279 1 = M 279 1
theorem qC_refl (M : bz_M) : qC M M := ⟨fun _ _ => rfl, rfl⟩
theorem qC_trans {A B C : bz_M} (h : qC A B) (g : qC B C) : qC A C := ⟨fun q hq => (g.1 q hq).trans (h.1 q hq), g.2.trans h.2⟩
theorem qC_cF {M M' : bz_M} (h : cF M M') : qC M M' := ⟨fun q hq => h q (fun e => hq (Or.inl e)), by rw [h 279 (by decide)]⟩
theorem qC_of {M M' : bz_M} (h : ∀ q, ¬ (cScr q ∨ (281 ≤ q ∧ q ≤ 298)) → M' q = M q) : qC M M' := ⟨fun q hq => h q (fun e => hq (by omega)), by rw [h 279 (by decide)]⟩
theorem hr131 : bz_oR 131 148 := by decide
theorem hr285 : bz_oR 285 286 := by decide
section CQ
variable {Lg d v : Nat} {V M M' : bz_M} {S : Nat → Int}
theorem cS_cp {s t : Nat} (h : cS t S M) (h0 : M' s 0 = M t 0 ∧ M' s 1 = M t 1 ∧ M' s 2 = M t 2) (h1 : ∀ k, k < 10 → M' (s + 1) k = M (t + 1) k) (h2 : ∀ k, k < 80 → M' (s + 2) k = M (t + 2) k ∧ M' (s + 3) k = M (t + 3) k) (h4 : ∀ k, k < 5 → M' (s + 4) k = M (t + 4) k ∧ M' (s + 5) k = M (t + 5) k) : cS s S M' := by
  refine ⟨by rw [h0.1, h0.2.1]; exact h.1, fun c a b => ?_, fun k a b => ?_, fun l a b => ?_⟩
  · rw [h1 _ (by omega)]; exact h.2.1 c a b
  · rw [(h2 _ (by omega)).1, (h2 _ (by omega)).2]; exact h.2.2.1 k a b
  · rw [(h4 _ (by omega)).1, (h4 _ (by omega)).2]; exact h.2.2.2 l a b
theorem cR_qC (hv : bz_oV v) (h : cR V S 131 148 v M) (f : qC M M') : cR V S 131 148 v M' := by
  have hvv := oV_c hv
  have k : ∀ q, ¬ (cScr q ∨ (281 ≤ q ∧ q ≤ 298) ∨ q = 279) → M' q = M q := f.1
  exact ⟨by rw [k 131 (by decide)]; exact h.1, cV_co h.2.1 (k _ (by omega)) (k _ (by omega)) (k _ (by omega)) (k _ (by omega)) (k _ (by omega)) (k _ (by omega)) (k _ (by omega)) (k _ (by omega)) (k _ (by omega)) (k _ (by omega)), cS_co h.2.2 (k _ (by omega)) (k _ (by omega)) (k _ (by omega)) (k _ (by omega)) (k _ (by omega)) (k _ (by omega))⟩
theorem ri_fol2 {Q : bz_M → Prop} : ∀ (k : Nat) (x : Int) (M : bz_M), 0 ≤ x → x + k = 5 → (∀ i : Nat, (i : Int) < x → M 293 i = 0) → (∀ M', (∀ i, i < 5 → M' 293 i = 0) → (∀ q, q ≠ 293 → M' q = M q) → Q M') → w_T (eRi_follow_42 Lg d x M) Q
  | 0, x, M, h0, h1, hz, hQ => by
    refine T_le eRi_follow_42_E ?_
    rw [if_neg (by omega)]
    exact T_some (hQ M (fun i hi => hz i (by omega)) (fun _ _ => rfl))
  | k + 1, x, M, h0, h1, hz, hQ => by
    refine T_le eRi_follow_42_E ?_
    rw [if_pos (by omega), if_pos (by omega), w32_id (by omega) (by omega)]
    refine ri_fol2 k (x + 1) _ (by omega) (by omega) (fun i hi => ?_) (fun M' a b => hQ M' a (fun q hq => by rw [b q hq, bz_up_fn hq]))
    rw [bz_up_rk]
    split
    · rfl
    · exact hz i (by omega)
theorem ri_fol1 {Q : bz_M → Prop} : ∀ (k : Nat) (x : Int) (M : bz_M), 0 ≤ x → x + k = 80 → (∀ i : Nat, (i : Int) < x → M 292 i = 0) → (∀ M', (∀ i, i < 80 → M' 292 i = 0) → (∀ i, i < 5 → M' 293 i = 0) → (∀ q, q ≠ 292 → q ≠ 293 → M' q = M q) → Q M') → w_T (eRi_follow_21 Lg d x M) Q
  | 0, x, M, h0, h1, hz, hQ => by
    refine T_le eRi_follow_21_E ?_
    rw [if_neg (by omega)]
    exact ri_fol2 5 0 M (by omega) (by omega) (fun i hi => by omega) (fun M' a b => hQ M' (fun i hi => by rw [b 292 (by decide)]; exact hz i (by omega)) a (fun q _ h => b q h))
  | k + 1, x, M, h0, h1, hz, hQ => by
    refine T_le eRi_follow_21_E ?_
    rw [if_pos (by omega), if_pos (by omega), w32_id (by omega) (by omega)]
    refine ri_fol1 k (x + 1) _ (by omega) (by omega) (fun i hi => ?_) (fun M' a b c => hQ M' a b (fun q hq hq' => by rw [c q hq hq', bz_up_fn hq]))
    rw [bz_up_rk]
    split
    · rfl
    · exact hz i (by omega)
/-- the river ahead follows -/
theorem ri_follow (hd : 0 < d) (hv : bz_oV v) (hM : cR V S 131 148 v M) : w_T (eRi_follow Lg d M) (fun M' => cR V S 285 286 v M' ∧ (∀ i, i < 80 → M' 292 i = 0) ∧ (∀ i, i < 5 → M' 293 i = 0) ∧ ∀ q, ¬ (285 ≤ q ∧ q ≤ 293) → M' q = M q) := by
  have hvv := oV_c hv
  refine T_le (eRi_follow_E (v := v) hd) ?_
  rw [if_pos hM.1]
  obtain ⟨M1, e, a0, a1, a2, a4, af⟩ := st_copy (Lg := Lg) (d := d - 1) (s := 286) (t := 148) (M := bz_up M 285 0 (Int.ofNat v)) (by decide) (by decide) (by decide)
  refine T_run e ?_
  have kf : ∀ q, ¬ (285 ≤ q ∧ q ≤ 291) → M1 q = M q := fun q hq => by rw [af q (by omega), bz_up_fn (by omega)]
  refine ri_fol1 80 0 M1 (by omega) (by omega) (fun i hi => by omega) (fun M' b1 b2 b3 => ⟨?_, b1, b2, fun q hq => by rw [b3 q (by omega) (by omega), kf q (by omega)]⟩)
  have kf' : ∀ q, ¬ (285 ≤ q ∧ q ≤ 293) → M' q = M q := fun q hq => by rw [b3 q (by omega) (by omega), kf q (by omega)]
  refine ⟨?_, cV_co hM.2.1 (kf' _ (by omega)) (kf' _ (by omega)) (kf' _ (by omega)) (kf' _ (by omega)) (kf' _ (by omega)) (kf' _ (by omega)) (kf' _ (by omega)) (kf' _ (by omega)) (kf' _ (by omega)) (kf' _ (by omega)), ?_⟩
  · rw [b3 285 (by decide) (by decide), af 285 (by decide), bz_up_eq]; rfl
  · have e0 : cS 286 S M1 := by
      refine cS_cp (t := 148) (M := M) hM.2.2 ?_ (fun k hk => ?_) (fun k hk => ?_) (fun k hk => ?_)
      · rw [a0.1, a0.2.1, a0.2.2]; exact ⟨bz_up_nr (by decide) _, bz_up_nr (by decide) _, bz_up_nr (by decide) _⟩
      · rw [a1 k hk]; exact bz_up_nr (by decide) _
      · rw [(a2 k hk).1, (a2 k hk).2]; exact ⟨bz_up_nr (by decide) _, bz_up_nr (by decide) _⟩
      · rw [(a4 k hk).1, (a4 k hk).2]; exact ⟨bz_up_nr (by decide) _, bz_up_nr (by decide) _⟩
    exact cS_co e0 (b3 _ (by decide) (by decide)) (b3 _ (by decide) (by decide)) (b3 _ (by decide) (by decide)) (b3 _ (by decide) (by decide)) (b3 _ (by decide) (by decide)) (b3 _ (by decide) (by decide))
def aRun (V : bz_M) : Nat → (Nat → Int) → (Nat → Int) → (Nat → Int)
  | 0, _, A => A
  | n + 1, S, A => aRun V n (sPass V S) (aPass V S A)
def bRun (V : bz_M) : Nat → (Nat → Int) → (Nat → Int) → (Nat → Int)
  | 0, _, B => B
  | n + 1, S, B => bRun V n (sPass V S) (bPass V S B)
/-- what the river ahead changes -/
def fA (M M' : bz_M) : Prop := ∀ q, ¬ (cScr q ∨ (285 ≤ q ∧ q ≤ 293)) → M' q = M q
theorem fA_trans {A B C : bz_M} (h : fA A B) (g : fA B C) : fA A C := fun q hq => (g q hq).trans (h q hq)
theorem fA_refl (M : bz_M) : fA M M := fun _ _ => rfl
theorem fA_cF {M M' : bz_M} (h : cF M M') : fA M M' := fun q hq => h q (fun e => hq (Or.inl e))
theorem qC_fA {M M' : bz_M} (h : fA M M') : qC M M' := qC_of (fun q hq => h q (by omega))
/-- a season ahead -/
theorem ri_passA (hd : 3 < d) (hv : bz_oV v) (hV : vOK V) (hS : sOK V S) (h9 : S 0 ≤ 999) (hM : cR V S 285 286 v M) : w_T (eRi_pass Lg d 285 M) (fun p => cR V (sPass V S) 285 286 v p.2 ∧ p.2 292 = aPass V S (M 292) ∧ p.2 293 = bPass V S (M 293) ∧ fA M p.2 ∧ p.2 288 = M 288 ∧ p.2 290 = M 290) := by
  refine T_mono (ri_pass hd hr285 hv hV hS h9 hM) ?_
  rintro ⟨p1, p2⟩ ⟨_, _, a3, a4, a5, _, a7⟩
  exact ⟨a3, a4, a5, fun q hq => a7 q (fun e => hq (Or.inl e)) (by omega) (by omega) (by omega) (by omega) (by omega) (by omega) (by omega), a7 _ (by decide) (by decide) (by decide) (by decide) (by decide) (by decide) (by decide) (by decide), a7 _ (by decide) (by decide) (by decide) (by decide) (by decide) (by decide) (by decide) (by decide)⟩
theorem fc_behindL (hd : 4 < d) (hv : bz_oV v) (hV : vOK V) {n : Int} (hn : n ≤ 1000) : ∀ (k : Nat) (i : Int) (S : Nat → Int) (M : bz_M), sOK V S → S 0 + k ≤ 999 → cR V S 285 286 v M → 0 ≤ i → i + k = n → w_T (eFc_behind_13 Lg d n i M) (fun p => p.1 = 285 ∧ cR V (sRun V k S) 285 286 v p.2 ∧ fA M p.2)
  | 0, i, S, M, hS, h9, hM, h0, h1 => by
    refine T_le (eFc_behind_13_E (by omega)) ?_
    rw [if_neg (by omega)]
    exact T_some ⟨rfl, hM, fA_refl _⟩
  | k + 1, i, S, M, hS, h9, hM, h0, h1 => by
    have s0 := hS.1
    refine T_le (eFc_behind_13_E (by omega)) ?_
    rw [if_pos (by omega), w32_id (by omega) (by omega)]
    refine T_seq (ri_passA (by omega) hv hV hS (by omega) hM) ?_
    rintro ⟨p1, p2⟩ ⟨a1, _, _, a4, _⟩
    have hp := sPass_ok hV hS (by omega)
    refine T_mono (fc_behindL hd hv hV hn k (i + 1) (sPass V S) p2 hp.1 (by rw [hp.2]; omega) a1 (by omega) (by omega)) ?_
    rintro ⟨b1, b2⟩ ⟨c1, c2, c3⟩
    exact ⟨c1, c2, fA_trans a4 c3⟩
theorem fc_behind (hd : 4 < d) (hv : bz_oV v) (hV : vOK V) (hS : sOK V S) (hM : cR V S 131 148 v M) {n : Int} (h0 : 0 ≤ n) (h9 : S 0 + n ≤ 999) (hn : n ≤ 1000) : w_T (eFc_behind Lg d n M) (fun p => p.1 = 285 ∧ cR V (sRun V n.toNat S) 285 286 v p.2 ∧ qC M p.2) := by
  refine T_le (eFc_behind_E (by omega)) ?_
  refine T_seq (ri_follow (by omega) hv hM) ?_
  rintro M1 ⟨a1, _, _, a4⟩
  refine T_mono (fc_behindL hd hv hV hn n.toNat 0 S M1 hS (by omega) a1 (by omega) (by omega)) ?_
  rintro ⟨b1, b2⟩ ⟨c1, c2, c3⟩
  exact ⟨c1, c2, qC_trans (qC_of (fun q hq => a4 q (by omega))) (qC_fA c3)⟩
end CQ

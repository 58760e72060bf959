/-! A VALLEY IS TOLD: where the reading stands (a fault, or a piece) -/
abbrev sT : Type := (Int × Nat) ⊕ pL
section YA
variable (T : Nat → Int) (n : Nat)
def oW (i : Nat) (s : sT) : sT := match s with
  | .inl e => .inl e
  | .inr q => if isW T n i q then .inr (nx T n q) else .inl (1, q.1)
def oS (c : Int) (s : sT) : sT := match s with
  | .inl e => .inl e
  | .inr q => if isS T n c q then .inr (nx T n q) else .inl (1, q.1)
def oN (a b : Int) (s : sT) : sT × Int := match s with
  | .inl e => (.inl e, a)
  | .inr q => match tNum T n a b q with
    | .inl e => (.inl e, a)
    | .inr v => (.inr (nx T n q), v)
def cSt (s : sT) (M : bz_M) : Prop := match s with
  | .inl e => cXf n e.1 (e.2 : Int) M
  | .inr q => cX T n q M ∧ qOK T n q
def mSt2 (s : sT) (M : bz_M) : Prop := match s with
  | .inl e => mXf e.1 (e.2 : Int) M
  | .inr q => mX T n q M
end YA
def isOk (s : sT) : Prop := match s with
  | .inl _ => False
  | .inr _ => True
section YB
variable {Lg d n : Nat} {T : Nat → Int} {M M' : bz_M} {s : sT}
theorem cSt_co (h : cSt T n s M) (e : M' 123 = M 123) : cSt T n s M' := by
  cases s with
  | inl f => exact cXf_co h e
  | inr q => exact ⟨cX_co h.1 e, h.2⟩
theorem mSt_co (h : mSt2 T n s M) (e : ∀ k, k = 2 ∨ k = 3 ∨ k = 4 ∨ k = 5 ∨ k = 6 → M' 319 k = M 319 k) : mSt2 T n s M' := by
  cases s with
  | inl f =>
    have h : mXf f.1 (f.2 : Int) M := h
    show mXf f.1 (f.2 : Int) M'
    unfold mXf at h ⊢
    rw [e 5 (by decide), e 6 (by decide)]
    exact h
  | inr q => exact mX_co h e
theorem cs_W (hd : 3 < d) (hs : stC M) (ht : tb T n M) {i : Nat} (hi : i < 39) (h : cSt T n s M) : w_T (eTx_needsWord Lg d (5 + i) M) (fun M' => cSt T n (oW T n i s) M' ∧ fT M M') := by
  cases s with
  | inl e => exact tx_nw_f (by omega) h
  | inr q =>
    show w_T _ (fun M' => cSt T n (if isW T n i q then .inr (nx T n q) else .inl (1, q.1)) M' ∧ fT M M')
    by_cases c : isW T n i q
    · rw [if_pos c]
      exact T_mono (tx_nw1 hd hs ht h.2 h.1 hi c) (fun M' hh => ⟨⟨hh.1, nx_ok h.2⟩, hh.2⟩)
    · rw [if_neg c]
      exact tx_nw0 (by omega) h.1 hi c
theorem cs_S (hd : 3 < d) (hs : stC M) (ht : tb T n M) {c : Int} (hc : 0 ≤ c ∧ c < 128) (h : cSt T n s M) : w_T (eTx_needsSign Lg d c M) (fun M' => cSt T n (oS T n c s) M' ∧ fT M M') := by
  cases s with
  | inl e => exact tx_ns_f (by omega) h
  | inr q =>
    show w_T _ (fun M' => cSt T n (if isS T n c q then .inr (nx T n q) else .inl (1, q.1)) M' ∧ fT M M')
    by_cases c1 : isS T n c q
    · rw [if_pos c1]
      exact T_mono (tx_ns1 hd hs ht h.2 h.1 hc c1) (fun M' hh => ⟨⟨hh.1, nx_ok h.2⟩, hh.2⟩)
    · rw [if_neg c1]
      exact tx_ns0 (by omega) ht h.1 hc c1
theorem cs_N (hd : 3 < d) (hs : stC M) (ht : tb T n M) {a b : Int} (h : cSt T n s M) : w_T (eTx_takesNumber Lg d a b M) (fun p => p.1 = (oN T n a b s).2 ∧ cSt T n (oN T n a b s).1 p.2 ∧ fT M p.2) := by
  cases s with
  | inl e => exact tx_num_f (by omega) h
  | inr q =>
    refine T_mono (tx_num hd hs ht h.2 h.1) ?_
    rintro ⟨p1, p2⟩ ⟨e1, e2⟩
    show p1 = (match tNum T n a b q with | .inl e => ((.inl e, a) : sT × Int) | .inr v => (.inr (nx T n q), v)).2 ∧ cSt T n (match tNum T n a b q with | .inl e => ((.inl e, a) : sT × Int) | .inr v => (.inr (nx T n q), v)).1 p2 ∧ fT M p2
    cases hv : tNum T n a b q with
    | inl e => rw [hv] at e1; exact ⟨e1.1, e1.2, e2⟩
    | inr v => rw [hv] at e1; exact ⟨e1.1, ⟨e1.2, nx_ok h.2⟩, e2⟩
theorem oN_in {a b : Int} (h : isOk (oN T n a b s).1) : a ≤ (oN T n a b s).2 ∧ (oN T n a b s).2 ≤ b := by
  cases s with
  | inl e => exact absurd h (fun h => h)
  | inr q =>
    revert h
    show isOk (match tNum T n a b q with | .inl e => ((.inl e, a) : sT × Int) | .inr v => (.inr (nx T n q), v)).1 → a ≤ (match tNum T n a b q with | .inl e => ((.inl e, a) : sT × Int) | .inr v => (.inr (nx T n q), v)).2 ∧ (match tNum T n a b q with | .inl e => ((.inl e, a) : sT × Int) | .inr v => (.inr (nx T n q), v)).2 ≤ b
    cases hv : tNum T n a b q with
    | inl e => exact fun h => absurd h (fun h => h)
    | inr v => exact fun _ => (tNum_in hv).1
/-- also with a fault the class's number is at least the least -/
theorem oN_rg {a b : Int} (hab : a ≤ b) : a ≤ (oN T n a b s).2 ∧ (oN T n a b s).2 ≤ b := by
  cases s with
  | inl e => exact ⟨Int.le_refl a, hab⟩
  | inr q =>
    show a ≤ (match tNum T n a b q with | .inl e => ((.inl e, a) : sT × Int) | .inr v => (.inr (nx T n q), v)).2 ∧ (match tNum T n a b q with | .inl e => ((.inl e, a) : sT × Int) | .inr v => (.inr (nx T n q), v)).2 ≤ b
    cases hv : tNum T n a b q with
    | inl e => exact ⟨Int.le_refl a, hab⟩
    | inr v => exact (tNum_in hv).1
theorem ok_N {a b : Int} (h : isOk (oN T n a b s).1) : isOk s := by
  cases s with
  | inl e => exact h
  | inr q => trivial
theorem ok_W {i : Nat} (h : isOk (oW T n i s)) : isOk s := by
  cases s with
  | inl e => exact h
  | inr q => trivial
theorem ok_S {c : Int} (h : isOk (oS T n c s)) : isOk s := by
  cases s with
  | inl e => exact h
  | inr q => trivial
theorem ms_W (hd : 2 < d) {r : Nat} (hr : isR r) (hs : stM M) (ht : mt T n M) (h : mSt2 T n s M) : w_T (eMo_asks Lg d r M) (fun M' => mSt2 T n (oW T n (rI r) s) M' ∧ gX M M') := by
  cases s with
  | inl e => exact T_eq (mo_as_f (by omega) h) ⟨h, gX_refl M⟩
  | inr q =>
    show w_T _ (fun M' => mSt2 T n (if isW T n (rI r) q then .inr (nx T n q) else .inl (1, q.1)) M' ∧ gX M M')
    by_cases c : isW T n (rI r) q
    · rw [if_pos c]
      exact mo_as1 hd hr hs ht h c
    · rw [if_neg c]
      exact mo_as0 hd hr hs ht h c
theorem ms_S (hd : 1 < d) (ht : mt T n M) {c : Int} (h0 : 0 ≤ c) (h1 : ¬ (97 ≤ c ∧ c ≤ 122)) (h2 : ¬ (48 ≤ c ∧ c ≤ 57)) (h : mSt2 T n s M) : w_T (eMo_asksSign Lg d c M) (fun M' => mSt2 T n (oS T n c s) M' ∧ gX M M') := by
  cases s with
  | inl e => exact T_eq (mo_asg_f (by omega) h) ⟨h, gX_refl M⟩
  | inr q =>
    show w_T _ (fun M' => mSt2 T n (if isS T n c q then .inr (nx T n q) else .inl (1, q.1)) M' ∧ gX M M')
    by_cases c1 : isS T n c q
    · rw [if_pos c1]
      exact mo_asg1 hd ht h h0 h1 h2 c1
    · rw [if_neg c1]
      exact mo_asg0 hd ht h h0 h1 h2 c1
def sPc (s : sT) : Int := match s with
  | .inl _ => 0
  | .inr q => (q.1 : Int)
theorem ms_N (hd : 0 < d) (ht : mt T n M) {a b : Int} (h : mSt2 T n s M) : w_T (eMo_number Lg d a b M) (fun p => (isOk (oN T n a b s).1 → p.1 = (oN T n a b s).2 ∧ p.2 319 10 = sPc s) ∧ (0 ≤ p.1 ∧ p.1 ≤ 9999 ∨ isOk (oN T n a b s).1) ∧ mSt2 T n (oN T n a b s).1 p.2 ∧ gX M p.2) := by
  cases s with
  | inl e => exact T_eq (mo_num_f hd h) ⟨fun h => absurd h (fun h => h), Or.inl (show (0 : Int) ≤ 0 ∧ (0 : Int) ≤ 9999 by decide), h, gX_refl M⟩
  | inr q =>
    refine T_mono (mo_num hd ht h) ?_
    rintro ⟨p1, p2⟩ ⟨e1, e2⟩
    dsimp only at e2 ⊢
    show (isOk (match tNum T n a b q with | .inl e => ((.inl e, a) : sT × Int) | .inr v => (.inr (nx T n q), v)).1 → p1 = (match tNum T n a b q with | .inl e => ((.inl e, a) : sT × Int) | .inr v => (.inr (nx T n q), v)).2 ∧ p2 319 10 = (q.1 : Int)) ∧ (0 ≤ p1 ∧ p1 ≤ 9999 ∨ isOk (match tNum T n a b q with | .inl e => ((.inl e, a) : sT × Int) | .inr v => (.inr (nx T n q), v)).1) ∧ mSt2 T n (match tNum T n a b q with | .inl e => ((.inl e, a) : sT × Int) | .inr v => (.inr (nx T n q), v)).1 p2 ∧ gX M p2
    cases hv : tNum T n a b q with
    | inl e => rw [hv] at e1; exact ⟨fun h => absurd h (fun h => h), Or.inl e1.1, e1.2, e2⟩
    | inr v => rw [hv] at e1; exact ⟨fun _ => ⟨e1.1, e1.2.2⟩, Or.inr trivial, e1.2.1, e2⟩
theorem mSt_bad (h : mSt2 T n s M) : M 319 5 = 0 ↔ isOk s := by
  cases s with
  | inl e =>
    have h : mXf e.1 (e.2 : Int) M := h
    exact ⟨fun e5 => absurd (h.1.symm.trans e5) h.2.1, fun h => absurd h (fun h => h)⟩
  | inr q =>
    have h : mX T n q M := h
    exact ⟨fun _ => trivial, fun _ => h.2.2.2.2.2.1⟩
end YB

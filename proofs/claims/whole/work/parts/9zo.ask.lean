/-! SIM: ask: the class reads a question -/
def qFin (n : Nat) (k : Int) (o : pR) : (Int × Nat) ⊕ (Int × List Int) := match o with
  | none => .inl (1, 0)
  | some (.inl e) => .inl e
  | some (.inr p) => if n ≤ p.1.1 then .inr (k, p.2) else .inl (1, p.1.1)
section AQ
variable (T : Nat → Int) (n : Nat)
def q0 : pL := nxq T n 0 false
def qW : Nat := (tW T n (q0 T n)).toNat
def qNt : Nat := if qW T n ≤ 40 then 9 else 3
def qAsk : (Int × Nat) ⊕ (Int × List Int) := if 38 ≤ qW T n ∧ qW T n ≤ 43 then qFin n (((qW T n : Nat) : Int) - 38) (rd T n 8 (12 * n + 60) (qNt T n) 0 (nx T n (q0 T n))) else .inl (1, (q0 T n).1)
end AQ
def cQp (R : (Int × Nat) ⊕ (Int × List Int)) (M : bz_M) (p : Int × bz_M) : Prop := (∀ r, r ≠ 123 → r ≠ 125 → r ≠ 126 → r ≠ 127 → r ≠ 130 → p.2 r = M r) ∧ (∀ e, R = .inl e → p.1 = 0 ∧ p.2 123 6 = e.1 ∧ p.2 123 7 = (e.2 : Int)) ∧ ∀ k cs, R = .inr (k, cs) → p.1 = 1 ∧ p.2 123 6 = 0 ∧ p.2 123 7 = -1 ∧ p.2 125 2 = 38 + k ∧ cC 126 cs p.2
section TI
variable {Lg d n : Nat} {T : Nat → Int} {M M1 M2 : bz_M}
theorem q0_ok : qOK T n (q0 T n) := nxq_ok (Nat.zero_le _)
theorem q0_2 : (q0 T n).2 = false := by unfold q0 nxq; rw [Bool.and_false]
theorem q0_D : tD T n (q0 T n) = tK T n (q0 T n).1 := by
  unfold tD
  rw [if_neg (fun h => by rw [q0_2] at h; exact absurd h.1 (by decide))]
theorem qW_is : tW T n (q0 T n) = ((qW T n : Nat) : Int) ∧ (qW T n = 0 ∨ (5 ≤ qW T n ∧ qW T n < 44)) := by
  unfold qW tW
  split
  · split
    · rw [Int.toNat_natCast]
      exact ⟨rfl, Or.inr (by omega)⟩
    · exact ⟨rfl, Or.inl rfl⟩
  · exact ⟨rfl, Or.inl rfl⟩
theorem qW_isW {i : Nat} (hi : i < 39) : isW T n i (q0 T n) ↔ qW T n = 5 + i := by
  unfold isW
  rw [q0_D]
  unfold qW tW
  by_cases c : tK T n (q0 T n).1 = 1
  · rw [if_pos c]
    by_cases c2 : wd T n (q0 T n).1 < 39
    · rw [if_pos c2, Int.toNat_natCast]
      constructor
      · intro h; omega
      · intro h; exact ⟨c, by omega⟩
    · rw [if_neg c2]
      constructor
      · intro h; omega
      · intro h; exact absurd h (by show ¬ (0 : Nat) = 5 + i; omega)
  · rw [if_neg c]
    constructor
    · intro h; exact absurd h.1 c
    · intro h; exact absurd h (by show ¬ (0 : Nat) = 5 + i; omega)
theorem kd_w {w : Nat} (h : w = 0 ∨ (5 ≤ w ∧ w < 44)) : w = 0 ∨ bz_kd Lg w = some (.inl 12) := by
  rcases h with h | h
  · exact Or.inl h
  · have key : ∀ i, i < 39 → bz_kd 0 (5 + i) = some (.inl 12) := by decide
    have := key (w - 5) (by omega)
    rw [show 5 + (w - 5) = w by omega] at this
    exact Or.inr ((bz_kd_Lg (by omega)).trans this)
theorem qu_150 {a b : Int} (h6 : M 123 6 = a) (h7 : M 123 7 = b) : w_T (eQu_read_150 Lg d M) (fun p => p = ((if a = 0 then 1 else 0), M)) := by
  refine T_le eQu_read_150_E ?_
  rw [h6]
  by_cases c : a = 0
  · rw [if_pos c, if_pos c]; exact T_some rfl
  · rw [if_neg c, if_neg c]; exact T_some rfl
/-- a code is read, and nothing may stand behind it -/
theorem qu_rd {nt : Nat} (hnt : nt = 9 ∨ nt = 3) (hd : 40 < d) (hs : stC M) (ht : tb T n M) (hX : cX T n (q0 T n) M) (hk : tD T n (q0 T n) = 1) {G : bz_M → Option (Int × bz_M)} {Q : Int × bz_M → Prop} (hQ : ∀ M3 out, rd T n 8 (12 * n + 60) nt 0 (nx T n (q0 T n)) = some out → cOut T n 126 [] out M3 → (∀ r, r ≠ 123 → r ≠ 126 → r ≠ 127 → r ≠ 130 → M3 r = M r) → w_T (G M3) Q) : w_T ((eTx_step Lg (d - 1) M).bind (fun M1 => ((if nt = 9 then eGr_readTest Lg (d - 1) 126 8 else eGr_readSum Lg (d - 1) 126 8) M1).bind G)) Q := by
  have hn := ht.1
  refine T_seq (tx_step (by omega) hs ht q0_ok hX (by rw [hk]; decide)) ?_
  rintro M1 ⟨a1, b1⟩
  have hc5 : bz_oC 126 := by decide
  have tot := rd_total (T := T) (n := n) (w := 8) (Or.inr (Or.inr rfl)) (12 * n + 60) nt 0 (nx T n (q0 T n)) (by omega) (by decide) (nx_ok q0_ok) (by omega)
  obtain ⟨out, ho⟩ := Option.ne_none_iff_exists'.mp tot
  have all := cg_all (Lg := Lg) (T := T) (n := n) (w := 8) (Or.inr (Or.inr rfl)) hc5 (12 * n + 60)
  have key : w_T ((if nt = 9 then eGr_readTest Lg (d - 1) 126 8 else eGr_readSum Lg (d - 1) 126 8) M1) (fun M3 => cOut T n 126 [] out M3 ∧ ∀ r, r ≠ 123 → r ≠ 126 → r ≠ 127 → r ≠ 130 → M3 r = M r) := by
    generalize hM2 : bz_up (bz_up (bz_up M1 126 2 0) 130 1 (Int.ofNat 126)) 130 2 8 = M2
    have k2 : ∀ r, r ≠ 126 → r ≠ 130 → M2 r = M1 r := fun r x1 x2 => by rw [← hM2, bz_up_fn x2, bz_up_fn x2, bz_up_fn x1]
    have hP : cPre T n 8 126 [] (nx T n (q0 T n)) M2 := by
      refine ⟨cX_co a1 (k2 123 (by decide) (by decide)), ⟨?_, trivial⟩, Nat.zero_le _, nx_ok q0_ok, fun r k x1 x2 => ?_, tb_co ht ?_, ?_, ?_⟩
      · rw [← hM2, bz_up_nr (by decide), bz_up_nr (by decide), bz_up_eq]; rfl
      · rw [k2 r (by omega) (by omega), b1 r (by omega)]; exact hs r k x1 x2
      · rw [k2 124 (by decide) (by decide)]; exact b1 124 (by decide)
      · rw [← hM2, bz_up_nk (by decide), bz_up_eq]; rfl
      · rw [← hM2, bz_up_eq]
    have fin : ∀ M3, cPost T n 126 [] M2 out M3 → cOut T n 126 [] out M3 ∧ ∀ r, r ≠ 123 → r ≠ 126 → r ≠ 127 → r ≠ 130 → M3 r = M r := fun M3 h => ⟨h.2, fun r x1 x2 x3 x4 => by rw [h.1 r x1 x2 x3, k2 r x2 x4, b1 r x1]⟩
    rcases hnt with rfl | rfl
    · rw [if_pos rfl]
      refine T_le (eGr_readTest_E (by omega) hc5) ?_
      refine T_run (eCd_clear_E hc5 _ rfl) ?_
      rw [hM2]
      refine T_seq (all.2.2.2.2.2.1 (d - 1 - 1) 0 (nx T n (q0 T n)) M2 [] out (by omega) (by decide) hP ho) ?_
      intro M3 h
      exact T_some (fin M3 h)
    · rw [if_neg (by decide)]
      refine T_le (eGr_readSum_E (by omega) hc5) ?_
      refine T_run (eCd_clear_E hc5 _ rfl) ?_
      rw [hM2]
      refine T_seq (all.1.2.2.2.1 (d - 1 - 1) 0 (nx T n (q0 T n)) M2 [] out (by omega) (by decide) hP ho) ?_
      intro M3 h
      exact T_some (fin M3 h)
  refine T_seq key ?_
  rintro M3 ⟨h1, h2⟩
  exact hQ M3 out ho h1 h2
theorem c_qread (hd : 41 < d) (hs : stC M) (ht : tb T n M) (h1 : M 123 1 = (n : Int)) : w_T (eQu_read Lg d M) (cQp (qAsk T n) M) := by
  have hn := ht.1
  refine T_le (eQu_read_E (by omega)) ?_
  refine T_seq (tx_begin (by omega) hs ht h1) ?_
  rintro M1 ⟨hX, b1⟩
  have hX : cX T n (q0 T n) M1 := hX
  obtain ⟨w1, w2⟩ := qW_is (T := T) (n := n)
  have e5 : M1 123 5 = ((qW T n : Nat) : Int) := hX.2.2.2.2.1.trans w1
  have kw := kd_w (Lg := Lg) w2
  have eN : Int.ofNat (Int.toNat (M1 123 5)) = ((qW T n : Nat) : Int) := by rw [e5, Int.toNat_natCast]; rfl
  rw [eN, Int.toNat_natCast]
  generalize hM2 : bz_up M1 125 2 ((qW T n : Nat) : Int) = M2
  have k2 : ∀ r, r ≠ 125 → M2 r = M1 r := fun r hr => by rw [← hM2, bz_up_fn hr]
  have e25 : M2 125 2 = ((qW T n : Nat) : Int) := by rw [← hM2, bz_up_eq]
  have hX2 : cX T n (q0 T n) M2 := cX_co hX (k2 123 (by decide))
  have hs2 : stC M2 := fun r k x1 x2 => by rw [k2 r (by omega), b1 r (by omega)]; exact hs r k x1 x2
  have ht2 : tb T n M2 := tb_co ht (by rw [k2 124 (by decide)]; exact b1 124 (by decide))
  have fr2 : ∀ r, r ≠ 123 → r ≠ 125 → M2 r = M r := fun r x y => by rw [k2 r y, b1 r x]
  have gd : ∀ x, bz_kd Lg x = some (.inl 12) → (qW T n = 0 ∨ bz_kd Lg (qW T n) = some (.inl 12)) ∧ (x = 0 ∨ bz_kd Lg x = some (.inl 12)) := fun x hx => ⟨kw, Or.inr hx⟩
  -- the tail: what stands behind
  have tail : ∀ (y0 y1 : Int), ¬ (y0 = 0 ∧ y1 = 0) → 38 ≤ qW T n → qW T n ≤ 43 → ∀ M3 out, rd T n 8 (12 * n + 60) (qNt T n) 0 (nx T n (q0 T n)) = some out → cOut T n 126 [] out M3 → (∀ r, r ≠ 123 → r ≠ 126 → r ≠ 127 → r ≠ 130 → M3 r = M2 r) → w_T (eQu_read_125 Lg d y0 y1 M3) (cQp (qAsk T n) M) := by
    intro y0 y1 hy g1 g2 M3 out ho hc fr
    have fr3 : ∀ r, r ≠ 123 → r ≠ 125 → r ≠ 126 → r ≠ 127 → r ≠ 130 → M3 r = M r := fun r x1 x2 x3 x4 x5 => by rw [fr r x1 x3 x4 x5, fr2 r x1 x2]
    have e25' : M3 125 2 = ((qW T n : Nat) : Int) := by rw [fr 125 (by decide) (by decide) (by decide) (by decide)]; exact e25
    have eA : qAsk T n = qFin n (((qW T n : Nat) : Int) - 38) (some out) := by
      unfold qAsk
      rw [if_pos ⟨g1, g2⟩, ho]
    have sel : ∀ Q : Int × bz_M → Prop, w_T (if M3 123 2 = 0 then eQu_read_150 Lg d M3 else ((eTx_fail Lg (d - 1) 1 (M3 123 3) M3).bind (fun M2 => (eQu_read_150 Lg d M2)))) Q → w_T (eQu_read_125 Lg d y0 y1 M3) Q := fun Q hQ => by
      refine T_le (eQu_read_125_E (by omega)) ?_
      by_cases c0 : y0 = 0
      · rw [if_pos c0, if_neg (fun x => hy ⟨c0, x⟩)]; exact hQ
      · rw [if_neg c0]; exact hQ
    refine sel _ ?_
    cases out with
    | inl e =>
      have hc : cFx n 126 e.1 (e.2 : Int) M3 := hc
      have eA : qAsk T n = .inl e := eA
      rw [eA, if_neg (by rw [hc.1.2.1]; decide)]
      refine T_seq (tx_fail_f hc.1) ?_
      rintro M4 ⟨f1, f2⟩
      refine T_mono (qu_150 f1.2.2.2.1 f1.2.2.2.2.2) ?_
      rintro p rfl
      refine ⟨fun r x1 x2 x3 x4 x5 => by dsimp only; rw [f2 r x1]; exact fr3 r x1 x2 x3 x4 x5, fun e' he => ?_, fun k cs he => by cases he⟩
      cases he
      exact ⟨if_neg f1.2.2.2.2.1, f1.2.2.2.1, f1.2.2.2.2.2⟩
    | inr p =>
      have hc : cX T n p.1 M3 ∧ cC 126 ([] ++ p.2) M3 := hc
      rw [List.nil_append] at hc
      have eA : qAsk T n = if n ≤ p.1.1 then .inr (((qW T n : Nat) : Int) - 38, p.2) else .inl (1, p.1.1) := eA
      rw [eA]
      by_cases ce : n ≤ p.1.1
      · rw [if_pos ce, if_pos (by rw [hc.1.2.2.2.1]; exact tD_0.mpr ce)]
        refine T_mono (qu_150 hc.1.2.2.2.2.2.1 hc.1.2.2.2.2.2.2) ?_
        rintro p' rfl
        refine ⟨fr3, fun e he => (by cases he), fun k cs he => ?_⟩
        cases he
        refine ⟨rfl, hc.1.2.2.2.2.2.1, hc.1.2.2.2.2.2.2, ?_, hc.2⟩
        dsimp only; rw [e25']; omega
      · rw [if_neg ce, if_neg (by rw [hc.1.2.2.2.1]; exact fun x => ce (tD_0.mp x)), hc.1.2.1]
        refine T_seq (tx_fail hc.1 (by decide)) ?_
        rintro M4 ⟨f1, f2⟩
        refine T_mono (qu_150 f1.2.2.2.1 f1.2.2.2.2.2) ?_
        rintro p' rfl
        refine ⟨fun r x1 x2 x3 x4 x5 => by dsimp only; rw [f2 r x1]; exact fr3 r x1 x2 x3 x4 x5, fun e' he => ?_, fun k cs he => by cases he⟩
        cases he
        exact ⟨rfl, f1.2.2.2.1, f1.2.2.2.2.2⟩
  have k47 : ∀ (y0 y1 : Int) (Q : Int × bz_M → Prop), (y1 = if qW T n = 41 ∨ qW T n = 42 ∨ qW T n = 43 then 1 else 0) → w_T (eQu_read_83 Lg d y0 y1 M2) Q → w_T (eQu_read_47 Lg d y0 M2) Q := fun y0 y1 Q hy hQ => by
    refine T_le eQu_read_47_E ?_
    rw [e25, Int.toNat_natCast, if_pos (gd 41 rfl), if_pos (gd 42 rfl), if_pos (gd 43 rfl)]
    by_cases c1 : qW T n = 41
    · rw [if_pos (Or.inl c1)] at hy
      rw [if_pos c1, ← hy]; exact hQ
    rw [if_neg c1]
    by_cases c2 : qW T n = 42
    · rw [if_pos (Or.inr (Or.inl c2))] at hy
      rw [if_pos c2, ← hy]; exact hQ
    rw [if_neg c2]
    by_cases c3 : qW T n = 43
    · rw [if_pos (Or.inr (Or.inr c3))] at hy
      rw [if_pos c3, ← hy]; exact hQ
    rw [if_neg (by omega)] at hy
    rw [if_neg c3, ← hy]; exact hQ
  have test : ∀ y1 : Int, 38 ≤ qW T n → qW T n ≤ 40 → w_T (eQu_read_83 Lg d 1 y1 M2) (cQp (qAsk T n) M) := fun y1 g1 g2 => by
    have hW : isW T n (qW T n - 5) (q0 T n) := (qW_isW (by omega)).mpr (by omega)
    have e9 : qNt T n = 9 := if_pos g2
    refine T_le (eQu_read_83_E (by omega)) ?_
    rw [if_neg (by decide)]
    exact qu_rd (nt := 9) (Or.inl rfl) (by omega) hs2 ht2 hX2 hW.1 (fun M3 out ho hc fr => tail 1 y1 (by omega) (by omega) (by omega) M3 out (by rw [e9]; exact ho) hc fr)
  rw [if_pos (gd 38 rfl), if_pos (gd 39 rfl), if_pos (gd 40 rfl)]
  by_cases c1 : qW T n = 38
  · rw [if_pos c1]
    exact k47 1 0 _ (by rw [if_neg (by omega)]) (test 0 (by omega) (by omega))
  rw [if_neg c1]
  by_cases c2 : qW T n = 39
  · rw [if_pos c2]
    exact k47 1 0 _ (by rw [if_neg (by omega)]) (test 0 (by omega) (by omega))
  rw [if_neg c2]
  by_cases c3 : qW T n = 40
  · rw [if_pos c3]
    exact k47 1 0 _ (by rw [if_neg (by omega)]) (test 0 (by omega) (by omega))
  rw [if_neg c3]
  by_cases c4 : 38 ≤ qW T n ∧ qW T n ≤ 43
  · refine k47 0 1 _ (by rw [if_pos (by omega)]) ?_
    have hW : isW T n (qW T n - 5) (q0 T n) := (qW_isW (by omega)).mpr (by omega)
    have e3 : qNt T n = 3 := if_neg (by omega)
    refine T_le (eQu_read_83_E (by omega)) ?_
    rw [if_pos rfl, if_neg (by decide)]
    exact qu_rd (nt := 3) (Or.inr rfl) (by omega) hs2 ht2 hX2 hW.1 (fun M3 out ho hc fr => tail 0 1 (by omega) (by omega) (by omega) M3 out (by rw [e3]; exact ho) hc fr)
  · refine k47 0 0 _ (by rw [if_neg (by omega)]) ?_
    refine T_le (eQu_read_83_E (by omega)) ?_
    rw [if_pos rfl, if_pos rfl]
    refine T_le (eQu_read_125_E (by omega)) ?_
    rw [if_pos rfl, if_pos rfl, hX2.2.1]
    have eA : qAsk T n = .inl (1, (q0 T n).1) := by
      unfold qAsk
      rw [if_neg c4]
    rw [eA]
    refine T_seq (tx_fail hX2 (by decide)) ?_
    rintro M4 ⟨f1, f2⟩
    refine T_mono (qu_150 f1.2.2.2.1 f1.2.2.2.2.2) ?_
    rintro p' rfl
    refine ⟨fun r x1 x2 x3 x4 x5 => by dsimp only; rw [f2 r x1]; exact fr2 r x1 x2, fun e' he => ?_, fun k cs he => by cases he⟩
    cases he
    exact ⟨rfl, f1.2.2.2.1, f1.2.2.2.2.2⟩
end TI

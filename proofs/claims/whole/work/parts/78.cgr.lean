/-! THE CLASS READS SUMS AND TESTS -/
def cPre (T : Nat → Int) (n : Nat) (w : Int) (c : Nat) (cs : List Int) (q : pL) (M : bz_M) : Prop := cX T n q M ∧ cC c cs M ∧ cs.length ≤ q.1 ∧ qOK T n q ∧ stC M ∧ tb T n M ∧ M 130 1 = (c : Int) ∧ M 130 2 = w
def cFr (c : Nat) (M M' : bz_M) : Prop := ∀ r, r ≠ 123 → r ≠ c → r ≠ c + 1 → M' r = M r
def cFx (n c : Nat) (k pl : Int) (M : bz_M) : Prop := cXf n k pl M ∧ (0 ≤ M c 2 ∧ M c 2 ≤ 1600) ∧ M 130 1 = (c : Int)
def cOut (T : Nat → Int) (n c : Nat) (cs : List Int) (out : pO) (M' : bz_M) : Prop := match out with
  | .inl e => cFx n c e.1 (e.2 : Int) M'
  | .inr p => cX T n p.1 M' ∧ cC c (cs ++ p.2) M'
def cPost (T : Nat → Int) (n c : Nat) (cs : List Int) (M : bz_M) (out : pO) (M' : bz_M) : Prop := cFr c M M' ∧ cOut T n c cs out M'
theorem cFr_refl (c : Nat) (M : bz_M) : cFr c M M := fun _ _ _ _ => rfl
theorem cFr_trans {c : Nat} {A B C : bz_M} (h : cFr c A B) (g : cFr c B C) : cFr c A C := fun r a b e => (g r a b e).trans (h r a b e)
theorem cFr_fT {c : Nat} {A B : bz_M} (h : fT A B) : cFr c A B := fun r a _ _ => h r a
theorem cFr_put {c : Nat} {A B : bz_M} (h : ∀ r, r ≠ c → r ≠ c + 1 → B r = A r) : cFr c A B := fun r _ b e => h r b e
section CG
variable {Lg n c : Nat} {T : Nat → Int} {w : Int} {M M' : bz_M} {q : pL} {cs : List Int}
theorem pre_next (hc : bz_oC c) (hP : cPre T n w c cs q M) (f : cFr c M M') {q1 : pL} {c1 : List Int} (hx : cX T n q1 M') (hcc : cC c (cs ++ c1) M') (hl : c1.length + q.1 ≤ q1.1) (hq : qOK T n q1) : cPre T n w c (cs ++ c1) q1 M' := by
  have h := oC_c hc
  obtain ⟨a1, a2, a3, a4, a5, a6, a7, a8⟩ := hP
  exact ⟨hx, hcc, by rw [List.length_append]; omega, hq, fun r k h1 h2 => by rw [f r (by omega) (by omega) (by omega)]; exact a5 r k h1 h2, tb_co a6 (f 124 (by decide) (by omega) (by omega)), by rw [f 130 (by decide) (by omega) (by omega)]; exact a7, by rw [f 130 (by decide) (by omega) (by omega)]; exact a8⟩
theorem pre_T (hc : bz_oC c) (hP : cPre T n w c cs q M) (f : fT M M') {q1 : pL} (hx : cX T n q1 M') (hl : q.1 ≤ q1.1) (hq : qOK T n q1) : cPre T n w c cs q1 M' := by
  have h := oC_c hc
  have := pre_next hc hP (cFr_fT f) (c1 := []) hx (by rw [List.append_nil]; unfold cC; rw [f c (by omega), f (c + 1) (by omega)]; exact hP.2.1) (by simpa using hl) hq
  rw [List.append_nil] at this
  exact this
theorem pre_nx (hc : bz_oC c) (hP : cPre T n w c cs q M) (f : fT M M') (hx : cX T n (nx T n q) M') : cPre T n w c cs (nx T n q) M' := by
  have h1 := nx_le hP.2.2.2.1
  have h2 := (te_all (T := T) hP.2.2.2.1.1).1
  exact pre_T hc hP f hx (by omega) (nx_ok hP.2.2.2.1)
theorem fx_of (hc : bz_oC c) (hP : cPre T n w c cs q M) (f : fT M M') {k pl : Int} (hx : cXf n k pl M') : cFx n c k pl M' := by
  have h := oC_c hc
  have hn := hP.2.2.2.2.2.1.1
  have hq := hP.2.2.2.1.1
  have hl := hP.2.2.1
  have h2 := hP.2.1.1
  refine ⟨hx, ?_, by rw [f 130 (by decide)]; exact hP.2.2.2.2.2.2.1⟩
  rw [f c (by omega), h2]
  omega
theorem fx_T (hc : bz_oC c) {k pl : Int} (h : cFx n c k pl M) (f : fT M M') (hx : cXf n k pl M') : cFx n c k pl M' := by
  have h' := oC_c hc
  exact ⟨hx, by rw [f c (by omega)]; exact h.2.1, by rw [f 130 (by decide)]; exact h.2.2⟩
theorem fx_put {d : Nat} (hc : bz_oC c) {k pl a : Int} (h : cFx n c k pl M) : w_T (eCd_put Lg d c a M) (fun M' => cFx n c k pl M' ∧ cFr c M M') := by
  have h' := oC_c hc
  refine T_mono (cd_put_f hc h.2.1) ?_
  rintro M1 ⟨a1, a2⟩
  exact ⟨⟨cXf_co h.1 (a2 123 (by omega) (by omega)), a1, by rw [a2 130 (by omega) (by omega)]; exact h.2.2⟩, cFr_put a2⟩
theorem ok_put {d : Nat} (hc : bz_oC c) (hP : cPre T n w c cs q M) {op : Int} (hl : cs.length < q.1) : w_T (eCd_put Lg d c (pBk op) M) (fun M' => cPre T n w c (cs ++ [op]) q M' ∧ cFr c M M') := by
  have h := oC_c hc
  have hn := hP.2.2.2.2.2.1.1
  have hq := hP.2.2.2.1.1
  refine T_mono (cd_put hc hP.2.1 (by omega)) ?_
  rintro M1 ⟨a1, a2⟩
  obtain ⟨b1, b2, b3, b4, b5, b6, b7, b8⟩ := hP
  refine ⟨⟨cX_co b1 (a2 123 (by omega) (by omega)), a1, by simp; omega, b4, fun r k h1 h2 => by rw [a2 r (by omega) (by omega)]; exact b5 r k h1 h2, tb_co b6 (a2 124 (by omega) (by omega)), by rw [a2 130 (by omega) (by omega)]; exact b7, by rw [a2 130 (by omega) (by omega)]; exact b8⟩, cFr_put a2⟩
/-! behind a fault -/
theorem fx_p7 {d : Nat} {o i k pl : Int} (hd : 0 < d) (h : cXf n k pl M) : eGr_product_7 Lg d o i M = some M := by
  refine eGr_product_7_E hd _ ?_
  split
  · simp only [tx_isSign_f h, Option.bind_some, ↓reduceIte]
  · rfl
theorem fx_s7 {d : Nat} {o i k pl : Int} (hd : 0 < d) (h : cXf n k pl M) : eGr_sum_7 Lg d o i M = some M := by
  refine eGr_sum_7_E hd _ ?_
  split
  · simp only [tx_isSign_f h, Option.bind_some, ↓reduceIte]
  · rfl
theorem fx_b7 {d : Nat} {o i k pl : Int} (hd : 1 < d) (hc : bz_oC c) (h : cXf n k pl M) : eGr_both_7 Lg d o i M = some M := by
  refine eGr_both_7_E (c := c) (by omega) hc _ ?_
  split
  · rw [tx_tw_f (by omega) h]
    rfl
  · rfl
theorem fx_t7 {d : Nat} {o i k pl : Int} (hd : 1 < d) (hc : bz_oC c) (h : cXf n k pl M) : eGr_test_7 Lg d o i M = some M := by
  refine eGr_test_7_E (c := c) (by omega) hc _ ?_
  split
  · rw [tx_tw_f (by omega) h]
    rfl
  · rfl
theorem fx_part {d : Nat} {o k pl : Int} (hd : 2 < d) (hc : bz_oC c) (h : cFx n c k pl M) : w_T (eGr_part Lg d o M) (fun M' => cFx n c k pl M' ∧ fT M M') := by
  refine T_le (eGr_part_E (c := c) (by omega) hc) ?_
  rw [h.1.2.1, if_neg (by decide)]
  refine T_run (tx_isSign_f h.1) ?_
  dsimp only
  rw [if_pos rfl]
  refine T_run (tx_tw_f (by omega) h.1) ?_
  dsimp only
  rw [if_pos rfl]
  refine T_run (tx_tw_f (by omega) h.1) ?_
  dsimp only
  rw [if_pos rfl]
  refine T_run (tx_fact_f (by omega) h.1) ?_
  dsimp only
  rw [if_pos rfl]
  have fin : w_T ((eTx_fail Lg (d - 1) 1 (M 123 3) M).bind (fun M2 => some M2)) (fun M' => cFx n c k pl M' ∧ fT M M') := by
    refine T_seq (tx_fail_f h.1) ?_
    rintro M1 ⟨a, b⟩
    exact T_some ⟨fx_T hc h b a, b⟩
  refine T_ite (fun _ => ?_) (fun _ => fin)
  refine T_run (tx_isWord_f h.1) ?_
  dsimp only
  rw [if_pos rfl]
  refine T_run (tx_isWord_f h.1) ?_
  dsimp only
  rw [if_pos rfl]
  exact fin
theorem fx_product {d : Nat} {o k pl : Int} (hd : 3 < d) (hc : bz_oC c) (h : cFx n c k pl M) : w_T (eGr_product Lg d o M) (fun M' => cFx n c k pl M' ∧ fT M M') := by
  refine T_le (eGr_product_E (by omega)) ?_
  refine T_seq (fx_part (by omega) hc h) ?_
  rintro M1 ⟨a, b⟩
  exact T_eq (fx_p7 (by omega) a.1) ⟨a, b⟩
theorem fx_sum {d : Nat} {o k pl : Int} (hd : 4 < d) (hc : bz_oC c) (h : cFx n c k pl M) : w_T (eGr_sum Lg d o M) (fun M' => cFx n c k pl M' ∧ fT M M') := by
  refine T_le (eGr_sum_E (by omega)) ?_
  refine T_seq (fx_product (by omega) hc h) ?_
  rintro M1 ⟨a, b⟩
  exact T_eq (fx_s7 (by omega) a.1) ⟨a, b⟩
end CG
/-! all of it, by fuel -/
def cgX (T : Nat → Int) (n : Nat) (w : Int) (c f nt D : Nat) (X : Nat → Int → bz_M → Option bz_M) : Prop := ∀ (d o : Nat) (q : pL) (M : bz_M) (cs : List Int) (out : pO), 4 * (6 - o) + D ≤ d → o ≤ 6 → cPre T n w c cs q M → rd T n w f nt o q = some out → w_T (X d (o : Int) M) (cPost T n c cs M out)
def cgL (T : Nat → Int) (n : Nat) (w : Int) (c f nt D : Nat) (L : Nat → Int → Int → bz_M → Option bz_M) : Prop := ∀ (d o : Nat) (i : Int) (q : pL) (M : bz_M) (cs : List Int) (out : pO), 4 * (6 - o) + D ≤ d → o ≤ 6 → 0 ≤ i → i ≤ (q.1 : Int) → cPre T n w c cs q M → rd T n w f nt o q = some out → w_T (L d (o : Int) i M) (cPost T n c cs M out)
section CH
variable {Lg n c : Nat} {T : Nat → Int} {w : Int} {M M' : bz_M} {q : pL} {cs : List Int}
theorem post_app {M1 : bz_M} {c1 : List Int} {e : Int × Nat} (f : cFr c M M1) (h : cPost T n c (cs ++ c1) M1 (.inl e) M') : cPost T n c cs M (.inl e) M' := ⟨cFr_trans f h.1, h.2⟩
theorem post_app2 {M1 : bz_M} {c1 c2 : List Int} {q2 : pL} (f : cFr c M M1) (h : cPost T n c (cs ++ c1) M1 (.inr (q2, c2)) M') : cPost T n c cs M (.inr (q2, c1 ++ c2)) M' := ⟨cFr_trans f h.1, h.2.1, by rw [← List.append_assoc]; exact h.2.2⟩
theorem cg_seq {f x l y D : Nat} {X Y : Nat → Int → bz_M → Option bz_M} {L : Nat → Int → Int → bz_M → Option bz_M} (hw : w = 2 ∨ w = 4 ∨ w = 8) (hc : bz_oC c) (hx10 : x ≤ 10) (hD : 4 ≤ D) (hX : cgX T n w c f x D X) (hL : cgL T n w c f l (D + 1) L) (hE : ∀ (d : Nat) (o : Int) (M : bz_M), 0 < d → bz_le ((X (d - 1) o M).bind (fun M1 => L d o 0 M1)) (Y d o M)) (hF : ∀ (d : Nat) (o i k pl : Int) (M : bz_M), 1 < d → cXf n k pl M → L d o i M = some M) (hR : ∀ o q, rdF T n w (rd T n w f) y o q = rSeq (rd T n w f) x l o q) : cgX T n w c (f + 1) y (D + 1) Y := by
  intro d o q M cs out hd ho hP h
  change rdF T n w (rd T n w f) y o q = some out at h
  rw [hR] at h
  refine T_le (hE d o M (by omega)) ?_
  rcases rB_inv h with ⟨e, e1, rfl⟩ | ⟨q1, c1, e1, h1⟩
  · refine T_seq (hX (d - 1) o q M cs _ (by omega) ho hP e1) ?_
    rintro M1 ⟨a, b⟩
    exact T_eq (hF d o 0 _ _ M1 (by omega) b.1) ⟨a, b⟩
  · refine T_seq (hX (d - 1) o q M cs _ (by omega) ho hP e1) ?_
    rintro M1 ⟨a, b1, b2⟩
    have g := rd_good hw f x o q q1 c1 hx10 ho hP.2.2.2.1 e1
    have hP1 : cPre T n w c (cs ++ c1) q1 M1 := pre_next hc hP a b1 b2 g.2.1 g.1
    rcases rB_inv h1 with ⟨e, e2, rfl⟩ | ⟨q2, c2, e2, h2⟩
    · exact T_mono (hL d o 0 q1 M1 _ _ hd ho (by omega) (by omega) hP1 e2) (fun M2 h => post_app a h)
    · cases h2
      exact T_mono (hL d o 0 q1 M1 _ _ hd ho (by omega) (by omega) hP1 e2) (fun M2 h => post_app2 a h)
theorem cg_tail {f x l D : Nat} {X : Nat → Int → bz_M → Option bz_M} {L : Nat → Int → Int → bz_M → Option bz_M} {k : Int} (hw : w = 2 ∨ w = 4 ∨ w = 8) (hc : bz_oC c) (hx10 : x ≤ 10) (hx : ¬ isL x) (hD : 4 ≤ D) (hX : cgX T n w c f x D X) (hL : cgL T n w c f l (D + 1) L) (hF : ∀ (d : Nat) (o i k pl : Int) (M : bz_M), 1 < d → cXf n k pl M → L d o i M = some M) {d o : Nat} {i : Int} {q : pL} {M : bz_M} {cs : List Int} {out : pO} (hd : 4 * (6 - o) + (D + 1) ≤ d) (ho : o ≤ 6) (hi : 0 ≤ i ∧ i ≤ (q.1 : Int)) (hk : tK T n q.1 ≠ 0) (hq0 : qOK T n q) (hP : cPre T n w c cs (nx T n q) M) (hlc : cs.length ≤ q.1) (h : rLoop T n (rd T n w f) x l o q (some k) = some out) : w_T ((X (d - 1) (o : Int) M).bind (fun M2 => if M2 130 1 = (c : Int) then (eCd_put Lg (d - 1) c (pBk k) M2).bind (fun M3 => L d (o : Int) (bz_w32 (i + 1)) M3) else none)) (cPost T n c cs M out) := by
  have hcc := oC_c hc
  have hgt := nx_gt hq0 hk
  have hn := hP.2.2.2.2.2.1.1
  have hqn := hP.2.2.2.1.1
  change rB (rd T n w f x o (nx T n q)) (fun q1 c1 => rB (rd T n w f l o q1) (fun q2 c2 => some (.inr (q2, c1 ++ k :: c2)))) = some out at h
  rcases rB_inv h with ⟨e, e1, rfl⟩ | ⟨q1, c1, e1, h1⟩
  · refine T_seq (hX (d - 1) o _ M cs _ (by omega) ho hP e1) ?_
    rintro M1 ⟨a, b⟩
    rw [if_pos b.2.2]
    refine T_seq (fx_put hc b) ?_
    rintro M2 ⟨a2, b2⟩
    exact T_eq (hF d o _ _ _ M2 (by omega) a2.1) ⟨cFr_trans a b2, a2⟩
  · refine T_seq (hX (d - 1) o _ M cs _ (by omega) ho hP e1) ?_
    rintro M1 ⟨a, b1, b2⟩
    have g := rd_good hw f x o _ q1 c1 hx10 ho hP.2.2.2.1 e1
    have hP1 : cPre T n w c (cs ++ c1) q1 M1 := pre_next hc hP a b1 b2 g.2.1 g.1
    have hg := g.2.1
    have hq1 := g.1.1
    have hp := g.2.2.1 hx
    rw [if_pos hP1.2.2.2.2.2.2.1, w32_id (by omega) (by omega)]
    refine T_seq (ok_put hc hP1 (by rw [List.length_append]; omega)) ?_
    rintro M2 ⟨hP2, b2'⟩
    have fr := cFr_trans a b2'
    rcases rB_inv h1 with ⟨e, e2, rfl⟩ | ⟨q2, c2, e2, h2⟩
    · refine T_mono (hL d o (i + 1) q1 M2 _ _ hd ho (by omega) (by omega) hP2 e2) (fun M3 h => ?_)
      exact ⟨cFr_trans fr h.1, h.2⟩
    · cases h2
      refine T_mono (hL d o (i + 1) q1 M2 _ _ hd ho (by omega) (by omega) hP2 e2) (fun M3 h => ?_)
      refine ⟨cFr_trans fr h.1, h.2.1, ?_⟩
      have := h.2.2
      rw [show cs ++ (c1 ++ k :: c2) = cs ++ c1 ++ [k] ++ c2 by simp]
      exact this
theorem cg_sloop {f x l D : Nat} {X : Nat → Int → bz_M → Option bz_M} {L : Nat → Int → Int → bz_M → Option bz_M} {B : Nat → Int → Int → Int → bz_M → Option bz_M} {s1 s2 k1 k2 : Int} (hw : w = 2 ∨ w = 4 ∨ w = 8) (hc : bz_oC c) (hx10 : x ≤ 10) (hx : ¬ isL x) (hD : 6 ≤ D) (hX : cgX T n w c f x D X) (hL : cgL T n w c f l (D + 1) L) (hs1 : 0 ≤ s1 ∧ s1 < 128) (hs2 : 0 ≤ s2 ∧ s2 < 128) (h12 : s1 ≠ s2) (hE : ∀ (d : Nat) (o i : Int) (M : bz_M), 0 < d → bz_le (if i < 1600 then ((eTx_isSign Lg (d - 1) s1 M).bind (fun p1 => (if p1.1 = 0 then ((eTx_isSign Lg (d - 1) s2 p1.2).bind (fun p2 => (if p2.1 = 0 then (some p2.2) else ((eTx_isSign Lg (d - 1) s1 p2.2).bind (fun p3 => (if p3.1 = 0 then (B d o i (pBk k2) p3.2) else (B d o i (pBk k1) p3.2))))))) else ((eTx_isSign Lg (d - 1) s1 p1.2).bind (fun p4 => (if p4.1 = 0 then (B d o i (pBk k2) p4.2) else (B d o i (pBk k1) p4.2))))))) else (some M)) (L d o i M)) (hB : ∀ (d : Nat) (o i y : Int) (M : bz_M), 0 < d → bz_le ((eTx_step Lg (d - 1) M).bind (fun M1 => ((X (d - 1) o M1).bind (fun M2 => (if (M2 130 1) = (c : Int) then ((eCd_put Lg (d - 1) c y M2).bind (fun M3 => (L d o (bz_w32 (i + 1)) M3))) else none))))) (B d o i y M)) (hF : ∀ (d : Nat) (o i k pl : Int) (M : bz_M), 1 < d → cXf n k pl M → L d o i M = some M) (hR : ∀ o q, rdF T n w (rd T n w f) l o q = rLoop T n (rd T n w f) x l o q (if isS T n s1 q then some k1 else if isS T n s2 q then some k2 else none)) : cgL T n w c (f + 1) l (D + 1) L := by
  intro d o i q M cs out hd ho hi0 hi hP h
  change rdF T n w (rd T n w f) l o q = some out at h
  rw [hR] at h
  have hn := hP.2.2.2.2.2.1.1
  have hqn := hP.2.2.2.1.1
  have go : ∀ k, isS T n s1 q ∨ isS T n s2 q → rLoop T n (rd T n w f) x l o q (some k) = some out → w_T (B d o i (pBk k) M) (cPost T n c cs M out) := by
    intro k hs h
    have hk : tK T n q.1 = 3 := by rcases hs with s | s <;> exact s.1
    refine T_le (hB d o i _ M (by omega)) ?_
    refine T_seq (tx_step (by omega) hP.2.2.2.2.1 hP.2.2.2.2.2.1 hP.2.2.2.1 hP.1 (by rw [tD_3.mpr hk]; decide)) ?_
    rintro M1 ⟨a, b⟩
    refine T_mono (cg_tail hw hc hx10 hx (by omega) hX hL hF hd ho ⟨hi0, hi⟩ (by rw [hk]; decide) hP.2.2.2.1 (pre_nx hc hP b a) hP.2.2.1 h) (fun M2 hh => ?_)
    exact ⟨cFr_trans (cFr_fT b) hh.1, hh.2⟩
  refine T_le (hE d o i M (by omega)) ?_
  by_cases hi6 : i < 1600
  · rw [if_pos hi6]
    refine T_run (tx_isSign hP.2.2.2.2.2.1 hP.1 hs1) ?_
    dsimp only
    by_cases c1 : isS T n s1 q
    · rw [bz_b1.mpr c1, if_neg (by decide)]
      refine T_run (tx_isSign hP.2.2.2.2.2.1 hP.1 hs1) ?_
      dsimp only
      rw [bz_b1.mpr c1, if_neg (by decide)]
      rw [if_pos c1] at h
      exact go k1 (Or.inl c1) h
    · rw [bz_b0.mpr c1, if_pos rfl]
      refine T_run (tx_isSign hP.2.2.2.2.2.1 hP.1 hs2) ?_
      dsimp only
      rw [if_neg c1] at h
      by_cases c2 : isS T n s2 q
      · rw [bz_b1.mpr c2, if_neg (by decide)]
        refine T_run (tx_isSign hP.2.2.2.2.2.1 hP.1 hs1) ?_
        dsimp only
        rw [bz_b0.mpr c1, if_pos rfl]
        rw [if_pos c2] at h
        exact go k2 (Or.inr c2) h
      · rw [bz_b0.mpr c2, if_pos rfl]
        rw [if_neg c2] at h
        cases h
        exact T_some ⟨cFr_refl c M, hP.1, by rw [List.append_nil]; exact hP.2.1⟩
  · rw [if_neg hi6]
    have hk : tK T n q.1 = 0 := (tK_rg (T := T) (n := n) q.1).2 (by omega)
    rw [if_neg (fun e => by have := e.1; omega), if_neg (fun e => by have := e.1; omega)] at h
    cases h
    exact T_some ⟨cFr_refl c M, hP.1, by rw [List.append_nil]; exact hP.2.1⟩
theorem cg_wloop {f x l D i0 : Nat} {X : Nat → Int → bz_M → Option bz_M} {L : Nat → Int → Int → bz_M → Option bz_M} {k : Int} (hw : w = 2 ∨ w = 4 ∨ w = 8) (hc : bz_oC c) (hx10 : x ≤ 10) (hx : ¬ isL x) (hD : 6 ≤ D) (hX : cgX T n w c f x D X) (hL : cgL T n w c f l (D + 1) L) (hi0 : i0 < 39) (hE : ∀ (d : Nat) (o i : Int) (M : bz_M), 0 < d → bz_le (if i < 1600 then ((eTx_takesWord Lg (d - 1) (5 + i0) M).bind (fun p1 => (if p1.1 = 0 then (some p1.2) else ((X (d - 1) o p1.2).bind (fun M1 => (if (M1 130 1) = (c : Int) then ((eCd_put Lg (d - 1) c (pBk k) M1).bind (fun M2 => (L d o (bz_w32 (i + 1)) M2))) else none)))))) else (some M)) (L d o i M)) (hF : ∀ (d : Nat) (o i k pl : Int) (M : bz_M), 1 < d → cXf n k pl M → L d o i M = some M) (hR : ∀ o q, rdF T n w (rd T n w f) l o q = rLoop T n (rd T n w f) x l o q (if isW T n i0 q then some k else none)) : cgL T n w c (f + 1) l (D + 1) L := by
  intro d o i q M cs out hd ho hi1 hi hP h
  change rdF T n w (rd T n w f) l o q = some out at h
  rw [hR] at h
  have hn := hP.2.2.2.2.2.1.1
  have hqn := hP.2.2.2.1.1
  refine T_le (hE d o i M (by omega)) ?_
  by_cases hi6 : i < 1600
  · rw [if_pos hi6]
    by_cases c1 : isW T n i0 q
    · rw [if_pos c1] at h
      refine T_seq (tx_tw1 (by omega) hP.2.2.2.2.1 hP.2.2.2.2.2.1 hP.2.2.2.1 hP.1 hi0 c1) ?_
      rintro ⟨p1, p2⟩ ⟨e1, e2, e3⟩
      dsimp only at e1 e2 e3 ⊢
      rw [e1, if_neg (by decide)]
      refine T_mono (cg_tail hw hc hx10 hx (by omega) hX hL hF hd ho ⟨hi1, hi⟩ (isW_k c1) hP.2.2.2.1 (pre_nx hc hP e3 e2) hP.2.2.1 h) (fun M2 hh => ?_)
      exact ⟨cFr_trans (cFr_fT e3) hh.1, hh.2⟩
    · rw [if_neg c1] at h
      cases h
      refine T_run (tx_tw0 (by omega) hP.1 hi0 c1) ?_
      dsimp only
      rw [if_pos rfl]
      exact T_some ⟨cFr_refl c M, hP.1, by rw [List.append_nil]; exact hP.2.1⟩
  · rw [if_neg hi6]
    have hk : tK T n q.1 = 0 := (tK_rg (T := T) (n := n) q.1).2 (by omega)
    rw [if_neg (fun e => isW_k e hk)] at h
    cases h
    exact T_some ⟨cFr_refl c M, hP.1, by rw [List.append_nil]; exact hP.2.1⟩
theorem gr_op1 {d o : Nat} (hc : bz_oC c) (hd : 3 < d) (ho : o < 6) (hP : cPre T n w c cs q M) (hk : tD T n q ≠ 4) : w_T (eGr_opens Lg d (o : Int) M) (fun p => p.1 = 1 ∧ cPre T n w c cs (nx T n q) p.2 ∧ fT M p.2) := by
  refine T_le (eGr_opens_E (by omega)) ?_
  rw [if_pos (by omega)]
  refine T_seq (tx_step (by omega) hP.2.2.2.2.1 hP.2.2.2.2.2.1 hP.2.2.2.1 hP.1 hk) ?_
  rintro M1 ⟨a, b⟩
  exact T_some ⟨rfl, pre_nx hc hP b a, b⟩
theorem gr_op0 {d o : Nat} (hc : bz_oC c) (hd : 0 < d) (ho : ¬ o < 6) (hP : cPre T n w c cs q M) : w_T (eGr_opens Lg d (o : Int) M) (fun p => p.1 = 0 ∧ cFx n c 4 (q.1 : Int) p.2 ∧ fT M p.2) := by
  refine T_le (eGr_opens_E (by omega)) ?_
  rw [if_neg (by omega), hP.1.2.1]
  refine T_seq (tx_fail hP.1 (by decide)) ?_
  rintro M1 ⟨a, b⟩
  exact T_some ⟨rfl, fx_of hc hP b a, b⟩
/-- a bracket that must close: behind an inner piece -/
theorem gr_close {d : Nat} {s : Int} (hc : bz_oC c) (hd : 3 < d) (hs : 0 ≤ s ∧ s < 128) (hP : cPre T n w c cs q M) : w_T (eTx_needsSign Lg d s M) (fun M' => fT M M' ∧ (isS T n s q → cPre T n w c cs (nx T n q) M') ∧ (¬ isS T n s q → cFx n c 1 (q.1 : Int) M')) := by
  by_cases h : isS T n s q
  · refine T_mono (tx_ns1 hd hP.2.2.2.2.1 hP.2.2.2.2.2.1 hP.2.2.2.1 hP.1 hs h) ?_
    rintro M1 ⟨a, b⟩
    exact ⟨b, fun _ => pre_nx hc hP b a, fun h' => absurd h h'⟩
  · refine T_mono (tx_ns0 (by omega) hP.2.2.2.2.2.1 hP.1 hs h) ?_
    rintro M1 ⟨a, b⟩
    exact ⟨b, fun h' => absurd h' h, fun _ => fx_of hc hP b a⟩
theorem out_ok {q1 : pL} {c1 : List Int} (f : cFr c M M') (h : cPre T n w c (cs ++ c1) q1 M') : cPost T n c cs M (.inr (q1, c1)) M' := ⟨f, h.1, h.2.1⟩
theorem cg_pair {f : Nat} (hw : w = 2 ∨ w = 4 ∨ w = 8) (hc : bz_oC c) (hS : cgX T n w c f 3 8 (eGr_sum Lg)) {d o : Nat} {out : pO} {k : Int} (hd : 4 * (6 - o) + 5 ≤ d) (ho : o ≤ 6) (hP : cPre T n w c cs q M) (hl : cs.length < q.1) (h : rPair T n (rd T n w f) o q k = some out) : w_T (eGr_pair Lg d (o : Int) (pBk k) M) (cPost T n c cs M out) := by
  have hcc := oC_c hc
  refine T_le (eGr_pair_E (c := c) (by omega) hc) ?_
  refine T_run (tx_isSign hP.2.2.2.2.2.1 hP.1 (by decide)) ?_
  dsimp only
  unfold rPair at h
  by_cases s1 : isS T n 40 q
  · rw [if_pos s1] at h
    rw [bz_b1.mpr s1, if_neg (by decide)]
    by_cases o6 : o < 6
    · rw [if_pos o6] at h
      refine T_seq (gr_op1 hc (by omega) o6 hP (by rw [tD_3.mpr s1.1]; decide)) ?_
      rintro ⟨p1, p2⟩ ⟨e1, hP1, f1⟩
      dsimp only at e1 hP1 f1 ⊢
      have gt0 := nx_gt hP.2.2.2.1 (by rw [s1.1]; decide)
      rw [e1, if_neg (by decide), w32_id (by omega) (by omega)]
      rcases rB_inv h with ⟨e, e1', rfl⟩ | ⟨q1, c1, e1', h1⟩
      · refine T_seq (hS (d - 1) (o + 1) _ p2 cs _ (by omega) (by omega) hP1 e1') ?_
        rintro M1 ⟨a, b⟩
        refine T_seq (tx_ns_f (by omega) b.1) ?_
        rintro M2 ⟨a2, b2⟩
        refine T_seq (fx_sum (by omega) hc (fx_T hc b b2 a2)) ?_
        rintro M3 ⟨a3, b3⟩
        refine T_seq (tx_ns_f (by omega) a3.1) ?_
        rintro M4 ⟨a4, b4⟩
        have x4 := fx_T hc a3 b4 a4
        rw [if_pos x4.2.2]
        refine T_seq (fx_put hc x4) ?_
        rintro M5 ⟨a5, b5⟩
        exact T_some ⟨cFr_trans (cFr_fT f1) (cFr_trans a (cFr_trans (cFr_fT b2) (cFr_trans (cFr_fT b3) (cFr_trans (cFr_fT b4) b5)))), a5⟩
      · have g1 := rd_good hw f 3 (o + 1) _ q1 c1 (by omega) (by omega) hP1.2.2.2.1 e1'
        refine T_seq (hS (d - 1) (o + 1) _ p2 cs _ (by omega) (by omega) hP1 e1') ?_
        rintro M1 ⟨a, b1, b2⟩
        have hP2 : cPre T n w c (cs ++ c1) q1 M1 := pre_next hc hP1 a b1 b2 g1.2.1 g1.1
        refine T_seq (gr_close hc (by omega) (s := 44) (by decide) hP2) ?_
        rintro M2 ⟨f2, y2, n2⟩
        by_cases s2 : isS T n 44 q1
        · rw [if_pos s2] at h1
          have hP3 := y2 s2
          have gt1 := nx_gt g1.1 (by rw [s2.1]; decide)
          rcases rB_inv h1 with ⟨e, e2', rfl⟩ | ⟨q2, c2, e2', h2⟩
          · refine T_seq (hS (d - 1) (o + 1) _ M2 _ _ (by omega) (by omega) hP3 e2') ?_
            rintro M3 ⟨a3, b3⟩
            refine T_seq (tx_ns_f (by omega) b3.1) ?_
            rintro M4 ⟨a4, b4⟩
            have x4 := fx_T hc b3 b4 a4
            rw [if_pos x4.2.2]
            refine T_seq (fx_put hc x4) ?_
            rintro M5 ⟨a5, b5⟩
            exact T_some ⟨cFr_trans (cFr_fT f1) (cFr_trans a (cFr_trans (cFr_fT f2) (cFr_trans a3 (cFr_trans (cFr_fT b4) b5)))), a5⟩
          · have g2 := rd_good hw f 3 (o + 1) _ q2 c2 (by omega) (by omega) hP3.2.2.2.1 e2'
            refine T_seq (hS (d - 1) (o + 1) _ M2 _ _ (by omega) (by omega) hP3 e2') ?_
            rintro M3 ⟨a3, b3, b3'⟩
            have hP4 : cPre T n w c (cs ++ c1 ++ c2) q2 M3 := pre_next hc hP3 a3 b3 b3' g2.2.1 g2.1
            refine T_seq (gr_close hc (by omega) (s := 41) (by decide) hP4) ?_
            rintro M4 ⟨f4, y4, n4⟩
            by_cases s3 : isS T n 41 q2
            · rw [if_pos s3] at h2
              cases h2
              have hP5 := y4 s3
              have gt2 := nx_gt g2.1 (by rw [s3.1]; decide)
              rw [if_pos hP5.2.2.2.2.2.2.1]
              have := g1.2.1
              have := g2.2.1
              refine T_seq (ok_put hc hP5 (op := k) (by rw [List.length_append, List.length_append]; omega)) ?_
              rintro M5 ⟨hP6, f6⟩
              refine T_some (out_ok (w := w) (cFr_trans (cFr_fT f1) (cFr_trans a (cFr_trans (cFr_fT f2) (cFr_trans a3 (cFr_trans (cFr_fT f4) f6))))) ?_)
              rw [show cs ++ (c1 ++ c2 ++ [k]) = cs ++ c1 ++ c2 ++ [k] by simp]
              exact hP6
            · rw [if_neg s3] at h2
              cases h2
              have x5 := n4 s3
              rw [if_pos x5.2.2]
              refine T_seq (fx_put hc x5) ?_
              rintro M5 ⟨a5, b5⟩
              exact T_some ⟨cFr_trans (cFr_fT f1) (cFr_trans a (cFr_trans (cFr_fT f2) (cFr_trans a3 (cFr_trans (cFr_fT f4) b5)))), a5⟩
        · rw [if_neg s2] at h1
          cases h1
          have x2 := n2 s2
          refine T_seq (fx_sum (by omega) hc x2) ?_
          rintro M3 ⟨a3, b3⟩
          refine T_seq (tx_ns_f (by omega) a3.1) ?_
          rintro M4 ⟨a4, b4⟩
          have x4 := fx_T hc a3 b4 a4
          rw [if_pos x4.2.2]
          refine T_seq (fx_put hc x4) ?_
          rintro M5 ⟨a5, b5⟩
          exact T_some ⟨cFr_trans (cFr_fT f1) (cFr_trans a (cFr_trans (cFr_fT f2) (cFr_trans (cFr_fT b3) (cFr_trans (cFr_fT b4) b5)))), a5⟩
    · rw [if_neg o6] at h
      cases h
      refine T_seq (gr_op0 hc (by omega) o6 hP) ?_
      rintro ⟨p1, p2⟩ ⟨e1, x, f1⟩
      dsimp only at e1 x f1 ⊢
      rw [e1, if_pos rfl]
      exact T_some ⟨cFr_fT f1, x⟩
  · rw [if_neg s1] at h
    cases h
    rw [bz_b0.mpr s1, if_pos rfl, hP.1.2.1]
    refine T_seq (tx_fail hP.1 (by decide)) ?_
    rintro M1 ⟨a, b⟩
    exact T_some ⟨cFr_fT b, fx_of hc hP b a⟩
end CH

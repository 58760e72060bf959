/-! THE REFERENCE READS SUMS AND TESTS: codes and what waits -/
def tkW (w : Int) : Int := if w = 2 then 0 else if w = 4 then 1 else 2
abbrev gFk (k : Nat) : Prop := k = 2 ∨ k = 4 ∨ k = 5 ∨ k = 6 ∨ k = 10 ∨ k = 44 ∨ k = 121 ∨ k = 123 ∨ k = 124 ∨ k = 125
def gF (M M' : bz_M) : Prop := (∀ r, r ≠ 319 → r ≠ 408 → r ≠ 409 → M' r = M r) ∧ ∀ k, ¬ gFk k → M' 319 k = M 319 k
theorem gF_refl (M : bz_M) : gF M M := ⟨fun _ _ _ _ => rfl, fun _ _ => rfl⟩
theorem gF_trans {A B C : bz_M} (h : gF A B) (g : gF B C) : gF A C := ⟨fun r a b c => (g.1 r a b c).trans (h.1 r a b c), fun k a => (g.2 k a).trans (h.2 k a)⟩
theorem gF_X {A B : bz_M} (h : gX A B) : gF A B := ⟨fun r a _ _ => h.1 r a, fun k a => h.2 k (by omega) (by omega) (by omega) (by omega) (by omega) (by omega)⟩
theorem gF_k {M : bz_M} {k : Nat} {x : Int} (h : gFk k) : gF M (bz_up M 319 k x) := ⟨fun r a _ _ => bz_up_fn a, fun j hj => bz_up_nk (fun e => hj (by rw [e]; exact h)) _⟩
theorem gF_8 {M : bz_M} {k : Nat} {x : Int} : gF M (bz_up M 408 k x) := ⟨fun r _ b _ => bz_up_fn b, fun j _ => bz_up_nr (by decide) _⟩
theorem gF_9 {M : bz_M} {k : Nat} {x : Int} : gF M (bz_up M 409 k x) := ⟨fun r _ _ c => bz_up_fn c, fun j _ => bz_up_nr (by decide) _⟩
def mG (T : Nat → Int) (n : Nat) (M0 : bz_M) (q : pL) (C W : List Int) (o : Nat) (b : Int) (z : Nat) (M : bz_M) : Prop := gF M0 M ∧ mX T n q M ∧ (M 319 121 = (C.length : Int) ∧ zSeg (M 408) 0 C) ∧ (M 319 123 = (W.length : Int) ∧ zStk (M 409) W) ∧ M 319 124 = (o : Int) ∧ M 319 125 = b ∧ C.length + W.length ≤ z
def mGf (M0 : bz_M) (k pl : Int) (M : bz_M) : Prop := gF M0 M ∧ mXf k pl M ∧ (0 ≤ M 319 121 ∧ M 319 121 ≤ 1660)
section MG
variable {Lg d n o z : Nat} {T : Nat → Int} {M0 M M' : bz_M} {q : pL} {C W : List Int} {b : Int}
theorem mX_co (h : mX T n q M) (e : ∀ k, k = 2 ∨ k = 3 ∨ k = 4 ∨ k = 5 ∨ k = 6 → M' 319 k = M 319 k) : mX T n q M' := by
  unfold mX at h ⊢
  rw [e 2 (by decide), e 3 (by decide), e 4 (by decide), e 5 (by decide), e 6 (by decide)]
  exact h
theorem mG_X (h : mG T n M0 q C W o b z M) (f : gX M M') {q' : pL} (hx : mX T n q' M') : mG T n M0 q' C W o b z M' := by
  obtain ⟨a1, a2, a3, a4, a5, a6, a7⟩ := h
  refine ⟨gF_trans a1 (gF_X f), hx, ?_, ?_, ?_, ?_, a7⟩
  · rw [f.2 121 (by decide) (by decide) (by decide) (by decide) (by decide) (by decide), f.1 408 (by decide)]; exact a3
  · rw [f.2 123 (by decide) (by decide) (by decide) (by decide) (by decide) (by decide), f.1 409 (by decide)]; exact a4
  · rw [f.2 124 (by decide) (by decide) (by decide) (by decide) (by decide) (by decide)]; exact a5
  · rw [f.2 125 (by decide) (by decide) (by decide) (by decide) (by decide) (by decide)]; exact a6
theorem mG_f (h : mG T n M0 q C W o b z M) (hz : z ≤ 1650) (f : gX M M') {k pl : Int} (hx : mXf k pl M') : mGf M0 k pl M' := by
  refine ⟨gF_trans h.1 (gF_X f), hx, ?_⟩
  have h1 := h.2.2.1.1
  have h2 := h.2.2.2.2.2.2
  rw [f.2 121 (by decide) (by decide) (by decide) (by decide) (by decide) (by decide), h1]
  omega
theorem mG_z (h : mG T n M0 q C W o b z M) {z' : Nat} (hz : z ≤ z') : mG T n M0 q C W o b z' M := by
  obtain ⟨a1, a2, a3, a4, a5, a6, a7⟩ := h
  exact ⟨a1, a2, a3, a4, a5, a6, by omega⟩
theorem mG_mt (ht0 : mt T n M0) (h : mG T n M0 q C W o b z M) : mt T n M := mt_co ht0 (h.1.1 320 (by decide) (by decide) (by decide))
theorem mG_st (hs0 : stM M0) (h : mG T n M0 q C W o b z M) : stM M := fun r k h1 h2 => by rw [h.1.1 r (by omega) (by omega) (by omega)]; exact hs0 r k h1 h2
theorem g_code {v : Int} (h : mG T n M0 q C W o b z M) (hz : z ≤ 1650) : w_T (eMo_qCode Lg d v M) (fun M' => mG T n M0 q (C ++ [v]) W o b (z + 1) M') := by
  obtain ⟨a1, a2, a3, a4, a5, a6, a7⟩ := h
  refine T_le eMo_qCode_E ?_
  rw [a3.1, if_pos (by omega), Int.toNat_natCast, w32_id (by omega) (by omega)]
  refine T_some ⟨gF_trans a1 (gF_trans gF_8 (gF_k (by decide))), mX_co a2 (fun k hk => ?_), ⟨?_, ?_⟩, ⟨?_, ?_⟩, ?_, ?_, ?_⟩
  · rw [bz_up_nk (by omega), bz_up_nr (by decide)]
  · rw [bz_up_eq]; simp
  · rw [bz_up_fn (by decide), zSeg_app]
    refine ⟨zSeg_co (fun i _ hi => ?_) a3.2, ?_, trivial⟩
    · rw [bz_up_nk (by omega)]
    · simp [bz_up_rk]
  · rw [bz_up_nk (by decide), bz_up_nr (by decide)]; exact a4.1
  · rw [bz_up_fn (by decide), bz_up_fn (by decide)]; exact a4.2
  · rw [bz_up_nk (by decide), bz_up_nr (by decide)]; exact a5
  · rw [bz_up_nk (by decide), bz_up_nr (by decide)]; exact a6
  · simp; omega
theorem g_drops {x : Int} (hd : 0 < d) (h : mG T n M0 q C (x :: W) o b z M) (hz : z ≤ 1650) : w_T (eMo_qDrops Lg d M) (fun M' => mG T n M0 q (C ++ [x]) W o b z M') := by
  obtain ⟨a1, a2, a3, a4, a5, a6, a7⟩ := h
  rw [List.length_cons] at a7
  have e4 : M 319 123 = (W.length : Int) + 1 := by rw [a4.1]; simp
  refine T_le (eMo_qDrops_E hd) ?_
  rw [e4, w32_id (by omega) (by omega), if_pos (by omega), show ((W.length : Int) + 1 - 1).toNat = W.length by omega, show (W.length : Int) + 1 - 1 = (W.length : Int) by omega, a4.2.1]
  have hm : mG T n M0 q C W o b (z - 1) (bz_up M 319 123 (W.length : Int)) := by
    refine ⟨gF_trans a1 (gF_k (by decide)), mX_co a2 (fun k hk => bz_up_nk (by omega) _), ⟨?_, ?_⟩, ⟨?_, ?_⟩, ?_, ?_, ?_⟩
    · rw [bz_up_nk (by decide)]; exact a3.1
    · rw [bz_up_fn (by decide)]; exact a3.2
    · rw [bz_up_eq]
    · rw [bz_up_fn (by decide)]; exact a4.2.2
    · rw [bz_up_nk (by decide)]; exact a5
    · rw [bz_up_nk (by decide)]; exact a6
    · omega
  refine T_seq (g_code hm (by omega)) ?_
  intro M1 h1
  exact T_some (mG_z h1 (by omega))
theorem g_push {x : Int} (h : mG T n M0 q C W o b z M) (hz : z ≤ 1650) : mG T n M0 q C (x :: W) o b (z + 1) (bz_up (bz_up M 409 W.length x) 319 123 ((W.length : Int) + 1)) := by
  obtain ⟨a1, a2, a3, a4, a5, a6, a7⟩ := h
  refine ⟨gF_trans a1 (gF_trans gF_9 (gF_k (by decide))), mX_co a2 (fun k hk => ?_), ⟨?_, ?_⟩, ⟨?_, ?_, ?_⟩, ?_, ?_, ?_⟩
  · rw [bz_up_nk (by omega), bz_up_nr (by decide)]
  · rw [bz_up_nk (by decide), bz_up_nr (by decide)]; exact a3.1
  · rw [bz_up_fn (by decide), bz_up_fn (by decide)]; exact a3.2
  · rw [bz_up_eq]; simp
  · rw [bz_up_fn (by decide)]; exact bz_up_eq _ _ _ _
  · rw [bz_up_fn (by decide)]; exact zStk_co (fun k hk => bz_up_nk (by omega) _) a4.2
  · rw [bz_up_nk (by decide), bz_up_nr (by decide)]; exact a5
  · rw [bz_up_nk (by decide), bz_up_nr (by decide)]; exact a6
  · rw [List.length_cons]; omega
theorem g_o {x : Nat} (h : mG T n M0 q C W o b z M) : mG T n M0 q C W x b z (bz_up M 319 124 (x : Int)) := by
  obtain ⟨a1, a2, a3, a4, a5, a6, a7⟩ := h
  refine ⟨gF_trans a1 (gF_k (by decide)), mX_co a2 (fun k hk => bz_up_nk (by omega) _), ⟨?_, ?_⟩, ⟨?_, ?_⟩, bz_up_eq _ _ _ _, ?_, a7⟩
  · rw [bz_up_nk (by decide)]; exact a3.1
  · rw [bz_up_fn (by decide)]; exact a3.2
  · rw [bz_up_nk (by decide)]; exact a4.1
  · rw [bz_up_fn (by decide)]; exact a4.2
  · rw [bz_up_nk (by decide)]; exact a6
theorem g_b {x : Int} (h : mG T n M0 q C W o b z M) : mG T n M0 q C W o x z (bz_up M 319 125 x) := by
  obtain ⟨a1, a2, a3, a4, a5, a6, a7⟩ := h
  refine ⟨gF_trans a1 (gF_k (by decide)), mX_co a2 (fun k hk => bz_up_nk (by omega) _), ⟨?_, ?_⟩, ⟨?_, ?_⟩, ?_, bz_up_eq _ _ _ _, a7⟩
  · rw [bz_up_nk (by decide)]; exact a3.1
  · rw [bz_up_fn (by decide)]; exact a3.2
  · rw [bz_up_nk (by decide)]; exact a4.1
  · rw [bz_up_fn (by decide)]; exact a4.2
  · rw [bz_up_nk (by decide)]; exact a5
theorem g_pop {x : Int} (h : mG T n M0 q C (x :: W) o b z M) : mG T n M0 q C W o b z (bz_up M 319 123 (W.length : Int)) := by
  obtain ⟨a1, a2, a3, a4, a5, a6, a7⟩ := h
  rw [List.length_cons] at a7
  refine ⟨gF_trans a1 (gF_k (by decide)), mX_co a2 (fun k hk => bz_up_nk (by omega) _), ⟨?_, ?_⟩, ⟨?_, ?_⟩, ?_, ?_, ?_⟩
  · rw [bz_up_nk (by decide)]; exact a3.1
  · rw [bz_up_fn (by decide)]; exact a3.2
  · rw [bz_up_eq]
  · rw [bz_up_fn (by decide)]; exact a4.2.2
  · rw [bz_up_nk (by decide)]; exact a5
  · rw [bz_up_nk (by decide)]; exact a6
  · omega
theorem g_opens {x pl : Int} (hd : 0 < d) (ho : o < 6) (h : mG T n M0 q C W o b z M) (hz : z ≤ 1650) : w_T (eMo_qOpens Lg d x pl M) (fun M' => mG T n M0 q C (x :: W) (o + 1) b (z + 1) M' ∧ M' 319 2 = M 319 2) := by
  have h' := h
  obtain ⟨a1, a2, a3, a4, a5, a6, a7⟩ := h
  refine T_le (eMo_qOpens_E hd) ?_
  rw [if_pos a2.2.2.2.2.2.1, a5, if_neg (by omega), a4.1, if_pos (by omega), Int.toNat_natCast, w32_id (z := (o : Int) + 1) (by omega) (by omega), w32_id (z := (W.length : Int) + 1) (by omega) (by omega)]
  have h1 := g_push (x := x) (g_o (x := o + 1) h') hz
  rw [show ((o + 1 : Nat) : Int) = (o : Int) + 1 by omega] at h1
  refine T_some ⟨h1, ?_⟩
  rw [bz_up_nk (by decide), bz_up_nr (by decide), bz_up_nk (by decide)]
theorem g_opens0 {x pl : Int} (hd : 0 < d) (ho : o = 6) (h : mG T n M0 q C W o b z M) (hz : z ≤ 1650) : w_T (eMo_qOpens Lg d x pl M) (fun M' => mGf M0 4 pl M' ∧ M' 319 2 = M 319 2) := by
  have h0 := h
  obtain ⟨a1, a2, a3, a4, a5, a6, a7⟩ := h
  refine T_le (eMo_qOpens_E hd) ?_
  rw [if_pos a2.2.2.2.2.2.1, a5, if_pos (by omega)]
  refine T_seq (mo_fail a2.2.2.2.2.2.1 (by decide)) ?_
  rintro M1 ⟨x1, x2, x3⟩
  exact T_some ⟨mG_f h0 hz x2 x1, x3⟩
theorem g_isOn {a : Int} (h : mG T n M0 q C W o b z M) (hz : z ≤ 1650) (ha : a ≠ 0) : eMo_qIsOn Lg d a M = some (bz_b (W.headD 0 = a), M) := by
  obtain ⟨a1, a2, a3, a4, a5, a6, a7⟩ := h
  refine eMo_qIsOn_E _ ?_
  cases W with
  | nil =>
    rw [a4.1, if_neg (by decide), bz_b0.mpr]
    show ¬ (0 : Int) = a
    omega
  | cons x W =>
    have e4 : M 319 123 = (W.length : Int) + 1 := by rw [a4.1]; simp
    rw [List.length_cons] at a7
    rw [e4, if_pos (by omega), w32_id (by omega) (by omega), if_pos (by omega), show ((W.length : Int) + 1 - 1).toNat = W.length by omega, a4.2.1]
    by_cases c : x = a
    · rw [if_pos c, bz_b1.mpr]; exact c
    · rw [if_neg c, bz_b0.mpr]; exact c
/-- what waits is emptied into the codes, from its top on -/
theorem g_drop_f {P : List Int} {F : bz_M → Option bz_M} {Q : bz_M → Prop} (hF : ∀ (M : bz_M) (C : List Int) (x : Int) (P' : List Int), mG T n M0 q C (x :: P' ++ W) o b z M → (x :: P') <:+ P → w_T (eMo_qDrops Lg d M) (fun M1 => mG T n M0 q (C ++ [x]) (P' ++ W) o b z M1) → (∀ M1, mG T n M0 q (C ++ [x]) (P' ++ W) o b z M1 → w_T (F M1) Q) → w_T (F M) Q) (hE : ∀ (M : bz_M), mG T n M0 q (C ++ P) W o b z M → w_T (F M) Q) (hd : 0 < d) (hz : z ≤ 1650) : ∀ (P1 P2 : List Int) (M : bz_M), P1 ++ P2 = P → mG T n M0 q (C ++ P1) (P2 ++ W) o b z M → w_T (F M) Q
  | P1, [], M, hP, h => hE M (by rw [List.append_nil] at hP; rw [← hP]; exact h)
  | P1, x :: P2, M, hP, h => by
    refine hF M (C ++ P1) x P2 h ⟨P1, hP⟩ (g_drops hd h hz) (fun M1 h1 => ?_)
    refine g_drop_f hF hE hd hz (P1 ++ [x]) P2 M1 (by rw [← hP]; simp) ?_
    rw [← List.append_assoc]
    exact h1
theorem db_eq : eMo_qDropsToBracket_0 Lg d M = eMo_qDropsToBracket Lg d M := rfl
theorem ep_eq : eMo_qEndsPart_0 Lg d M = eMo_qEndsPart Lg d M := rfl
theorem dn_eq : eMo_qDropsNots_0 Lg d M = eMo_qDropsNots Lg d M := rfl
theorem go_eq : eMo_qGoesOn_0 Lg d M = eMo_qGoesOn Lg d M := rfl
theorem gt_eq : eMo_qGoesOnTest_0 Lg d M = eMo_qGoesOnTest Lg d M := rfl
theorem g_top {x : Int} (h : mG T n M0 q C (x :: W) o b z M) : M 319 123 = (W.length : Int) + 1 ∧ M 409 W.length = x ∧ W.length < z := by
  obtain ⟨a1, a2, a3, a4, a5, a6, a7⟩ := h
  rw [List.length_cons] at a7
  exact ⟨by rw [a4.1]; simp, a4.2.1, by omega⟩
theorem g_dtb {P : List Int} {x : Int} (hd : 1 < d) (hz : z ≤ 1650) (hP : ∀ p ∈ P, ¬ (20 ≤ p ∧ p ≤ 24)) (hx : 20 ≤ x ∧ x ≤ 24) (hb : b ≤ (W.length : Int)) (h : mG T n M0 q C (P ++ x :: W) o b z M) : w_T (eMo_qDropsToBracket Lg d M) (fun M' => mG T n M0 q (C ++ P) (x :: W) o b z M') := by
  refine g_drop_f (Lg := Lg) (d := d - 1) (W := x :: W) (P := P) (F := eMo_qDropsToBracket Lg d) (fun M C y P' h hs hdr hk => ?_) (fun M h => ?_) (by omega) hz [] P M rfl (by rw [List.append_nil]; exact h)
  · have ht := g_top (W := P' ++ x :: W) h
    have hb' := h.2.2.2.2.2.1
    refine T_le (eMo_qDropsToBracket_E (by omega)) ?_
    have hlen : ((P' ++ x :: W).length : Int) = (P'.length : Int) + ((W.length : Int) + 1) := by simp
    rw [ht.1, hb', if_pos (by omega), w32_id (by omega) (by omega), if_pos (by omega), show (((P' ++ x :: W).length : Int) + 1 - 1).toNat = (P' ++ x :: W).length by omega, ht.2.1, bz_b0.mpr (hP y (hs.subset (by simp))), if_pos rfl]
    refine T_seq hdr ?_
    intro M1 h1
    rw [db_eq]
    exact hk M1 h1
  · have ht := g_top h
    have hb' := h.2.2.2.2.2.1
    refine T_le (eMo_qDropsToBracket_E (by omega)) ?_
    rw [ht.1, hb', if_pos (by omega), w32_id (by omega) (by omega), if_pos (by omega), show ((W.length : Int) + 1 - 1).toNat = W.length by omega, ht.2.1, bz_b1.mpr hx, if_neg (by decide)]
    exact T_some h
theorem zStk_at {A : Nat → Int} : ∀ (P W : List Int) (x : Int), zStk A (P ++ x :: W) → A W.length = x
  | [], W, x, h => h.1
  | _ :: P, W, x, h => zStk_at P W x h.2
theorem g_brk {P : List Int} {x : Int} (hd : 0 < d) (hz : z ≤ 1650) (hP : ∀ p ∈ P, ¬ (20 ≤ p ∧ p ≤ 24)) (hx : 20 ≤ x ∧ x ≤ 24) (hb : b ≤ (W.length : Int)) (hb0 : 0 ≤ b) (h : mG T n M0 q C (P ++ x :: W) o b z M) : eMo_qBracket Lg d M = some (x, M) := by
  have hb' := h.2.2.2.2.2.1
  have hl : C.length + (P ++ x :: W).length ≤ z := h.2.2.2.2.2.2
  have key : ∀ (P2 P1 : List Int), P1 ++ P2 = P → eMo_qBracket_7 Lg d ((P2.length : Int) + (W.length : Int)) M = some (x, M) := by
    intro P2
    induction P2 with
    | nil =>
      intro P1 hp
      refine eMo_qBracket_7_E (by omega) _ ?_
      have e := zStk_at P W x h.2.2.2.1.2
      simp at hl
      rw [hb', if_neg (by simp; omega), if_pos (by simp; omega), show (((([] : List Int).length : Nat) : Int) + (W.length : Int)).toNat = W.length by simp, e, bz_b1.mpr hx, if_neg (by decide), if_neg (by simp; omega)]
    | cons y P2 ih =>
      intro P1 hp
      refine eMo_qBracket_7_E (by omega) _ ?_
      have e := zStk_at P1 (P2 ++ x :: W) y (by
        have := h.2.2.2.1.2
        rw [← hp] at this
        simpa using this)
      have hl2 : (P2 ++ x :: W).length = P2.length + W.length + 1 := by simp; omega
      rw [hl2] at e
      rw [← hp] at hl
      simp at hl
      rw [hb', if_neg (by simp; omega), if_pos (by simp; omega), show ((((y :: P2).length : Nat) : Int) + (W.length : Int)).toNat = P2.length + W.length + 1 by simp; omega, e, bz_b0.mpr (hP y (by rw [← hp]; simp)), if_pos rfl, w32_id (by simp; omega) (by simp; omega), show (((y :: P2).length : Nat) : Int) + (W.length : Int) + (-1) = (P2.length : Int) + (W.length : Int) by simp; omega]
      exact ih (P1 ++ [y]) (by rw [← hp]; simp)
  refine eMo_qBracket_E _ ?_
  have := key P [] rfl
  have e4 := h.2.2.2.1.1
  simp at hl
  rw [e4, w32_id (by simp; omega) (by simp; omega), show (((P ++ x :: W).length : Nat) : Int) - 1 = (P.length : Int) + (W.length : Int) by simp; omega]
  exact this
theorem g_brk0 {P : List Int} (hd : 0 < d) (hz : z ≤ 1650) (hP : ∀ p ∈ P, ¬ (20 ≤ p ∧ p ≤ 24)) (hb : b = (W.length : Int)) (h : mG T n M0 q C (P ++ W) o b z M) : eMo_qBracket Lg d M = some (-1, M) := by
  have hb' := h.2.2.2.2.2.1
  have hl : C.length + (P ++ W).length ≤ z := h.2.2.2.2.2.2
  have key : ∀ (P2 P1 : List Int), P1 ++ P2 = P → eMo_qBracket_7 Lg d ((P2.length : Int) + (W.length : Int) - 1) M = some (-1, M) := by
    intro P2
    induction P2 with
    | nil =>
      intro P1 hp
      refine eMo_qBracket_7_E (by omega) _ ?_
      rw [hb', if_pos (by simp; omega), if_pos (by simp; omega)]
    | cons y P2 ih =>
      intro P1 hp
      refine eMo_qBracket_7_E (by omega) _ ?_
      have e := zStk_at P1 (P2 ++ W) y (by
        have := h.2.2.2.1.2
        rw [← hp] at this
        simpa using this)
      have hl2 : (P2 ++ W).length = P2.length + W.length := by simp
      rw [hl2] at e
      rw [← hp] at hl
      simp at hl
      rw [hb', if_neg (by simp; omega), if_pos (by simp; omega), show ((((y :: P2).length : Nat) : Int) + (W.length : Int) - 1).toNat = P2.length + W.length by simp; omega, e, bz_b0.mpr (hP y (by rw [← hp]; simp)), if_pos rfl, w32_id (by simp; omega) (by simp; omega), show (((y :: P2).length : Nat) : Int) + (W.length : Int) - 1 + (-1) = (P2.length : Int) + (W.length : Int) - 1 by simp; omega]
      exact ih (P1 ++ [y]) (by rw [← hp]; simp)
  refine eMo_qBracket_E _ ?_
  have := key P [] rfl
  have e4 := h.2.2.2.1.1
  simp at hl
  rw [e4, w32_id (by simp; omega) (by simp; omega), show (((P ++ W).length : Nat) : Int) - 1 = (P.length : Int) + (W.length : Int) - 1 by simp]
  exact this
/-- a part ends: what was asked of a column comes behind it -/
theorem g_ends {W' : List Int} (hd : 1 < d) (hz : z ≤ 1650) (hW : W'.headD 0 < 60) (hb : b ≤ (W'.length : Int)) (hb0 : 0 ≤ b) (ho6 : o ≤ 6) : ∀ (O : List Int) (C : List Int) (M : bz_M), (∀ p ∈ O, 60 ≤ p) → o + O.length ≤ 6 → mG T n M0 q C (O ++ W') (o + O.length) b z M → w_T (eMo_qEndsPart Lg d M) (fun M' => mG T n M0 q (C ++ O) W' o b z M')
  | [], C, M, _, _, h => by
    have hb' := h.2.2.2.2.2.1
    have h5 := h.2.1.2.2.2.2.2.1
    have hl := h.2.2.2.2.2.2
    refine T_le (eMo_qEndsPart_E (by omega)) ?_
    rw [if_pos h5, hb']
    rw [List.append_nil]
    cases W' with
    | nil =>
      have e4 := h.2.2.2.1.1
      simp at e4
      rw [e4, if_neg (by omega)]
      exact T_some h
    | cons x W' =>
      have ht := g_top (W := W') h
      have hW0 : x < 60 := hW
      rw [ht.1]
      by_cases c : b < (W'.length : Int) + 1
      · rw [if_pos c, w32_id (by omega) (by omega), if_pos (by omega), show ((W'.length : Int) + 1 - 1).toNat = W'.length by omega, ht.2.1, if_pos hW0]
        exact T_some h
      · rw [if_neg c]
        exact T_some h
  | x :: O, C, M, hO, hoO, h => by
    have hb' := h.2.2.2.2.2.1
    have h5 := h.2.1.2.2.2.2.2.1
    have ht := g_top (W := O ++ W') h
    have h60 := hO x (by simp)
    have hlen : ((O ++ W').length : Int) = (O.length : Int) + (W'.length : Int) := by simp
    rw [List.length_cons] at hoO
    refine T_le (eMo_qEndsPart_E (by omega)) ?_
    rw [if_pos h5, hb', ht.1, if_pos (by omega), w32_id (z := ((O ++ W').length : Int) + 1 - 1) (by omega) (by omega), if_pos (by omega), show (((O ++ W').length : Int) + 1 - 1).toNat = (O ++ W').length by omega, ht.2.1, if_neg (by omega), h.2.2.2.2.1, show bz_w32 (((o + (x :: O).length : Nat) : Int) - 1) = ((o + O.length : Nat) : Int) by rw [List.length_cons, w32_id (by omega) (by omega)]; omega]
    refine T_seq (g_drops (by omega) (g_o (x := o + O.length) h) hz) ?_
    intro M1 h1
    rw [ep_eq]
    refine T_mono (g_ends hd hz hW hb hb0 ho6 O (C ++ [x]) M1 (fun p hp => hO p (by simp [hp])) (by omega) h1) (fun M2 h2 => ?_)
    rw [List.append_assoc] at h2
    exact h2
/-- nots come behind what they deny -/
theorem g_nots {W' : List Int} (hd : 1 < d) (hz : z ≤ 1650) (hW : W'.headD 0 ≠ 12) : ∀ (N : Nat) (C : List Int) (M : bz_M), o + N ≤ 6 → mG T n M0 q C (List.replicate N 12 ++ W') (o + N) b z M → w_T (eMo_qDropsNots Lg d M) (fun M' => mG T n M0 q (C ++ List.replicate N 12) W' o b z M')
  | 0, C, M, _, h => by
    have h5 := h.2.1.2.2.2.2.2.1
    refine T_le (eMo_qDropsNots_E (by omega)) ?_
    rw [if_pos h5]
    refine T_run (g_isOn h hz (by decide)) ?_
    dsimp only
    rw [bz_b0.mpr (show ¬ (List.replicate 0 (12 : Int) ++ W').headD 0 = 12 from hW), if_pos rfl]
    rw [List.replicate_zero, List.append_nil]
    exact T_some h
  | N + 1, C, M, hoN, h => by
    have h5 := h.2.1.2.2.2.2.2.1
    rw [List.replicate_succ, List.cons_append] at h
    refine T_le (eMo_qDropsNots_E (by omega)) ?_
    rw [if_pos h5]
    refine T_run (g_isOn h hz (by decide)) ?_
    dsimp only
    rw [bz_b1.mpr (show (12 :: (List.replicate N (12 : Int) ++ W')).headD 0 = 12 from rfl), if_neg (by decide), h.2.2.2.2.1, show bz_w32 (((o + (N + 1) : Nat) : Int) - 1) = ((o + N : Nat) : Int) by rw [w32_id (by omega) (by omega)]; omega]
    refine T_seq (g_drops (by omega) (g_o (x := o + N) h) hz) ?_
    intro M1 h1
    rw [dn_eq]
    refine T_mono (g_nots hd hz hW N (C ++ [12]) M1 (by omega) h1) (fun M2 h2 => ?_)
    rw [List.append_assoc] at h2
    rw [List.replicate_succ]
    exact h2
theorem zStk_mem {A : Nat → Int} {x : Int} : ∀ (W : List Int), zStk A W → (x ∈ W ↔ ∃ j, j < W.length ∧ A j = x)
  | [], _ => by simp
  | y :: W, h => by
    have ih := zStk_mem (x := x) W h.2
    rw [List.mem_cons, ih, List.length_cons]
    constructor
    · rintro (rfl | ⟨j, h1, h2⟩)
      · exact ⟨W.length, by omega, h.1⟩
      · exact ⟨j, by omega, h2⟩
    · rintro ⟨j, h1, h2⟩
      by_cases e : j = W.length
      · rw [e, h.1] at h2; exact Or.inl h2.symm
      · exact Or.inr ⟨j, by omega, h2⟩
theorem g_sq2 (hz : z ≤ 1650) (h : mG T n M0 q C W o b z M) : ∀ (f k : Nat), k + f = W.length → (∀ j, j < k → M 409 j ≠ 25) → eMo_qHasSquare_2 Lg d (k : Int) M = some (bz_b ((25 : Int) ∈ W), M)
  | 0, k, hk, hj => by
    refine eMo_qHasSquare_2_E _ ?_
    rw [h.2.2.2.1.1, if_neg (by omega), bz_b0.mpr]
    rw [zStk_mem W h.2.2.2.1.2]
    rintro ⟨j, h1, h2⟩
    exact hj j (by omega) h2
  | f + 1, k, hk, hj => by
    have hl := h.2.2.2.2.2.2
    refine eMo_qHasSquare_2_E _ ?_
    rw [h.2.2.2.1.1, if_pos (by omega), if_pos (by omega), Int.toNat_natCast]
    by_cases c : M 409 k = 25
    · rw [if_pos c, bz_b1.mpr ((zStk_mem W h.2.2.2.1.2).mpr ⟨k, by omega, c⟩)]
    · rw [if_neg c, w32_id (by omega) (by omega)]
      exact g_sq2 hz h f (k + 1) (by omega) (fun j h' => by
        by_cases e : j = k
        · rw [e]; exact c
        · exact hj j (by omega))
theorem g_sq (hz : z ≤ 1650) (h : mG T n M0 q C W o b z M) : eMo_qHasSquare Lg d M = some (bz_b ((25 : Int) ∈ W), M) :=
  eMo_qHasSquare_E _ (g_sq2 hz h W.length 0 (by omega) (fun j hj => by omega))
end MG

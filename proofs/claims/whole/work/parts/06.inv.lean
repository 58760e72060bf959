/-! LOCALS, AND WHAT HOLDS ALONG A RUN -/
def bz_lr (ad : Nat → Nat) (L : bz_Ls) (ls : Array Slot) (nL : Nat) : Prop := ls.size = nL ∧ lv_wf ls ∧ L.length = nL ∧ ∀ (i : Nat) (v : bz_V), L[i]? = some (some v) → ls[i]? = some (.val (bz_mv ad v))
def bz_lv (ad : Nat → Nat) (L : bz_Ls) : List (Nat × Value) := (List.range L.length).filterMap (fun i => match L[i]? with
  | some (some v) => some (i, bz_mv ad v)
  | _ => none)
theorem bz_lv_mem {ad : Nat → Nat} {L : bz_Ls} {i : Nat} {x : Value} : (i, x) ∈ bz_lv ad L ↔ ∃ v, L[i]? = some (some v) ∧ x = bz_mv ad v := by
  unfold bz_lv
  rw [List.mem_filterMap]
  constructor
  · rintro ⟨j, -, h⟩
    cases hj : L[j]? with
    | none => rw [hj] at h; cases h
    | some o =>
      rw [hj] at h
      cases o with
      | none => cases h
      | some v => cases h; exact ⟨v, hj, rfl⟩
  · rintro ⟨v, h, rfl⟩
    exact ⟨i, List.mem_range.mpr (List.getElem?_eq_some_iff.mp h).1, by rw [h]⟩
theorem bz_lr.has {ad : Nat → Nat} {L : bz_Ls} {ls : Array Slot} {nL : Nat} (h : bz_lr ad L ls nL) : lv_has ls nL (bz_lv ad L) := by
  refine ⟨h.1, h.2.1, fun q hq => ?_⟩
  obtain ⟨i, x⟩ := q
  obtain ⟨v, h1, rfl⟩ := bz_lv_mem.mp hq
  exact h.2.2.2 i v h1
theorem bz_cat_mv (ad : Nat → Nat) (v : bz_V) : (bz_mv ad v).category = (match v with | .inr (.inl _) => 2 | _ => 1) := by
  rcases v with x | x | x
  · rfl
  · rfl
  · unfold bz_mv
    dsimp only
    split <;> rfl
theorem bz_cl1_len (L : bz_Ls) (i : Nat) : (bz_cl1 L i).length = L.length := by
  unfold bz_cl1
  split
  · rfl
  · split <;> simp
theorem bz_cl1_at {L : bz_Ls} {i j : Nat} {w : bz_V} (h : (bz_cl1 L i)[j]? = some (some w)) : L[j]? = some (some w) ∧ ¬ (j + 1 = i ∧ ∃ x, w = .inr (.inl x)) := by
  unfold bz_cl1 at h
  split at h
  · exact ⟨h, fun e => by omega⟩
  · rename_i k
    split at h
    · rename_i x hx
      by_cases e : k = j
      · subst e
        rw [List.getElem?_set] at h
        simp at h
      · rw [List.getElem?_set_ne e] at h
        exact ⟨h, fun q => e (by omega)⟩
    · rename_i hx
      refine ⟨h, fun q => ?_⟩
      obtain ⟨e, x, rfl⟩ := q
      have e2 : k = j := by omega
      subst e2
      exact hx x h
theorem bz_lr.st1 {ad : Nat → Nat} {L : bz_Ls} {ls ls' : Array Slot} {nL i : Nat} {v : bz_V} (h : bz_lr ad L ls nL) (hi : i < nL) (h' : lv_has ls' nL ((i, bz_mv ad v) :: (bz_lv ad L).filter (fun q => !(q.1 == i) && !(q.1 + 1 == i && q.2.category == 2)))) : bz_lr ad (bz_st1 L i v) ls' nL := by
  refine ⟨h'.1, h'.2.1, by unfold bz_st1; rw [List.length_set, bz_cl1_len]; exact h.2.2.1, fun j w hj => ?_⟩
  unfold bz_st1 at hj
  by_cases e : i = j
  · subst e
    rw [List.getElem?_set_self (by rw [bz_cl1_len, h.2.2.1]; exact hi)] at hj
    cases hj
    exact h'.2.2 _ List.mem_cons_self
  · rw [List.getElem?_set_ne e] at hj
    obtain ⟨g1, g2⟩ := bz_cl1_at hj
    refine h'.2.2 (j, bz_mv ad w) (List.mem_cons_of_mem _ (List.mem_filter.mpr ⟨bz_lv_mem.mpr ⟨w, g1, rfl⟩, ?_⟩))
    simp only [Bool.and_eq_true, Bool.not_eq_true', beq_eq_false_iff_ne, ne_eq, Bool.and_eq_false_iff]
    refine ⟨fun q => e q.symm, ?_⟩
    by_cases e2 : j + 1 = i
    · right
      rw [bz_cat_mv]
      rcases w with x | x | x
      · show ¬ (1 = 2); decide
      · exact absurd ⟨e2, x, rfl⟩ g2
      · show ¬ (1 = 2); decide
    · left; exact e2
theorem bz_lr.st2 {ad : Nat → Nat} {L : bz_Ls} {ls ls' : Array Slot} {nL i : Nat} {v : bz_V} (h : bz_lr ad L ls nL) (hi : i + 1 < nL) (h' : lv_has ls' nL ((i, bz_mv ad v) :: (bz_lv ad L).filter (fun q => !(q.1 == i) && (!(q.1 == i + 1) && !(q.1 + 1 == i && q.2.category == 2))))) : bz_lr ad (bz_st2 L i v) ls' nL := by
  refine ⟨h'.1, h'.2.1, by unfold bz_st2; rw [List.length_set, List.length_set, bz_cl1_len]; exact h.2.2.1, fun j w hj => ?_⟩
  unfold bz_st2 at hj
  by_cases e1 : i + 1 = j
  · subst e1
    rw [List.getElem?_set_self (by rw [List.length_set, bz_cl1_len, h.2.2.1]; exact hi)] at hj
    cases hj
  rw [List.getElem?_set_ne e1] at hj
  by_cases e : i = j
  · subst e
    rw [List.getElem?_set_self (by rw [bz_cl1_len, h.2.2.1]; omega)] at hj
    cases hj
    exact h'.2.2 _ List.mem_cons_self
  · rw [List.getElem?_set_ne e] at hj
    obtain ⟨g1, g2⟩ := bz_cl1_at hj
    refine h'.2.2 (j, bz_mv ad w) (List.mem_cons_of_mem _ (List.mem_filter.mpr ⟨bz_lv_mem.mpr ⟨w, g1, rfl⟩, ?_⟩))
    simp only [Bool.and_eq_true, Bool.not_eq_true', beq_eq_false_iff_ne, ne_eq, Bool.and_eq_false_iff]
    refine ⟨fun q => e q.symm, fun q => e1 q.symm, ?_⟩
    by_cases e2 : j + 1 = i
    · right
      rw [bz_cat_mv]
      rcases w with x | x | x
      · show ¬ (1 = 2); decide
      · exact absurd ⟨e2, x, rfl⟩ g2
      · show ¬ (1 = 2); decide
    · left; exact e2
theorem bz_fg_len (ks : List Nat) : ∀ (L : bz_Ls), (bz_fg ks L).length = L.length := by
  induction ks with
  | nil => intro L; rfl
  | cons k ks ih => intro L; show (bz_fg ks (L.set k none)).length = _; rw [ih, List.length_set]
theorem bz_fg_at (ks : List Nat) : ∀ (L : bz_Ls) (i : Nat) (v : bz_V), (bz_fg ks L)[i]? = some (some v) → L[i]? = some (some v) := by
  induction ks with
  | nil => intro L i v h; exact h
  | cons k ks ih =>
    intro L i v h
    have h1 := ih (L.set k none) i v h
    by_cases e : k = i
    · subst e
      rw [List.getElem?_set] at h1
      simp at h1
    · rw [List.getElem?_set_ne e] at h1
      exact h1
theorem bz_lr.fg {ad : Nat → Nat} {L : bz_Ls} {ls : Array Slot} {nL : Nat} (ks : List Nat) (h : bz_lr ad L ls nL) : bz_lr ad (bz_fg ks L) ls nL :=
  ⟨h.1, h.2.1, by rw [bz_fg_len]; exact h.2.2.1, fun i v hv => h.2.2.2 i v (bz_fg_at ks L i v hv)⟩
/-- a value is one -/
def bz_vw (N : Nat) (v : bz_V) : Prop := match v with
  | .inl x => bz_in32 x
  | .inr (.inl x) => bz_in64 x
  | .inr (.inr n) => n ≤ N
def bz_rg (t N : Nat) (x : Int) : Prop := match t with
  | 1 => bz_in64 x
  | 2 => 0 ≤ x ∧ x.toNat ≤ N
  | _ => bz_in32 x
def bz_tr (kd : Nat → Option bz_Kd) (tc : Nat → Nat → Nat) (r k : Nat) : Nat := match kd r with
  | some (.inl ci) => tc ci k
  | some (.inr (t, _)) => if t = 1 then 1 else if t = 5 ∨ t = 6 then 2 else 0
  | none => 0
def bz_wfM (kd : Nat → Option bz_Kd) (tc : Nat → Nat → Nat) (sM : bz_M) (wl : List (Nat × Nat × Nat)) (w : Bool) (M : bz_M) : Prop :=
  bz_ns ≤ bz_Nn M ∧ (∀ r k, r ≠ 0 → r ≤ bz_Nn M → bz_rg (bz_tr kd tc r k) (bz_Nn M) (M r k)) ∧ (∀ r, r ≠ 0 → r ≤ bz_ns → M r = sM r) ∧ (w = true → ∀ q ∈ wl, M q.1 q.2.1 = (q.2.2 : Int) ∧ q.1 ≠ 0 ∧ q.1 ≤ bz_Nn M)
def bz_Lw (N : Nat) (L : bz_Ls) : Prop := ∀ (i : Nat) (v : bz_V), L[i]? = some (some v) → bz_vw N v
def bz_Sw (N : Nat) (st : bz_S) : Prop := ∀ v ∈ st, bz_vw N v
theorem bz_vw.mono {N N' : Nat} (h : N ≤ N') {v : bz_V} (hv : bz_vw N v) : bz_vw N' v := by
  rcases v with x | x | x
  · exact hv
  · exact hv
  · exact Nat.le_trans hv h
theorem bz_Lw.st1 {N : Nat} {L : bz_Ls} {i : Nat} {v : bz_V} (h : bz_Lw N L) (hv : bz_vw N v) : bz_Lw N (bz_st1 L i v) := by
  intro j w hj
  unfold bz_st1 at hj
  by_cases e : i = j
  · subst e
    rw [List.getElem?_set] at hj
    simp at hj
    rw [← hj.2]; exact hv
  · rw [List.getElem?_set_ne e] at hj
    exact h j w (bz_cl1_at hj).1
theorem bz_Lw.st2 {N : Nat} {L : bz_Ls} {i : Nat} {v : bz_V} (h : bz_Lw N L) (hv : bz_vw N v) : bz_Lw N (bz_st2 L i v) := by
  intro j w hj
  unfold bz_st2 at hj
  by_cases e1 : i + 1 = j
  · subst e1
    rw [List.getElem?_set] at hj
    simp at hj
  rw [List.getElem?_set_ne e1] at hj
  exact bz_Lw.st1 h hv j w hj
theorem bz_Lw.fg {N : Nat} {L : bz_Ls} (ks : List Nat) (h : bz_Lw N L) : bz_Lw N (bz_fg ks L) := fun i v hv => h i v (bz_fg_at ks L i v hv)
theorem bz_Sw.cons {N : Nat} {st : bz_S} {v : bz_V} (hv : bz_vw N v) (h : bz_Sw N st) : bz_Sw N (v :: st) := fun w hw => (List.mem_cons.mp hw).elim (fun e => e ▸ hv) (h w)
theorem bz_Sw.head {N : Nat} {st : bz_S} {v : bz_V} (h : bz_Sw N (v :: st)) : bz_vw N v := h v List.mem_cons_self
theorem bz_Sw.tail {N : Nat} {st : bz_S} {v : bz_V} (h : bz_Sw N (v :: st)) : bz_Sw N st := fun w hw => h w (List.mem_cons_of_mem _ hw)
theorem bz_up_rg {kd : Nat → Option bz_Kd} {tc : Nat → Nat → Nat} {sM : bz_M} {wl : List (Nat × Nat × Nat)} {w : Bool} {M : bz_M} {r k : Nat} {x : Int} (h : bz_wfM kd tc sM wl w M) (h1 : bz_ns < r) (h2 : r ≤ bz_Nn M) (hx : bz_rg (bz_tr kd tc r k) (bz_Nn M) x) (hw : w = true → ∀ q ∈ wl, ¬ (q.1 = r ∧ q.2.1 = k)) : bz_wfM kd tc sM wl w (bz_up M r k x) := by
  obtain ⟨g1, g2, g3, g4⟩ := h
  have hN : bz_Nn (bz_up M r k x) = bz_Nn M := bz_Nn_up (by omega)
  refine ⟨by rw [hN]; exact g1, fun r' k' h3 h4 => ?_, fun r' h3 h4 => ?_, fun hw' q hq => ?_⟩
  · rw [hN] at h4 ⊢
    by_cases e : r' = r
    · subst e
      by_cases e2 : k' = k
      · subst e2; rw [bz_up_same]; exact hx
      · rw [bz_up_k M r' x e2]; exact g2 r' k' h3 h4
    · rw [bz_up_r M k x e]; exact g2 r' k' h3 h4
  · rw [bz_up_r M k x (by omega)]; exact g3 r' h3 h4
  · obtain ⟨a1, a2, a3⟩ := g4 hw' q hq
    refine ⟨?_, a2, by rw [hN]; exact a3⟩
    have hne := hw hw' q hq
    by_cases e : q.1 = r
    · have e2 : q.2.1 ≠ k := fun e2 => hne ⟨e, e2⟩
      rw [e, bz_up_k M r x e2, ← e]; exact a1
    · rw [bz_up_r M k x e]; exact a1

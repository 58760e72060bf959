/-! THE REFERENCE'S CODES -/
def mFr (M M' : bz_M) : Prop := (∀ r, r ≠ 410 → r ≠ 319 → M' r = M r) ∧ ∀ k, k ≠ 127 → M' 319 k = M 319 k
def mSt (M : bz_M) (st : List Int) : Prop := M 319 127 = (st.length : Int) ∧ zStk (M 410) st
theorem mFr_refl (M : bz_M) : mFr M M := ⟨fun _ _ _ => rfl, fun _ _ => rfl⟩
theorem mFr_trans {A B C : bz_M} (h : mFr A B) (g : mFr B C) : mFr A C := ⟨fun r h1 h2 => (g.1 r h1 h2).trans (h.1 r h1 h2), fun k hk => (g.2 k hk).trans (h.2 k hk)⟩
theorem mFr_a (M : bz_M) (k : Nat) (v : Int) : mFr M (bz_up M 410 k v) := ⟨fun _ h1 _ => bz_up_fn h1, fun _ _ => bz_up_nr (by decide) _⟩
theorem mFr_b (M : bz_M) (v : Int) : mFr M (bz_up M 319 127 v) := ⟨fun _ _ h2 => bz_up_fn h2, fun _ hk => bz_up_nk hk _⟩
theorem mo_puts {Lg d n : Nat} {v : Int} {M : bz_M} (h : M 319 127 = (n : Int)) (hn : n < 1700) : eMo_qPuts Lg d v M = some (bz_up (bz_up M 410 n v) 319 127 ((n : Int) + 1)) := by
  refine eMo_qPuts_E _ ?_
  rw [h, if_pos (by omega), Int.toNat_natCast, w32_id (by omega) (by omega)]
theorem mo_push {M : bz_M} {st : List Int} {v : Int} (h : mSt M st) : mSt (bz_up (bz_up M 410 st.length v) 319 127 ((st.length : Int) + 1)) (v :: st) ∧ mFr M (bz_up (bz_up M 410 st.length v) 319 127 ((st.length : Int) + 1)) := by
  refine ⟨⟨by rw [bz_up_eq]; simp, ?_, ?_⟩, mFr_trans (mFr_a _ _ _) (mFr_b _ _)⟩
  · rw [bz_up_nr (by decide), bz_up_eq]
  · exact zStk_co (fun k hk => by rw [bz_up_nr (by decide), bz_up_nk (by omega)]) h.2
theorem mo_clip {Lg d : Nat} {a : Int} {M : bz_M} : eMo_qClip Lg d a M = some (pClip a, M) := by
  refine eMo_qClip_E _ ?_
  simp only [lcmp_gt, lcmp_lt]
  unfold pClip
  by_cases h1 : 1000000 < a
  · rw [if_pos h1]; congr 2; omega
  · rw [if_neg h1]
    by_cases h2 : a < -1000000
    · rw [if_pos h2]; congr 2; omega
    · rw [if_neg h2]; congr 2; omega
theorem mo_floor {Lg d : Nat} {a b : Int} {M : bz_M} (h1 : -1000000 ≤ a) (h2 : a ≤ 1000000) : eMo_qFloor Lg d a b M = some (pFl a b, M) := by
  have ht := tdiv_bd (b := b) h1 h2
  have e1 : bz_w64 (Int.tdiv a b) = Int.tdiv a b := w64_id (by omega) (by omega)
  have e2 : bz_w64 (Int.tdiv a b - 1) = Int.tdiv a b - 1 := w64_id (by omega) (by omega)
  refine eMo_qFloor_E _ ?_
  simp only [lcmp_eq, lcmp_lt, e1, e2]
  unfold pFl
  by_cases hb : b = 0
  · simp [hb]
  · simp only [if_neg hb]
    repeat' split
    all_goals first | rfl | omega
theorem mo_joins {Lg d n : Nat} {op a b : Int} {M : bz_M} (hd : 0 < d) (h : M 319 127 = (n : Int) + 2) (hn : n + 2 ≤ 1700) (ha : M 410 n = a) (hb : M 410 (n + 1) = b) (h1 : 1 ≤ op) (h2 : op ≤ 11) (hN : op ≤ 9 → (-1000000 ≤ a ∧ a ≤ 1000000) ∧ (-1000000 ≤ b ∧ b ≤ 1000000)) (hT : 10 ≤ op → (a = 0 ∨ a = 1) ∧ (b = 0 ∨ b = 1)) : eMo_qJoins Lg d op M = some (bz_up (bz_up (bz_up M 319 127 (n : Int)) 410 n (pJoin op a b)) 319 127 ((n : Int) + 1)) := by
  have hop : op = 1 ∨ op = 2 ∨ op = 3 ∨ op = 4 ∨ op = 5 ∨ op = 6 ∨ op = 7 ∨ op = 8 ∨ op = 9 ∨ op = 10 ∨ op = 11 := by omega
  have hp : ∀ v, eMo_qPuts Lg (d - 1) v (bz_up M 319 127 (n : Int)) = some (bz_up (bz_up (bz_up M 319 127 (n : Int)) 410 n v) 319 127 ((n : Int) + 1)) := fun v => mo_puts (bz_up_eq _ _ _ _) (by omega)
  have w1 : bz_w32 ((n : Int) + 2 - 1) = ((n + 1 : Nat) : Int) := by rw [w32_id (by omega) (by omega)]; omega
  have w2 : bz_w32 ((n : Int) + 2 - 2) = (n : Int) := by rw [w32_id (by omega) (by omega)]; omega
  refine eMo_qJoins_E hd _ ?_
  simp only [h, w1, w2, Int.toNat_natCast, ha, hb, mo_clip, Option.bind_some, hp, lcmp_lt, lcmp_gt, lcmp_eq]
  rw [if_pos (by omega), if_pos (by omega)]
  rcases hop with rfl | rfl | rfl | rfl | rfl | rfl | rfl | rfl | rfl | rfl | rfl
  · obtain ⟨ha, hb⟩ := hN (by omega)
    simp [pJoin, w64_id (z := a + b) (by omega) (by omega)]
  · obtain ⟨ha, hb⟩ := hN (by omega)
    simp [pJoin, w64_id (z := a - b) (by omega) (by omega)]
  · obtain ⟨ha, hb⟩ := hN (by omega)
    have hm := mul_bd ha.1 ha.2 hb.1 hb.2
    simp [pJoin, w64_id (z := a * b) (by omega) (by omega)]
  · obtain ⟨ha, hb⟩ := hN (by omega)
    simp [pJoin, mo_floor ha.1 ha.2, hp]
  · by_cases hh : a < b <;> simp [pJoin, hh]
  · by_cases hh : b < a <;> simp [pJoin, hh]
  · by_cases hh : a < b <;> simp [pJoin, bz_b, hh]
  · by_cases hh : b < a <;> simp [pJoin, bz_b, hh]
  · by_cases hh : a = b <;> simp [pJoin, bz_b, hh]
  · obtain ⟨ha, hb⟩ := hT (by omega)
    have hm : -1 ≤ a * b ∧ a * b ≤ 1 := by rcases ha with rfl | rfl <;> rcases hb with rfl | rfl <;> simp
    simp [pJoin, w64_id (z := a * b) (by omega) (by omega)]
  · obtain ⟨ha, hb⟩ := hT (by omega)
    have e : bz_w64 (a + b) = a + b := w64_id (by omega) (by omega)
    by_cases hh : 0 < a + b <;> simp [pJoin, bz_b, hh, e]
/-- an op that joins: its two values -/
theorem pT1_two {op : Int} {ts t1 : List Bool} {st : List Int} (h1 : 1 ≤ op) (h2 : op ≤ 11) (ht : pT1 op ts = some t1) (hv : pV ts st) : ∃ b a r, st = b :: a :: r ∧ (op ≤ 9 → (-1000000 ≤ a ∧ a ≤ 1000000) ∧ (-1000000 ≤ b ∧ b ≤ 1000000)) ∧ (10 ≤ op → (a = 0 ∨ a = 1) ∧ (b = 0 ∨ b = 1)) := by
  unfold pT1 at ht
  rw [if_neg (by omega), if_neg (by omega), if_neg (by omega), if_neg (by omega), if_neg (by omega)] at ht
  split at ht
  · split at ht
    · match st, hv with
      | b :: a' :: r, hv => exact ⟨b, a', r, rfl, fun h => by omega, fun _ => ⟨by have := hv.2.1; simpa using this, by have := hv.1; simpa using this⟩⟩
    · cases ht
  · split at ht
    · split at ht
      · match st, hv with
        | b :: a' :: r, hv => exact ⟨b, a', r, rfl, fun _ => ⟨by have := hv.2.1; simpa using this, by have := hv.1; simpa using this⟩, fun h => by omega⟩
      · cases ht
    · split at ht
      · match st, hv with
        | b :: a' :: r, hv => exact ⟨b, a', r, rfl, fun _ => ⟨by have := hv.2.1; simpa using this, by have := hv.1; simpa using this⟩, fun h => by omega⟩
      · cases ht
theorem pT1_one {op : Int} {ts t1 : List Bool} {st : List Int} (h1 : op = 12 ∨ op = 60 ∨ op = 61) (ht : pT1 op ts = some t1) (hv : pV ts st) : ∃ x r, st = x :: r ∧ (op = 12 → x = 0 ∨ x = 1) ∧ (60 ≤ op → -1000000 ≤ x ∧ x ≤ 1000000) := by
  unfold pT1 at ht
  rcases h1 with rfl | rfl | rfl
  · simp at ht
    split at ht
    · match st, hv with
      | x :: r, hv => exact ⟨x, r, rfl, fun _ => by have := hv.1; simpa using this, fun h => by omega⟩
    · cases ht
  all_goals
    simp at ht
    split at ht
    · match st, hv with
      | x :: r, hv => exact ⟨x, r, rfl, fun h => by omega, fun _ => by have := hv.1; simpa using this⟩
    · cases ht
/-- one op, but for parts and of, done to the pile -/
theorem mo_joins2 {Lg d : Nat} {op a b : Int} {r : List Int} {M : bz_M} (hd : 0 < d) (h : mSt M (b :: a :: r)) (hl : r.length + 2 ≤ 64) (h1 : 1 ≤ op) (h2 : op ≤ 11) (hN : op ≤ 9 → (-1000000 ≤ a ∧ a ≤ 1000000) ∧ (-1000000 ≤ b ∧ b ≤ 1000000)) (hT : 10 ≤ op → (a = 0 ∨ a = 1) ∧ (b = 0 ∨ b = 1)) : ∃ M', eMo_qJoins Lg d op M = some M' ∧ mSt M' (pJoin op a b :: r) ∧ mFr M M' := by
  refine ⟨_, mo_joins hd (n := r.length) (by have := h.1; simp at this; omega) (by omega) h.2.2.1 h.2.1 h1 h2 hN hT, ⟨by rw [bz_up_eq]; simp, ?_, ?_⟩, mFr_trans (mFr_b _ _) (mFr_trans (mFr_a _ _ _) (mFr_b _ _))⟩
  · rw [bz_up_nr (by decide), bz_up_eq]
  · exact zStk_co (fun k hk => by rw [bz_up_nr (by decide), bz_up_nk (by omega), bz_up_nr (by decide)]) h.2.2.2
theorem mo_neg {x : Int} {r : List Int} {M : bz_M} (h : mSt M (x :: r)) (y : Int) : mSt (bz_up M 410 r.length y) (y :: r) ∧ mFr M (bz_up M 410 r.length y) :=
  ⟨⟨by rw [bz_up_nr (by decide)]; exact h.1, bz_up_eq _ _ _ _, zStk_co (fun k hk => bz_up_nk (by omega) _) h.2.2⟩, mFr_a _ _ _⟩
/-- the codes of a valley: one op -/
theorem mo_step {Lg d k : Nat} {w : Int} {M : bz_M} {F : Int → Int} {G : Int → Int → Int} {op : Int} {st : List Int} {ts t1 : List Bool} (hd : 1 < d) (hw : w = 0 ∨ w = 1) (hF : 40 ≤ op → op < 60 → eMo_qPartOf Lg (d - 1) (op - 40) 0 M = some (F (op - 40), M)) (hO : ¬ (60 ≤ op ∧ op < 1000)) (ho : pOp op) (ht : pT1 op ts = some t1) (hl0 : st.length ≤ 64) (hv : pV ts st) (hs : mSt M st) (hk : M 363 (1600 + k) = op) (hkb : k < 1600) (hsz : (k : Int) < M 362 (Int.toNat (2 + w))) : ∃ M', mSt M' (pStep F G op st) ∧ mFr M M' ∧ bz_le (eMo_codesTell_19 Lg d w ((k : Int) + 1) M') (eMo_codesTell_19 Lg d w (k : Int) M) := by
  have ww : bz_w32 (2 + w) = 2 + w := w32_id (by omega) (by omega)
  have wk : bz_w32 ((k : Int) + 1) = (k : Int) + 1 := w32_id (by omega) (by omega)
  have wi : bz_w32 (1600 + (k : Int)) = ((1600 + k : Nat) : Int) := by rw [w32_id (by omega) (by omega)]; omega
  have hE := eMo_codesTell_19_E (Lg := Lg) (d := d) (x1 := w) (x2 := (k : Int)) (M := M) (by omega)
  rw [ww, if_pos (by omega), if_pos hsz, wi, if_pos (by omega), Int.toNat_natCast, hk, wk] at hE
  unfold pOp at ho
  unfold pStep
  by_cases h1 : 1000 ≤ op
  · rw [if_pos h1, ]
    rw [if_neg (by omega), w32_id (by omega) (by omega), mo_puts hs.1 (by omega), Option.bind_some] at hE
    exact ⟨_, (mo_push hs).1, (mo_push hs).2, hE⟩
  rw [if_neg h1]
  rw [if_pos (by omega)] at hE
  have h2 : ¬ 60 ≤ op := by omega
  rw [if_neg h2]
  by_cases h3 : 40 ≤ op
  · rw [if_pos h3]
    rw [if_neg (by omega), w32_id (by omega) (by omega), hF h3 (by omega), Option.bind_some, mo_puts hs.1 (by omega), Option.bind_some] at hE
    exact ⟨_, (mo_push hs).1, (mo_push hs).2, hE⟩
  rw [if_neg h3]
  rw [if_pos (by omega)] at hE
  by_cases h4 : op = 13
  · rw [if_pos h4]
    rw [if_pos h4, mo_puts hs.1 (by omega), Option.bind_some] at hE
    exact ⟨_, (mo_push hs).1, (mo_push hs).2, hE⟩
  rw [if_neg h4]
  rw [if_neg h4] at hE
  by_cases h5 : op = 12
  · rw [if_pos h5]
    rw [if_pos h5] at hE
    obtain ⟨x, r, rfl, hx, _⟩ := pT1_one (Or.inl h5) ht hv
    have hx := hx h5
    have w1 : bz_w32 (M 319 127 - 1) = (r.length : Int) := by rw [hs.1]; simp only [List.length_cons] at hl0 ⊢; rw [w32_id (by omega) (by omega)]; omega
    simp only [List.length_cons] at hl0
    rw [w1, if_pos (by omega), Int.toNat_natCast, hs.2.1, w64_id (by omega) (by omega)] at hE
    exact ⟨_, (mo_neg hs (1 - x)).1, (mo_neg hs (1 - x)).2, hE⟩
  rw [if_neg h5]
  rw [if_neg h5] at hE
  obtain ⟨b, a, r, rfl, hN, hT⟩ := pT1_two (by omega) (by omega) ht hv
  simp only [List.length_cons] at hl0
  obtain ⟨M', e, hs', hf⟩ := mo_joins2 (Lg := Lg) (d := d - 1) (by omega) hs (by omega) (by omega) (by omega) hN hT
  rw [e, Option.bind_some] at hE
  exact ⟨M', hs', hf, hE⟩
theorem mo_loop {Lg d : Nat} {w : Int} {M0 : bz_M} {Ao : Int → Prop} {F : Int → Int} {G : Int → Int → Int} {x : Int} (hd : 1 < d) (hw : w = 0 ∨ w = 1) (hFb : ∀ p, -1000000 ≤ F p ∧ F p ≤ 1000000) (hGb : ∀ p x, -1000000 ≤ G p x ∧ G p x ≤ 1000000) (hF : ∀ p M, mFr M0 M → 0 ≤ p → p ≤ 17 → Ao (40 + p) → eMo_qPartOf Lg (d - 1) p 0 M = some (F p, M)) (hO : ∀ op, Ao op → ¬ (60 ≤ op ∧ op < 1000)) : ∀ (ops : List Int) (k : Nat) (st : List Int) (ts ts' : List Bool) (M : bz_M), mFr M0 M → (∀ op ∈ ops, Ao op) → pOK ops ts ts' → pV ts st → st.length ≤ 64 → mSt M st → zSeg (M0 363) (1600 + k) ops → M0 362 (Int.toNat (2 + w)) = (k : Int) + (ops.length : Int) → k + ops.length ≤ 1600 → pEv F G ops st = [x] → w_T (eMo_codesTell_19 Lg d w (k : Int) M) (fun p => p.1 = x ∧ mFr M0 p.2)
  | [], k, st, ts, ts', M, hfr, hA, hok, hv, hl, hs, hseg, hsz, hb, hx => by
    unfold pEv at hx
    subst hx
    refine T_le (eMo_codesTell_19_E (by omega)) ?_
    rw [w32_id (by omega) (by omega), if_pos (by omega), hfr.1 362 (by decide) (by decide), hsz, if_neg (by simp)]
    exact T_some ⟨hs.2.1, hfr⟩
  | op :: ops, k, st, ts, ts', M, hfr, hA, hok, hv, hl, hs, hseg, hsz, hb, hx => by
    obtain ⟨ho, t1, ht, hl1, hok'⟩ := hok
    simp only [List.length_cons] at hsz hb
    have ha := hA op List.mem_cons_self
    obtain ⟨M', hs', hf', hle⟩ := mo_step (Lg := Lg) (F := F) (G := G) (d := d) (k := k) (M := M) hd hw (fun h1 h2 => hF _ M hfr (by omega) (by unfold pOp at ho; omega) (by rw [show (40 + (op - 40) : Int) = op by omega]; exact ha)) (hO op ha) ho ht hl hv hs (by rw [hfr.1 363 (by decide) (by decide)]; exact hseg.1) (by omega) (by rw [hfr.1 362 (by decide) (by decide), hsz]; omega)
    have hv1 := pStep_V hFb hGb ho ht hv
    have hlen := pV_len hv1
    unfold pEv at hx
    have ih := mo_loop hd hw hFb hGb hF hO ops (k + 1) _ t1 ts' M' (mFr_trans hfr hf') (fun o ho => hA o (List.mem_cons_of_mem _ ho)) hok' hv1 (by omega) hs' hseg.2 (by rw [hsz]; push_cast; omega) (by omega) hx
    exact T_le hle (by simpa using ih)
theorem mo_codes {Lg d k : Nat} {w : Int} {M : bz_M} {Ao : Int → Prop} {F : Int → Int} {G : Int → Int → Int} {x : Int} {ops : List Int} {t : Bool} (hd : 1 < d) (hw : w = 0 ∨ w = 1) (hFb : ∀ p, -1000000 ≤ F p ∧ F p ≤ 1000000) (hGb : ∀ p x, -1000000 ≤ G p x ∧ G p x ≤ 1000000) (hF : ∀ p M', mFr (bz_up (bz_up M 319 61 w) 319 127 0) M' → 0 ≤ p → p ≤ 17 → Ao (40 + p) → eMo_qPartOf Lg (d - 1) p 0 M' = some (F p, M')) (hO : ∀ op, Ao op → ¬ (60 ≤ op ∧ op < 1000)) (hA : ∀ op ∈ ops, Ao op) (hok : pOK ops [] [t]) (hseg : zSeg (M 363) (1600 + k) ops) (hfrom : M 361 (Int.toNat (2 + w)) = (k : Int)) (hsz : M 362 (Int.toNat (2 + w)) = (k : Int) + (ops.length : Int)) (hb : k + ops.length ≤ 1600) (hx : pEv F G ops [] = [x]) : w_T (eMo_codesTell Lg d w M) (fun p => p.1 = x ∧ mFr (bz_up (bz_up M 319 61 w) 319 127 0) p.2) := by
  refine T_le eMo_codesTell_E ?_
  rw [w32_id (by omega) (by omega), if_pos (by omega), hfrom]
  exact mo_loop hd hw hFb hGb hF hO ops k [] [] [t] _ (mFr_refl _) hA hok trivial (by simp) ⟨bz_up_eq _ _ _ _, trivial⟩ (by rw [bz_up_fn (by decide), bz_up_fn (by decide)]; exact hseg) (by rw [bz_up_nr (by decide), bz_up_nr (by decide)]; exact hsz) hb hx

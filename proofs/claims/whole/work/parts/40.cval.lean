/-! THE CLASS'S CODES -/
def cG (A : Nat → Int) (q x : Int) : Int := if x < 0 then -1 else if x < A 18 then (if x < 10 then A (Int.toNat (19 + 10 * q + x)) else -1) else -1
theorem land01 {a b : Int} (ha : a = 0 ∨ a = 1) (hb : b = 0 ∨ b = 1) : bz_land a b = a * b := by
  rcases ha with rfl | rfl <;> rcases hb with rfl | rfl <;> decide
theorem lor01 {a b : Int} (ha : a = 0 ∨ a = 1) (hb : b = 0 ∨ b = 1) : bz_lor a b = bz_b (0 < a + b) := by
  rcases ha with rfl | rfl <;> rcases hb with rfl | rfl <;> decide
theorem pClip_w {z : Int} : bz_w32 (max (-1000000) (min z 1000000)) = pClip z := by
  unfold pClip
  exact w32_id (by omega) (by omega)
theorem pClip_id {z : Int} (h1 : -1000000 ≤ z) (h2 : z ≤ 1000000) : pClip z = z := by
  unfold pClip; omega
theorem tdiv_bd {a b : Int} (h1 : -1000000 ≤ a) (h2 : a ≤ 1000000) : -1000000 ≤ Int.tdiv a b ∧ Int.tdiv a b ≤ 1000000 := by
  have : (Int.tdiv a b).natAbs ≤ a.natAbs := by
    rw [Int.natAbs_tdiv]; exact Nat.div_le_self _ _
  omega
theorem mul_bd {a b : Int} (h1 : -1000000 ≤ a) (h2 : a ≤ 1000000) (h3 : -1000000 ≤ b) (h4 : b ≤ 1000000) : -1000000000000 ≤ a * b ∧ a * b ≤ 1000000000000 := by
  have h : (a * b).natAbs ≤ 1000000 * 1000000 := by
    rw [Int.natAbs_mul]; exact Nat.mul_le_mul (by omega) (by omega)
  omega
theorem cd_j112 {Lg d : Nat} {b g x : Int} {M : bz_M} (h1 : -1000000 ≤ b) (h2 : b ≤ 1000000) (hx : x = 0 ∨ x = 1) : eCd_joined_112 Lg d b g x M = some (if g = 0 then 0 else Int.tdiv b g - x, M) := by
  have ht := tdiv_bd (b := g) h1 h2
  refine eCd_joined_112_E _ ?_
  simp only [lcmp_eq]
  have e1 : bz_w64 (Int.tdiv b g) = Int.tdiv b g := w64_id (by omega) (by omega)
  by_cases hg : g = 0
  · simp only [if_pos hg]
  · rcases hx with rfl | rfl
    · simp [hg, e1]
    · have e2 : bz_w64 (Int.tdiv b g - 1) = Int.tdiv b g - 1 := w64_id (by omega) (by omega)
      simp [hg, e1, e2]
theorem cd_joined {Lg d : Nat} {op a b : Int} {M : bz_M} (h1 : 1 ≤ op) (h2 : op ≤ 11) (hn : op ≤ 9 → (-1000000 ≤ a ∧ a ≤ 1000000) ∧ (-1000000 ≤ b ∧ b ≤ 1000000)) (ht : 10 ≤ op → (a = 0 ∨ a = 1) ∧ (b = 0 ∨ b = 1)) : ∃ z, eCd_joined Lg d (-op) a b M = some (z, M) ∧ bz_w32 (max (-1000000) (min z 1000000)) = pJoin op a b := by
  have hop : op = 1 ∨ op = 2 ∨ op = 3 ∨ op = 4 ∨ op = 5 ∨ op = 6 ∨ op = 7 ∨ op = 8 ∨ op = 9 ∨ op = 10 ∨ op = 11 := by omega
  have key : ∀ z, bz_w32 (max (-1000000) (min z 1000000)) = pClip z := fun z => pClip_w
  have hb0 : ∀ (c : Prop) [Decidable c], pClip (bz_b c) = bz_b c := fun c _ => by
    have := bz_b01 (c := c); exact pClip_id (by omega) (by omega)
  rcases hop with rfl | rfl | rfl | rfl | rfl | rfl | rfl | rfl | rfl | rfl | rfl
  · obtain ⟨ha, hb⟩ := hn (by omega)
    exact ⟨a + b, eCd_joined_E _ (by simp [w64_id (z := a + b) (by omega) (by omega)]), by rw [key]; simp [pJoin]⟩
  · obtain ⟨ha, hb⟩ := hn (by omega)
    exact ⟨a - b, eCd_joined_E _ (by simp [w64_id (z := a - b) (by omega) (by omega)]), by rw [key]; simp [pJoin]⟩
  · obtain ⟨ha, hb⟩ := hn (by omega)
    have hm := mul_bd ha.1 ha.2 hb.1 hb.2
    exact ⟨a * b, eCd_joined_E _ (by simp [w64_id (z := a * b) (by omega) (by omega)]), by rw [key]; simp [pJoin]⟩
  · obtain ⟨ha, hb⟩ := hn (by omega)
    refine ⟨pFl a b, eCd_joined_E _ ?_, ?_⟩
    · simp only [lcmp_eq, lcmp_lt, cd_j112 ha.1 ha.2 (Or.inl rfl), cd_j112 ha.1 ha.2 (Or.inr rfl)]
      simp
      unfold pFl
      by_cases hg : b = 0
      · simp [hg]
      · simp only [if_neg hg]
        repeat' split
        all_goals first | rfl | omega | simp_all
    · have := pFl_bd (b := b) ha.1 ha.2
      rw [key, pClip_id this.1 this.2]; simp [pJoin]
  · obtain ⟨ha, hb⟩ := hn (by omega)
    refine ⟨if a < b then a else b, eCd_joined_E _ ?_, ?_⟩
    · simp [lcmp_lt]; split <;> rfl
    · rw [key, pClip_id (by split <;> omega) (by split <;> omega)]; simp [pJoin]
  · obtain ⟨ha, hb⟩ := hn (by omega)
    refine ⟨if b < a then a else b, eCd_joined_E _ ?_, ?_⟩
    · simp [lcmp_gt]; split <;> rfl
    · rw [key, pClip_id (by split <;> omega) (by split <;> omega)]; simp [pJoin]
  · refine ⟨bz_b (a < b), eCd_joined_E _ ?_, ?_⟩
    · simp [lcmp_lt, bz_b]; split <;> rfl
    · rw [key, hb0]; simp [pJoin]
  · refine ⟨bz_b (b < a), eCd_joined_E _ ?_, ?_⟩
    · simp [lcmp_gt, bz_b]; split <;> rfl
    · rw [key, hb0]; simp [pJoin]
  · refine ⟨bz_b (a = b), eCd_joined_E _ ?_, ?_⟩
    · simp [lcmp_eq, bz_b]; split <;> rfl
    · rw [key, hb0]; simp [pJoin]
  · obtain ⟨ha, hb⟩ := ht (by omega)
    refine ⟨a * b, eCd_joined_E _ ?_, ?_⟩
    · simp [land01 ha hb]
    · rw [key, pClip_id (by rcases ha with rfl | rfl <;> rcases hb with rfl | rfl <;> simp) (by rcases ha with rfl | rfl <;> rcases hb with rfl | rfl <;> simp)]; simp [pJoin]
  · obtain ⟨ha, hb⟩ := ht (by omega)
    refine ⟨bz_b (0 < a + b), eCd_joined_E _ ?_, ?_⟩
    · simp [lor01 ha hb]
    · rw [key, hb0]; simp [pJoin]
theorem cd_not {Lg d g ng : Nat} {x : Int} {M : bz_M} (hg : bz_kd Lg g = some (.inr (0, ng))) (h : x = 0 ∨ x = 1) : eCd_changed Lg d (-12) x g M = some (1 - x, M) := by
  refine eCd_changed_E hg _ ?_
  rw [if_pos rfl, w32_id (by omega) (by omega)]
theorem cd_of {Lg d g : Nat} {q x : Int} {M : bz_M} (hg : bz_kd Lg g = some (.inr (0, 39))) (hq : q = 0 ∨ q = 1) (h1 : -1000000 ≤ x) (h2 : x ≤ 1000000) : eCd_changed Lg d (-13 - q) x g M = some (cG (M g) q x, M) := by
  refine eCd_changed_E hg _ ?_
  unfold cG
  rw [if_neg (by omega)]
  by_cases hx : x < 0
  · rw [if_pos hx, if_pos hx]
  · rw [if_neg hx, if_neg hx, if_pos (by omega)]
    by_cases h3 : x < M g 18
    · rw [if_pos h3, if_pos h3]
      by_cases h4 : x < 10
      · rw [if_pos h4, if_pos h4]
        simp (disch := omega) only [w32_id]
        rcases hq with rfl | rfl
        · rw [if_pos (by omega), if_pos (by omega), show (19 + 10 * 0 + x : Int) = 19 + x by omega]
        · rw [if_neg (by omega), if_pos (by omega), show (19 + 10 * 1 + x : Int) = 29 + x by omega]
      · rw [if_neg h4, if_neg h4]
    · rw [if_neg h3, if_neg h3]
theorem zStk_up {A : Nat → Int} {l : List Int} {k : Nat} {v : Int} (h : l.length ≤ k) (hs : zStk A l) : zStk (fun i => if i = k then v else A i) l := zStk_co (fun i hi => if_neg (by omega)) hs
theorem pOK_cons {op : Int} {ops : List Int} {ts ts' : List Bool} (h : pOK (op :: ops) ts ts') : pOp op ∧ ∃ t1, pT1 op ts = some t1 ∧ t1.length ≤ 64 ∧ pOK ops t1 ts' := h
theorem cd_step {Lg d c a k : Nat} {M : bz_M} {F : Int → Int} {G : Int → Int → Int} {Ao : Int → Prop} {op : Int} {st : List Int} {ts t1 : List Bool} (hd : 0 < d) (hc : bz_oC c) (ha : bz_kd Lg a = some (.inr (0, 39))) (hF : ∀ p, 0 ≤ p → p ≤ 17 → Ao (40 + p) → M a (Int.toNat p) = F p) (hG : ∀ q x, (q = 0 ∨ q = 1) → Ao (60 + q) → cG (M a) q x = G q x) (hA : Ao op) (ho : pOp op) (ht : pT1 op ts = some t1) (hl : t1.length ≤ 64) (hl0 : st.length ≤ 64) (hv : pV ts st) (hs : zStk (M (c + 2)) st) (hk : M (c + 1) k = pBk op) (hkb : k < 1600) (hsz : (k : Int) < M c 2) : ∃ v r, pStep F G op st = v :: r ∧ zStk (M (c + 2)) r ∧ bz_le (eCd_value_4 Lg d c a ((r.length : Int) + 1) ((k : Int) + 1) (bz_up M (c + 2) r.length v)) (eCd_value_4 Lg d c a (st.length : Int) (k : Int) M) := by
  have hlen := pV_len hv
  have ek : Int.toNat (k : Int) = k := Int.toNat_natCast k
  have wk : bz_w32 ((k : Int) + 1) = (k : Int) + 1 := w32_id (by omega) (by omega)
  have hE := eCd_value_4_E (Lg := Lg) (a := a) (x2 := (st.length : Int)) (x3 := (k : Int)) (M := M) hd hc
  rw [if_pos hsz, if_pos ⟨by omega, by omega⟩, ek, hk, wk] at hE
  unfold pT1 at ht
  unfold pOp at ho
  unfold pStep
  unfold pBk at hE
  by_cases h1 : 1000 ≤ op
  · rw [if_pos h1] at ht hE ⊢
    cases ht
    have hl2 : st.length < 64 := by simp at hl; omega
    refine ⟨op - 1000, st, rfl, hs, ?_⟩
    rw [if_neg (by omega), if_pos (by omega), if_pos (by omega), if_pos (by omega), w32_id (by omega) (by omega), Int.toNat_natCast] at hE
    exact hE
  rw [if_neg h1] at ht hE ⊢
  by_cases h2 : 60 ≤ op
  · rw [if_pos h2] at ht hE ⊢
    split at ht
    · cases ht
      match st, hv, hs, hE, hl0 with
      | x :: r, hv, hs, hE, hl0 =>
        have hx := hv.1
        simp only [Bool.false_eq_true, if_false] at hx
        refine ⟨G (op - 60) x, r, rfl, hs.2, ?_⟩
        simp only [List.length_cons] at hE hl0 hlen
        rw [if_pos (by omega)] at hE
        intro y hy
        refine hE y (eCd_value_66_E hd hc y ?_)
        rw [if_neg (by omega), if_neg (by omega)]
        have w1 : bz_w32 (((r.length + 1 : Nat) : Int) - 1) = (r.length : Int) := by rw [w32_id (by omega) (by omega)]; omega
        rw [w1, if_pos (by omega), Int.toNat_natCast, hs.1, cd_of ha (by omega) hx.1 hx.2, Option.bind_some, hG _ _ (by omega) (by rw [show (60 + (op - 60) : Int) = op by omega]; exact hA), wk]
        exact hy
    · cases ht
  rw [if_neg h2] at ht hE ⊢
  by_cases h3 : 40 ≤ op
  · rw [if_pos h3] at ht hE ⊢
    cases ht
    have hl2 : st.length < 64 := by simp at hl; omega
    refine ⟨F (op - 40), st, rfl, hs, ?_⟩
    rw [if_neg (by omega), if_pos (by omega), if_neg (by omega)] at hE
    have w1 : bz_w32 (10000 + (op - 40) - 10000) = op - 40 := by rw [w32_id (by omega) (by omega)]; omega
    have hf : eCd_factAt Lg (d - 1) a (op - 40) M = some (F (op - 40), M) := by
      refine eCd_factAt_E ha _ ?_
      rw [if_pos (by omega), if_pos (by omega), hF _ (by omega) (by omega) (by rw [show (40 + (op - 40) : Int) = op by omega]; exact hA)]
    rw [w1, hf, Option.bind_some, if_pos (by omega), w32_id (by omega) (by omega), Int.toNat_natCast] at hE
    exact hE
  rw [if_neg h3] at ht hE ⊢
  by_cases h4 : op = 13
  · rw [if_pos h4] at ht hE ⊢
    cases ht
    have hl2 : st.length < 64 := by simp at hl; omega
    refine ⟨1, st, rfl, hs, ?_⟩
    rw [if_neg (by omega), if_pos (by omega), if_pos (by omega), if_pos (by omega), w32_id (by omega) (by omega), Int.toNat_natCast] at hE
    exact hE
  rw [if_neg h4] at ht hE ⊢
  rw [if_pos (by omega)] at hE
  by_cases h5 : op = 12
  · rw [if_pos h5] at ht ⊢
    split at ht
    · cases ht
      match st, hv, hs, hE, hl0 with
      | x :: r, hv, hs, hE, hl0 =>
        have hx := hv.1
        simp only [if_true] at hx
        refine ⟨1 - x, r, rfl, hs.2, ?_⟩
        simp only [List.length_cons] at hE hl0 hlen
        subst h5
        intro y hy
        refine hE y (eCd_value_66_E hd hc y ?_)
        rw [if_neg (by omega), if_neg (by omega)]
        have w1 : bz_w32 (((r.length + 1 : Nat) : Int) - 1) = (r.length : Int) := by rw [w32_id (by omega) (by omega)]; omega
        rw [w1, if_pos (by omega), Int.toNat_natCast, hs.1, cd_not ha hx, Option.bind_some, wk]
        exact hy
    · cases ht
  rw [if_neg h5] at ht ⊢
  have hj : ∃ b a' r, st = b :: a' :: r ∧ (op ≤ 9 → (-1000000 ≤ a' ∧ a' ≤ 1000000) ∧ (-1000000 ≤ b ∧ b ≤ 1000000)) ∧ (10 ≤ op → (a' = 0 ∨ a' = 1) ∧ (b = 0 ∨ b = 1)) := by
    split at ht
    · split at ht
      · match st, hv with
        | b :: a' :: r, hv => exact ⟨b, a', r, rfl, fun h => by omega, fun _ => ⟨by have := hv.2.1; simpa using this, by have := hv.1; simpa using this⟩⟩
      · cases ht
    · split at ht
      · split at ht
        · match st, hv with
          | b :: a' :: r, hv => exact ⟨b, a', r, rfl, fun _ => ⟨by have := hv.2.1; simpa using this, by have := hv.1; simpa using this⟩, fun h => by omega⟩
        · cases ht
      · split at ht
        · match st, hv with
          | b :: a' :: r, hv => exact ⟨b, a', r, rfl, fun _ => ⟨by have := hv.2.1; simpa using this, by have := hv.1; simpa using this⟩, fun h => by omega⟩
        · cases ht
  obtain ⟨b, a', r, rfl, hn, hb⟩ := hj
  obtain ⟨z, hz, hz2⟩ := cd_joined (Lg := Lg) (d := d - 1) (M := M) (a := a') (b := b) (op := op) (by omega) (by omega) hn hb
  refine ⟨pJoin op a' b, r, rfl, hs.2.2, ?_⟩
  simp only [List.length_cons] at hE hl0 hlen hs
  intro y hy
  refine hE y (eCd_value_66_E hd hc y ?_)
  rw [if_pos (by omega)]
  refine eCd_value_103_E hd hc y ?_
  have w0 : bz_w32 (((r.length + 1 + 1 : Nat) : Int) + (-1)) = ((r.length + 1 : Nat) : Int) := by rw [w32_id (by omega) (by omega)]; omega
  have w1 : bz_w32 (((r.length + 1 : Nat) : Int) - 1) = (r.length : Int) := by rw [w32_id (by omega) (by omega)]; omega
  have hb1 : M (c + 2) (r.length + 1) = b := hs.1
  have ha1 : M (c + 2) r.length = a' := hs.2.1
  rw [if_pos (by omega), if_neg (by omega), w0, w1, if_pos (by omega), if_pos (by omega), Int.toNat_natCast, Int.toNat_natCast, hb1, ha1, hz, Option.bind_some, hz2, wk]
  exact hy
theorem cd_loop {Lg d c a : Nat} {Ao : Int → Prop} {F : Int → Int} {G : Int → Int → Int} {x : Int} (hd : 0 < d) (hc : bz_oC c) (hac : a ≠ c + 2) (ha : bz_kd Lg a = some (.inr (0, 39))) (hFb : ∀ p, -1000000 ≤ F p ∧ F p ≤ 1000000) (hGb : ∀ p x, -1000000 ≤ G p x ∧ G p x ≤ 1000000) : ∀ (ops : List Int) (k : Nat) (st : List Int) (ts ts' : List Bool) (M : bz_M), (∀ p, 0 ≤ p → p ≤ 17 → Ao (40 + p) → M a (Int.toNat p) = F p) → (∀ q x, (q = 0 ∨ q = 1) → Ao (60 + q) → cG (M a) q x = G q x) → (∀ op ∈ ops, Ao op) → pOK ops ts ts' → pV ts st → st.length ≤ 64 → zStk (M (c + 2)) st → zSeg (M (c + 1)) k (ops.map pBk) → M c 2 = (k : Int) + (ops.length : Int) → k + ops.length ≤ 1600 → pEv F G ops st = [x] → w_T (eCd_value_4 Lg d c a (st.length : Int) (k : Int) M) (fun p => p.1 = x ∧ ∀ r, r ≠ c + 2 → p.2 r = M r)
  | [], k, st, ts, ts', M, hF, hG, hA, hok, hv, hl, hs, hseg, hsz, hb, hx => by
    unfold pEv at hx
    subst hx
    refine T_le (eCd_value_4_E hd hc) ?_
    have := hs.1
    rw [if_neg (by rw [hsz]; simp), if_pos (by simp)]
    exact T_some ⟨hs.1, fun r _ => rfl⟩
  | op :: ops, k, st, ts, ts', M, hF, hG, hA, hok, hv, hl, hs, hseg, hsz, hb, hx => by
    obtain ⟨ho, t1, ht, hl1, hok'⟩ := hok
    simp only [List.length_cons] at hsz hb
    obtain ⟨v, r, hst, hr, hle⟩ := cd_step (Lg := Lg) (F := F) (G := G) hd hc ha hF hG (hA op List.mem_cons_self) ho ht hl1 hl hv hs hseg.1 (by omega) (by rw [hsz]; omega)
    have hv1 := pStep_V hFb hGb ho ht hv
    rw [hst] at hv1
    have hlen := pV_len hv1
    have hac2 : a ≠ c + 2 := hac
    unfold pEv at hx
    rw [hst] at hx
    have e2 : bz_up M (c + 2) r.length v a = M a := bz_up_fn hac
    have ih := cd_loop hd hc hac ha hFb hGb ops (k + 1) (v :: r) t1 ts' (bz_up M (c + 2) r.length v) (by rw [e2]; exact hF) (by rw [e2]; exact hG) (fun o ho => hA o (List.mem_cons_of_mem _ ho)) hok' hv1 (by omega) ⟨bz_up_eq _ _ _ _, zStk_co (fun i hi => bz_up_nk (by omega) _) hr⟩ (by rw [bz_up_fn (by omega)]; exact hseg.2) (by rw [bz_up_nr (by omega), hsz]; push_cast; omega) (by omega) hx
    have ih := T_le hle (by simpa using ih)
    refine T_mono ih ?_
    rintro ⟨p1, p2⟩ ⟨h1, h2⟩
    exact ⟨h1, fun r' hr' => by rw [h2 r' hr', bz_up_fn hr']⟩
theorem cd_value {Lg d c a : Nat} {Ao : Int → Prop} {F : Int → Int} {G : Int → Int → Int} {x : Int} {ops : List Int} {t : Bool} {M : bz_M} (hd : 0 < d) (hc : bz_oC c) (hac : a ≠ c + 2) (ha : bz_kd Lg a = some (.inr (0, 39))) (hFb : ∀ p, -1000000 ≤ F p ∧ F p ≤ 1000000) (hGb : ∀ p x, -1000000 ≤ G p x ∧ G p x ≤ 1000000) (hF : ∀ p, 0 ≤ p → p ≤ 17 → Ao (40 + p) → M a (Int.toNat p) = F p) (hG : ∀ q x, (q = 0 ∨ q = 1) → Ao (60 + q) → cG (M a) q x = G q x) (hA : ∀ op ∈ ops, Ao op) (hok : pOK ops [] [t]) (hseg : zSeg (M (c + 1)) 0 (ops.map pBk)) (hsz : M c 2 = (ops.length : Int)) (hb : ops.length ≤ 1600) (hx : pEv F G ops [] = [x]) : w_T (eCd_value Lg d c a M) (fun p => p.1 = x ∧ ∀ r, r ≠ c + 2 → p.2 r = M r) :=
  T_le eCd_value_E (cd_loop hd hc hac ha hFb hGb ops 0 [] [] [t] M hF hG hA hok trivial (by simp) trivial hseg (by rw [hsz]; simp) (by omega) hx)
theorem pEv_V {F : Int → Int} {G : Int → Int → Int} (hF : ∀ p, -1000000 ≤ F p ∧ F p ≤ 1000000) (hG : ∀ p x, -1000000 ≤ G p x ∧ G p x ≤ 1000000) : ∀ (ops : List Int) (ts ts' : List Bool) (st : List Int), pOK ops ts ts' → pV ts st → pV ts' (pEv F G ops st)
  | [], _, _, _, hok, hv => by rw [← show _ = _ from hok]; exact hv
  | _ :: ops, _, ts', _, hok, hv => by
    obtain ⟨ho, t1, ht, _, hok'⟩ := hok
    exact pEv_V hF hG ops t1 ts' _ hok' (pStep_V hF hG ho ht hv)
theorem pEv_one {F : Int → Int} {G : Int → Int → Int} (hF : ∀ p, -1000000 ≤ F p ∧ F p ≤ 1000000) (hG : ∀ p x, -1000000 ≤ G p x ∧ G p x ≤ 1000000) {ops : List Int} {t : Bool} (hok : pOK ops [] [t]) : ∃ x, pEv F G ops [] = [x] ∧ (if t = true then x = 0 ∨ x = 1 else -1000000 ≤ x ∧ x ≤ 1000000) := by
  have h := pEv_V hF hG ops [] [t] [] hok trivial
  match hp : pEv F G ops [], h with
  | [x], h => exact ⟨x, rfl, h.1⟩

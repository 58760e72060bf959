/-! QUERIES: tells -/
def ob : List Bool → Int → Int → Int
  | [], _, x => x
  | b :: bs, r, x => ob bs (r + 1) (if b = true then bz_or x (bz_shl 1 r) else x)
def bl : Nat → List (List Bool)
  | 0 => [[]]
  | n + 1 => (bl n).flatMap (fun l => [true :: l, false :: l])
theorem bl_mem : ∀ l : List Bool, l ∈ bl l.length
  | [] => by simp [bl]
  | b :: l => by
    simp only [List.length_cons, bl, List.mem_flatMap]
    exact ⟨l, bl_mem l, by cases b <;> simp⟩
theorem ob_all : ∀ n ∈ List.range 9, ∀ l ∈ bl n, (∀ r ∈ List.range n, (bz_and (bz_shr (ob l 0 0) (r : Int)) 1 = 1) ↔ l[r]? = some true) ∧ (ob l 0 0 = 0 ↔ ∀ b ∈ l, b = false) := by decide +kernel
noncomputable def bsOf (f : Int → Int) (r : Int) : Nat → List Bool
  | 0 => []
  | k + 1 => decide (f r ≠ 0) :: bsOf f (r + 1) k
theorem qRanL_ob {f : Int → Int} : ∀ (k : Nat) (r x : Int), qRanL f k r x = ob (bsOf f r k) r x
  | 0, _, _ => rfl
  | k + 1, r, x => by
    unfold qRanL bsOf ob
    rw [qRanL_ob k (r + 1)]
    congr 1
    by_cases h : f r = 0
    · rw [if_pos h, if_neg (by simp [h])]
    · rw [if_neg h, if_pos (by simp [h])]
theorem bsOf_len {f : Int → Int} : ∀ (k : Nat) (r : Int), (bsOf f r k).length = k
  | 0, _ => rfl
  | k + 1, r => by simp [bsOf, bsOf_len k (r + 1)]
theorem bsOf_at {f : Int → Int} : ∀ (k : Nat) (r : Int) (i : Nat), i < k → (bsOf f r k)[i]? = some (decide (f (r + i) ≠ 0))
  | 0, _, _, h => by omega
  | k + 1, r, 0, _ => by simp [bsOf]
  | k + 1, r, i + 1, h => by
    simp only [bsOf, List.getElem?_cons_succ]
    rw [bsOf_at k (r + 1) i (by omega), show r + 1 + (i : Int) = r + ((i + 1 : Nat) : Int) by push_cast; omega]
theorem ran_bit {f : Int → Int} {R : Nat} (hR : R ≤ 8) {r : Int} (h0 : 0 ≤ r) (h1 : r < R) : bz_and (bz_shr (qRanL f R 0 0) r) 1 = 1 ↔ f r ≠ 0 := by
  obtain ⟨n, rfl⟩ := Int.eq_ofNat_of_zero_le h0
  have hm := bl_mem (bsOf f 0 R)
  rw [bsOf_len] at hm
  have h := (ob_all R (List.mem_range.mpr (by omega)) _ hm).1 n (List.mem_range.mpr (by omega))
  rw [bsOf_at R 0 n (by omega)] at h
  rw [qRanL_ob]
  rw [h]
  simp
theorem ran_zero {f : Int → Int} {R : Nat} (hR : R ≤ 8) : qRanL f R 0 0 = 0 ↔ ∀ r : Int, 0 ≤ r → r < R → f r = 0 := by
  have hm := bl_mem (bsOf f 0 R)
  rw [bsOf_len] at hm
  have h := (ob_all R (List.mem_range.mpr (by omega)) _ hm).2
  rw [qRanL_ob, h]
  constructor
  · intro g r h0 h1
    obtain ⟨n, rfl⟩ := Int.eq_ofNat_of_zero_le h0
    have e := bsOf_at (f := f) R 0 n (by omega)
    have := g _ (List.mem_of_getElem? e)
    simpa using this
  · intro g b hb
    obtain ⟨i, hi, rfl⟩ := List.getElem_of_mem hb
    rw [bsOf_len] at hi
    have e := bsOf_at (f := f) R 0 i hi
    rw [List.getElem?_eq_getElem (by rw [bsOf_len]; exact hi)] at e
    have e := Option.some.inj e
    rw [e]
    simp [g (i : Int) (by omega) (by omega)]
theorem fC_pos {f : Int → Int} : ∀ (k : Nat) (r n : Int), 0 ≤ n → (fC f k r n ≤ 0 ↔ n = 0 ∧ ∀ y, r ≤ y → y < r + k → f y = 0)
  | 0, r, n, hn => by
    unfold fC
    exact ⟨fun h => ⟨by omega, fun y a b => by omega⟩, fun h => by omega⟩
  | k + 1, r, n, hn => by
    unfold fC
    by_cases h : f r = 0
    · rw [if_pos h, fC_pos k (r + 1) n hn]
      constructor
      · rintro ⟨a, b⟩
        refine ⟨a, fun y c d => ?_⟩
        by_cases e : y = r
        · rw [e]; exact h
        · exact b y (by omega) (by push_cast at d; omega)
      · rintro ⟨a, b⟩
        exact ⟨a, fun y c d => b y (by omega) (by push_cast; omega)⟩
    · rw [if_neg h, fC_pos k (r + 1) (n + 1) (by omega)]
      constructor
      · rintro ⟨a, _⟩; omega
      · rintro ⟨_, b⟩; exact absurd (b r (by omega) (by omega)) h
/-- how many of the first k fit and stand at t -/
def cN (f w : Int → Int) (t : Int) : Nat → Int
  | 0 => 0
  | k + 1 => cN f w t k + (if f (k : Int) = 0 then 0 else if w (k : Int) = t then 1 else 0)
def aL (f w : Int → Int) (R : Nat) : Nat → Int → Int → Int
  | 0, _, m => m
  | k + 1, a, m => aL f w R k (a + 1) (if f a = 0 then m else if m < cN f w (w a) R then cN f w (w a) R else m)
theorem cN_bd {f w : Int → Int} {t : Int} : ∀ k : Nat, 0 ≤ cN f w t k ∧ cN f w t k ≤ k
  | 0 => by unfold cN; omega
  | k + 1 => by
    have := cN_bd (f := f) (w := w) (t := t) k
    unfold cN
    repeat' split
    all_goals (push_cast; omega)
/-- the most of them -/
def isMx (f w : Int → Int) (R : Nat) (m : Int) : Prop := (∀ a : Int, 0 ≤ a → a < R → f a ≠ 0 → cN f w (w a) R ≤ m) ∧ (m = 0 ∨ ∃ a : Int, 0 ≤ a ∧ a < R ∧ f a ≠ 0 ∧ cN f w (w a) R = m)
theorem isMx_u {f w : Int → Int} {R : Nat} {m n : Int} (h : isMx f w R m) (g : isMx f w R n) : m = n := by
  have hm : 0 ≤ m := by
    rcases h.2 with e | ⟨a, _, _, _, e⟩
    · omega
    · rw [← e]; exact (cN_bd R).1
  have hn : 0 ≤ n := by
    rcases g.2 with e | ⟨a, _, _, _, e⟩
    · omega
    · rw [← e]; exact (cN_bd R).1
  have h1 : m ≤ n := by
    rcases h.2 with e | ⟨a, a0, a1, a2, e⟩
    · omega
    · rw [← e]; exact g.1 a a0 a1 a2
  have h2 : n ≤ m := by
    rcases g.2 with e | ⟨a, a0, a1, a2, e⟩
    · omega
    · rw [← e]; exact h.1 a a0 a1 a2
  omega
theorem aL_mx {f w : Int → Int} {R : Nat} : ∀ (k : Nat) (a m : Int), 0 ≤ a → a + k = R → (∀ b : Int, 0 ≤ b → b < a → f b ≠ 0 → cN f w (w b) R ≤ m) → (m = 0 ∨ ∃ b : Int, 0 ≤ b ∧ b < R ∧ f b ≠ 0 ∧ cN f w (w b) R = m) → isMx f w R (aL f w R k a m)
  | 0, a, m, h0, h1, h2, h3 => ⟨fun b b0 b1 b2 => h2 b b0 (by omega) b2, h3⟩
  | k + 1, a, m, h0, h1, h2, h3 => by
    unfold aL
    by_cases hf : f a = 0
    · rw [if_pos hf]
      refine aL_mx k (a + 1) m (by omega) (by omega) (fun b b0 b1 b2 => ?_) h3
      by_cases e : b = a
      · rw [e] at b2; exact absurd hf b2
      · exact h2 b b0 (by omega) b2
    · rw [if_neg hf]
      by_cases hl : m < cN f w (w a) R
      · rw [if_pos hl]
        refine aL_mx k (a + 1) _ (by omega) (by omega) (fun b b0 b1 b2 => ?_) (Or.inr ⟨a, h0, by omega, hf, rfl⟩)
        by_cases e : b = a
        · rw [e]; omega
        · have := h2 b b0 (by omega) b2; omega
      · rw [if_neg hl]
        refine aL_mx k (a + 1) m (by omega) (by omega) (fun b b0 b1 b2 => ?_) h3
        by_cases e : b = a
        · rw [e]; omega
        · exact h2 b b0 (by omega) b2
def mst (f w : Int → Int) (R : Nat) : Int := aL f w R R 0 0
theorem mst_mx {f w : Int → Int} {R : Nat} : isMx f w R (mst f w R) := aL_mx R 0 0 (by omega) (by omega) (fun b a c => by omega) (Or.inl rfl)
theorem mst_bd {f w : Int → Int} {R : Nat} : 0 ≤ mst f w R ∧ mst f w R ≤ R := by
  rcases (mst_mx (f := f) (w := w) (R := R)).2 with e | ⟨a, _, _, _, e⟩
  · omega
  · have := cN_bd (f := f) (w := w) (t := w a) R; omega
noncomputable def qTeL (m : Nat → Int) : Nat → Nat → Int × Int → Int × Int
  | 0, _, q => q
  | k + 1, n, q => qTeL m k (n + 1) (if q.1 = -1 then ((n : Int), m n) else if m n < q.2 then ((n : Int), m n) else q)
noncomputable def qTe (V : bz_M) (S : Nat → Int) (K : Int) (A : Nat → Int) (c : Int) : Int × Int := qTeL (fun n => mst (fb V S K A c) (fun x => way V S c x n) (vR V).toNat) (min 30 (999 - S 0)).toNat 1 (-1, 0)
noncomputable def qTells (V : bz_M) (S : Nat → Int) (K : Int) (A : Nat → Int) (c w : Int) : Int := if (0 ≤ c ∧ c < vC V) ∧ (0 ≤ w ∧ w ≤ 1) then (if qRanL (fb V S K A c) (vR V).toNat 0 0 = 0 then -1 else if (qTe V S K A c).1 = -1 then -1 else if w = 0 then (qTe V S K A c).1 else (qTe V S K A c).2) else -1
section TL
variable {Lg d v : Nat} {V M M0 M' : bz_M} {S : Nat → Int} {K : Int} {A : Nat → Int}
theorem fb_01 {c x : Int} : fb V S K A c x = 0 ∨ fb V S K A c x = 1 := by
  by_cases h : fit V S K A c x
  · exact Or.inr (fb_1 h)
  · exact Or.inl (fb_0 h)
theorem way_bd (hV : vOK V) (hS : sOK V S) (h9 : S 0 ≤ 999) {c x : Int} (h0 : 0 ≤ c) (h1 : c < vC V) (hx : 0 ≤ x ∧ x < vR V) {n : Nat} (hn : n ≤ 30) : 0 ≤ way V S c x n ∧ way V S c x n < vR V := by
  have hs := sAt_ok hV hS h0 h1 hx
  have hr := sRun_ok hV n (sAt S c x) hs.1 (by rw [hs.2]; omega)
  exact hr.1.2.2.1 c h0 h1
/-! the class -/
theorem fc_fr (hd : 4 < d) (hv : bz_oV v) (hV : vOK V) (hS : sOK V S) {c x L : Int} (h0 : 0 ≤ c) (h1 : c < vC V) (hx : 0 ≤ x ∧ x < vR V) (hL : L ≤ 30) (h9 : S 0 + L ≤ 999) {Q : bz_M → Prop} : ∀ (k : Nat) (n : Nat) (M : bz_M), cR V (sRun V n (sAt S c x)) 285 286 v M → (n : Int) + k = L → (∀ m : Nat, 1 ≤ m → m ≤ n → M 283 (Int.toNat (8 * (m : Int) + x)) = way V S c x m) → (∀ M', (∀ m : Nat, 1 ≤ m → (m : Int) ≤ L → M' 283 (Int.toNat (8 * (m : Int) + x)) = way V S c x m) → (∀ m y : Int, 0 ≤ m → 0 ≤ y → y < 8 → y ≠ x → M' 283 (Int.toNat (8 * m + y)) = M 283 (Int.toNat (8 * m + y))) → (∀ q, ¬ (cScr q ∨ (285 ≤ q ∧ q ≤ 293)) → q ≠ 283 → M' q = M q) → Q M') → w_T (eFc_followRow_27 Lg d c x L ((n : Int) + 1) M) Q
  | 0, n, M, hM, e, hw, hQ => by
    refine T_le (eFc_followRow_27_E (by omega)) ?_
    rw [if_pos (by omega)]
    exact T_some (hQ M (fun m a b => hw m a (by omega)) (fun _ _ _ _ _ _ => rfl) (fun _ _ _ => rfl))
  | k + 1, n, M, hM, e, hw, hQ => by
    have hC := hV.2.1
    have hR := hV.2.2.1
    have s0 := hS.1
    have hs := sAt_ok hV hS h0 h1 hx
    have hr := sRun_ok hV n (sAt S c x) hs.1 (by rw [hs.2]; push_cast at e; omega)
    have hn1 : (n : Int) + 1 ≤ 30 := by push_cast at e; omega
    have hix : (0 : Int) ≤ 8 * ((n : Int) + 1) + x ∧ 8 * ((n : Int) + 1) + x < 248 := by omega
    have hcx : (0 : Int) ≤ c ∧ c < 10 := by omega
    have hne1 : ∀ m : Nat, m ≠ n + 1 → Int.toNat (8 * (m : Int) + x) ≠ Int.toNat (8 * ((n : Int) + 1) + x) := by intro m hm; omega
    have hne2 : ∀ m y : Int, 0 ≤ m → 0 ≤ y → y < 8 → y ≠ x → Int.toNat (8 * m + y) ≠ Int.toNat (8 * ((n : Int) + 1) + x) := by intro m y a b c d; omega
    refine T_le (eFc_followRow_27_E (by omega)) ?_
    rw [if_neg (by push_cast at e; omega)]
    refine T_seq (ri_passA (by omega) hv hV hr.1 (by rw [hr.2, hs.2]; push_cast at e; omega) hM) ?_
    rintro ⟨p1, p2⟩ ⟨a1, _, _, a4, _⟩
    dsimp only at a1 a4 ⊢
    have ex := sRun_succ (V := V) n (sAt S c x)
    rw [← ex] at a1
    have er : p2 287 c.toNat = way V S c x (n + 1) := a1.2.2.2.1 c h0 (by omega)
    have wc : bz_w32 (bz_w32 (((n : Int) + 1) * 8) + x) = 8 * ((n : Int) + 1) + x := by rw [w32_id (z := ((n : Int) + 1) * 8) (by omega) (by push_cast at e; omega), w32_id (by omega) (by push_cast at e; omega)]; omega
    rw [if_pos hcx, wc, if_pos hix, er, show bz_w32 ((n : Int) + 1 + 1) = ((n + 1 : Nat) : Int) + 1 by rw [w32_id (by omega) (by push_cast at e; omega)]; push_cast; rfl]
    have kf : ∀ q, q ≠ 283 → bz_up p2 283 (Int.toNat (8 * ((n : Int) + 1) + x)) (way V S c x (n + 1)) q = p2 q := fun q h => bz_up_fn h
    have hvv := oV_c hv
    have hM2 : cR V (sRun V (n + 1) (sAt S c x)) 285 286 v (bz_up p2 283 (Int.toNat (8 * ((n : Int) + 1) + x)) (way V S c x (n + 1))) := ⟨(congrFun (kf 285 (by decide)) 0).trans a1.1, cV_co a1.2.1 (kf _ (by omega)) (kf _ (by omega)) (kf _ (by omega)) (kf _ (by omega)) (kf _ (by omega)) (kf _ (by omega)) (kf _ (by omega)) (kf _ (by omega)) (kf _ (by omega)) (kf _ (by omega)), cS_co a1.2.2 (kf _ (by omega)) (kf _ (by omega)) (kf _ (by omega)) (kf _ (by omega)) (kf _ (by omega)) (kf _ (by omega))⟩
    have f3 : p2 283 = M 283 := a4 283 (by decide)
    refine fc_fr hd hv hV hS h0 h1 hx hL h9 k (n + 1) _ hM2 (by push_cast at e ⊢; omega) (fun m b1 b2 => ?_) (fun M' q1 q2 q3 => hQ M' q1 (fun m y b1 b2 b3 b4 => ?_) (fun q hq h => by rw [q3 q hq h, kf q h, a4 q hq]))
    · rw [bz_up_rk]
      by_cases em : m = n + 1
      · rw [if_pos ⟨rfl, by rw [em]; push_cast; rfl⟩, em]
      · rw [if_neg (fun h => hne1 m em h.2), f3]; exact hw m b1 (by omega)
    · rw [q2 m y b1 b2 b3 b4, bz_up_nk (hne2 m y b1 b2 b3 b4), f3]
end TL

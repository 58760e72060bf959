/-! SIM: what class and reference hold in common between two calls -/
def tpR (M : bz_M) : Prop := M 123 1 = M 319 1 ∧ (0 ≤ M 319 1 ∧ M 319 1 ≤ 1600) ∧ ∀ k : Nat, (k : Int) < M 319 1 → (0 ≤ M 320 k ∧ M 320 k < 256) ∧ M 124 k = bz_w8 (M 320 k)
def ftR (M : bz_M) : Prop := M 123 6 = M 319 7 ∧ M 123 7 = M 319 8
def rfR (M : bz_M) : Prop := ∀ k, k < 6 → M 302 k = M 321 k
def drR (M : bz_M) : Prop := M 122 13 = M 319 87 ∧ 0 ≤ M 319 87 ∧ M 319 87 < 2147483648
def imR (M : bz_M) : Prop := M 122 12 = M 319 131 ∧ (0 ≤ M 319 131 ∧ M 319 131 ≤ 191) ∧ ∀ k : Nat, (k : Int) < M 319 131 → M 411 k = bz_and (M 299 k) 255
def snR (V M : bz_M) : Prop := M 279 1 = M 319 79 ∧ snOK V (M 319 79) (M 372) ∧ ∀ j : Nat, (j : Int) < 3 * M 319 79 → M 280 j = M 372 j
/-- the lines that are kept of S, which the class counts at s -/
def kpR (S : Nat → Int) (s : Nat) (M : bz_M) : Prop := (0 ≤ M s 2 ∧ M s 2 ≤ 999 ∧ M s 2 ≤ S 0) ∧ S 182 = min (M s 2) 40 ∧ ∀ i : Nat, (i : Int) < S 182 → S (183 + 3 * i) = S 0 - S 182 + i ∧ S (184 + 3 * i) = M 300 (M s 2 - S 182 + i).toNat ∧ S (185 + 3 * i) = M 301 (M s 2 - S 182 + i).toNat
def stO (V : bz_M) (S : Nat → Int) : Prop := sOK V S ∧ S 0 ≤ 999 ∧ sW S ∧ sZ V S ∧ sOut V S
/-- where the i-th newest past stands -/
def pjR (M : bz_M) (i : Nat) : Nat := ((M 157 1).toNat + 20 - i) % 20
def paS (M : bz_M) (i : Nat) : Nat → Int := fun k => M 375 (303 * pjR M i + k)
def paR (V M : bz_M) : Prop := (M 157 0 = M 319 85 ∧ M 157 1 = M 319 86) ∧ (0 ≤ M 157 0 ∧ M 157 0 ≤ 20) ∧ (0 ≤ M 157 1 ∧ M 157 1 < 20) ∧ (∀ j, j < 20 → M 158 j = ((159 + 6 * j : Nat) : Int)) ∧ ∀ i : Nat, (i : Int) < M 157 0 → stO V (paS M i) ∧ cS (159 + 6 * pjR M i) (paS M i) M ∧ kpR (paS M i) (159 + 6 * pjR M i) M ∧ M (159 + 6 * pjR M i) 2 ≤ (if i = 0 then M 148 2 else M (159 + 6 * pjR M (i - 1)) 2)
/-- outside of the valley nothing is told -/
def voR (V : bz_M) (a b c : Nat → Int) : Prop := (∀ k : Nat, vC V ≤ (k : Int) → k < 10 → a k = 0) ∧ (∀ k r : Nat, k < 10 → r < 8 → ¬ ((k : Int) < vC V ∧ (r : Int) < vR V) → b (8 * k + r) = 0) ∧ ∀ l : Nat, vL V ≤ (l : Int) → l < 5 → c l = 0
def vaR (V : bz_M) (S : Nat → Int) (v : Nat) (M : bz_M) : Prop := vSt V S ∧ cR V S 131 148 v M ∧ mV V M ∧ M 319 54 = V 319 54 ∧ (∀ l : Nat, (l : Int) < vL V → nmO (fun k => M (v + 4) (6 * l + k)) (M 356 (5 + l))) ∧ voR V (M (v + 1)) (M (v + 3)) (M (v + 9))
def noR (S : Nat → Int) (v : Nat) (M : bz_M) : Prop := (M v 0 = 0 ∧ M v 1 = 0 ∧ M v 3 = 0) ∧ (M 319 60 = 0 ∧ M 355 3 = 0 ∧ M 355 4 = 0 ∧ M 319 47 = 0) ∧ cS 148 S M ∧ (∀ k, k < 303 → S k = 0) ∧ M 157 0 = 0 ∧ M 279 1 = 0 ∧ M 148 2 = 0
def Sim' (V : bz_M) (S : Nat → Int) (v u : Nat) (M : bz_M) : Prop := (bz_oV v ∧ bz_oV u ∧ u ≠ v ∧ M 131 0 = (v : Int) ∧ M 122 11 = (u : Int)) ∧ (∀ k, k < 303 → M 364 k = S k) ∧ (vaR V S v M ∨ noR S v M) ∧ tpR M ∧ ftR M ∧ rfR M ∧ drR M ∧ M 319 70 = 0 ∧ imR M ∧ snR V M ∧ kpR S 148 M ∧ paR V M ∧ stC M ∧ stM M
def Sim (M : bz_M) : Prop := ∃ V S v u, Sim' V S v u M
section SA
variable {V M M' : bz_M} {S : Nat → Int} {v u s : Nat}
theorem tp_tb (h : tpR M) : tb (M 320) (M 319 1).toNat M := ⟨by have := h.2.1; omega, fun j hj => by have := h.2.2 j (by omega); exact ⟨this.2, this.1.1, this.1.2⟩⟩
theorem tp_mt (h : tpR M) : mt (M 320) (M 319 1).toNat M := ⟨by have := h.2.1; omega, fun j hj => by have := h.2.2 j (by omega); exact ⟨rfl, this.1.1, this.1.2⟩⟩
theorem tp_n (h : tpR M) : M 319 1 = ((M 319 1).toNat : Int) := by have := h.2.1; omega
theorem tpR_0 (h1 : M 123 1 = 0) (h2 : M 319 1 = 0) : tpR M := ⟨by rw [h1, h2], by rw [h2]; omega, fun k hk => by rw [h2] at hk; omega⟩
theorem tpR_co (h : tpR M) (h1 : M' 123 1 = M 123 1) (h2 : M' 319 1 = M 319 1) (h3 : M' 320 = M 320) (h4 : M' 124 = M 124) : tpR M' := by
  unfold tpR at h ⊢
  rw [h1, h2, h3, h4]
  exact h
theorem imR_co (h : imR M) (h1 : M' 122 12 = M 122 12) (h2 : M' 319 131 = M 319 131) (h3 : M' 411 = M 411) (h4 : M' 299 = M 299) : imR M' := by
  unfold imR at h ⊢
  rw [h1, h2, h3, h4]
  exact h
theorem snR_co (h : snR V M) (h1 : M' 279 1 = M 279 1) (h2 : M' 319 79 = M 319 79) (h3 : M' 280 = M 280) (h4 : M' 372 = M 372) : snR V M' := by
  unfold snR at h ⊢
  rw [h1, h2, h3, h4]
  exact h
theorem snR_0 (h1 : M 279 1 = 0) (h2 : M 319 79 = 0) : snR V M := ⟨by rw [h1, h2], by rw [h2]; exact ⟨by omega, fun i a b => by omega⟩, fun j hj => by rw [h2] at hj; omega⟩
theorem kpR_co (h : kpR S s M) (h1 : M' s 2 = M s 2) (h2 : M' 300 = M 300) (h3 : M' 301 = M 301) : kpR S s M' := by
  unfold kpR at h ⊢
  rw [h1, h2, h3]
  exact h
theorem pjR_lt (i : Nat) : pjR M i < 20 := Nat.mod_lt _ (by decide)
theorem pjR_co {i : Nat} (h : M' 157 1 = M 157 1) : pjR M' i = pjR M i := by
  unfold pjR
  rw [h]
theorem paR_co (h : paR V M) (h1 : M' 157 0 = M 157 0) (h2 : M' 157 1 = M 157 1) (h3 : M' 319 85 = M 319 85) (h4 : M' 319 86 = M 319 86) (h5 : ∀ r, 158 ≤ r → r ≤ 278 → M' r = M r) (h6 : M' 375 = M 375) (h7 : M' 300 = M 300) (h8 : M' 301 = M 301) (h9 : M' 148 2 = M 148 2) : paR V M' := by
  have e : ∀ i, pjR M' i = pjR M i := fun i => pjR_co h2
  have eP : ∀ i, paS M' i = paS M i := fun i => by
    unfold paS
    rw [e i, h6]
  obtain ⟨a1, a2, a3, a4, a5⟩ := h
  refine ⟨by rw [h1, h2, h3, h4]; exact a1, by rw [h1]; exact a2, by rw [h2]; exact a3, fun j hj => by rw [h5 158 (by decide) (by decide)]; exact a4 j hj, fun i hi => ?_⟩
  rw [h1] at hi
  obtain ⟨b1, b2, b3, b4⟩ := a5 i hi
  have hj := pjR_lt (M := M) i
  have hj' := pjR_lt (M := M) (i - 1)
  rw [eP i, e i, e (i - 1)]
  refine ⟨b1, cS_co b2 (h5 _ (by omega) (by omega)) (h5 _ (by omega) (by omega)) (h5 _ (by omega) (by omega)) (h5 _ (by omega) (by omega)) (h5 _ (by omega) (by omega)) (h5 _ (by omega) (by omega)), kpR_co b3 (by rw [h5 _ (by omega) (by omega)]) h7 h8, ?_⟩
  rw [h5 (159 + 6 * pjR M i) (by omega) (by omega), h5 (159 + 6 * pjR M (i - 1)) (by omega) (by omega), h9]
  exact b4
theorem paR_0 (h1 : M 157 0 = 0) (h3 : M 319 85 = 0) (h2 : M 157 1 = M 319 86 ∧ 0 ≤ M 157 1 ∧ M 157 1 < 20) (h4 : ∀ j, j < 20 → M 158 j = ((159 + 6 * j : Nat) : Int)) : paR V M := ⟨⟨by rw [h1, h3], h2.1⟩, by rw [h1]; omega, h2.2, h4, fun i hi => by rw [h1] at hi; omega⟩
/-- what a query leaves -/
def sQ (M M' : bz_M) : Prop := (∀ r, ¬ (cScr r ∨ (281 ≤ r ∧ r ≤ 298) ∨ r = 279 ∨ mSr r) → M' r = M r) ∧ M' 279 1 = M 279 1 ∧ ∀ k, ¬ mSf k → M' 319 k = M 319 k
theorem sQ_refl (M : bz_M) : sQ M M := ⟨fun _ _ => rfl, rfl, fun _ _ => rfl⟩
theorem sQ_trans {A B C : bz_M} (h : sQ A B) (g : sQ B C) : sQ A C := ⟨fun r x => (g.1 r x).trans (h.1 r x), g.2.1.trans h.2.1, fun k x => (g.2.2 k x).trans (h.2.2 k x)⟩
theorem sQ_C (h : qC M M') : sQ M M' := ⟨fun r x => h.1 r (by omega), h.2, fun k _ => by rw [h.1 319 (by decide)]⟩
theorem sQ_M (h : qM M M') : sQ M M' := ⟨fun r x => h.1 r (by omega), by rw [h.1 279 (by decide)], h.2⟩
theorem Sim_q (h : Sim' V S v u M) (f : sQ M M') : Sim' V S v u M' := by
  obtain ⟨⟨a1, a2, a3, a4, a5⟩, b, c, t1, t2, t3, t4, t5, t6, t7, t8, t9, ta, tb⟩ := h
  have k : ∀ r, ¬ (cScr r ∨ (281 ≤ r ∧ r ≤ 298) ∨ r = 279 ∨ mSr r) → M' r = M r := f.1
  have hv := oV_c a1
  refine ⟨⟨a1, a2, a3, by rw [k 131 (by decide)]; exact a4, by rw [k 122 (by decide)]; exact a5⟩, fun j hj => by rw [k 364 (by decide)]; exact b j hj, ?_, tpR_co t1 (by rw [k 123 (by decide)]) (f.2.2 _ (by decide)) (k 320 (by decide)) (k 124 (by decide)), ?_, ?_, ?_, by rw [f.2.2 70 (by decide)]; exact t5, imR_co t6 (by rw [k 122 (by decide)]) (f.2.2 _ (by decide)) (k _ (by decide)) (k _ (by decide)), snR_co t7 f.2.1 (f.2.2 _ (by decide)) (k _ (by decide)) (k _ (by decide)), kpR_co t8 (by rw [k 148 (by decide)]) (k _ (by decide)) (k _ (by decide)), paR_co t9 (by rw [k 157 (by decide)]) (by rw [k 157 (by decide)]) (f.2.2 _ (by decide)) (f.2.2 _ (by decide)) (fun r x1 x2 => k r (by omega)) (k _ (by decide)) (k _ (by decide)) (k _ (by decide)) (by rw [k 148 (by decide)]), fun r j h1 h2 => by rw [k r (by omega)]; exact ta r j h1 h2, fun r j h1 h2 => by rw [k r (by omega)]; exact tb r j h1 h2⟩
  · rcases c with c | c
    · left
      obtain ⟨c1, c2, c3, c4, c5⟩ := c
      refine ⟨c1, ⟨by rw [k 131 (by decide)]; exact a4, cV_co c2.2.1 (k _ (by omega)) (k _ (by omega)) (k _ (by omega)) (k _ (by omega)) (k _ (by omega)) (k _ (by omega)) (k _ (by omega)) (k _ (by omega)) (k _ (by omega)) (k _ (by omega)), cS_co c2.2.2 (k _ (by decide)) (k _ (by decide)) (k _ (by decide)) (k _ (by decide)) (k _ (by decide)) (k _ (by decide))⟩, mV_co c3 (k _ (by decide)) (f.2.2 _ (by decide)) (f.2.2 _ (by decide)) (k _ (by decide)) (k _ (by decide)) (k _ (by decide)) (k _ (by decide)) (k _ (by decide)), by rw [f.2.2 54 (by decide)]; exact c4, fun l hl => ?_, ?_⟩
      · rw [k (v + 4) (by omega), k 356 (by decide)]
        exact c5.1 l hl
      · rw [k (v + 1) (by omega), k (v + 3) (by omega), k (v + 9) (by omega)]
        exact c5.2
    · right
      unfold noR at c ⊢
      rw [k v (by omega), f.2.2 60 (by decide), k 355 (by decide), f.2.2 47 (by decide), k 157 (by decide), f.2.1, k 148 (by decide)]
      exact ⟨c.1, c.2.1, cS_co c.2.2.1 (k _ (by decide)) (k _ (by decide)) (k _ (by decide)) (k _ (by decide)) (k _ (by decide)) (k _ (by decide)), c.2.2.2⟩
  · unfold ftR at t2 ⊢
    rw [k 123 (by decide), f.2.2 7 (by decide), f.2.2 8 (by decide)]
    exact t2
  · unfold rfR at t3 ⊢
    rw [k 302 (by decide), k 321 (by decide)]
    exact t3
  · unfold drR at t4 ⊢
    rw [k 122 (by decide), f.2.2 87 (by decide)]
    exact t4
end SA

/-! SIM: what a reading leaves; a valley is told -/
abbrev kC (v r : Nat) : Prop := (2 ≤ r ∧ r ≤ 122) ∨ r = 131 ∨ (148 ≤ r ∧ r ≤ 153) ∨ (157 ≤ r ∧ r ≤ 278) ∨ r = 280 ∨ (299 ≤ r ∧ r ≤ 301) ∨ (v ≤ r ∧ r ≤ v + 14 ∧ r ≠ v + 12) ∨ (322 ≤ r ∧ r ≤ 354) ∨ r = 364 ∨ r = 372 ∨ (375 ≤ r ∧ r ≤ 407) ∨ r = 411
abbrev kK (k : Nat) : Prop := k = 47 ∨ k = 54 ∨ k = 60 ∨ k = 70 ∨ k = 79 ∨ k = 85 ∨ k = 86 ∨ k = 87 ∨ k = 131
def kS (v : Nat) (M M' : bz_M) : Prop := (∀ r, kC v r → M' r = M r) ∧ M' 279 1 = M 279 1 ∧ (∀ k, kK k → M' 319 k = M 319 k) ∧ (∀ k, 3 ≤ k → M' 355 k = M 355 k) ∧ (∀ k, 5 ≤ k → M' 356 k = M 356 k) ∧ (∀ k, 25 ≤ k → M' 357 k = M 357 k) ∧ (∀ k, 80 ≤ k → M' 358 k = M 358 k) ∧ (∀ k, 2 ≤ k → M' 361 k = M 361 k ∧ M' 362 k = M 362 k) ∧ (∀ k, 1600 ≤ k → M' 363 k = M 363 k)
section SB
variable {V M M' : bz_M} {S : Nat → Int} {v u s : Nat}
theorem kS_trans {A B C : bz_M} (h : kS v A B) (g : kS v B C) : kS v A C := by
  obtain ⟨a1, a2, a3, a4, a5, a6, a7, a8, a9⟩ := h
  obtain ⟨b1, b2, b3, b4, b5, b6, b7, b8, b9⟩ := g
  exact ⟨fun r x => (b1 r x).trans (a1 r x), b2.trans a2, fun r x => (b3 r x).trans (a3 r x), fun r x => (b4 r x).trans (a4 r x), fun r x => (b5 r x).trans (a5 r x), fun r x => (b6 r x).trans (a6 r x), fun r x => (b7 r x).trans (a7 r x), fun r x => ⟨(b8 r x).1.trans (a8 r x).1, (b8 r x).2.trans (a8 r x).2⟩, fun r x => (b9 r x).trans (a9 r x)⟩
theorem kS_of (h : ∀ r, kC v r ∨ r = 279 ∨ r = 319 ∨ (355 ≤ r ∧ r ≤ 363) → M' r = M r) : kS v M M' := ⟨fun r x => h r (Or.inl x), by rw [h 279 (by omega)], fun k _ => by rw [h 319 (by omega)], fun k _ => by rw [h 355 (by omega)], fun k _ => by rw [h 356 (by omega)], fun k _ => by rw [h 357 (by omega)], fun k _ => by rw [h 358 (by omega)], fun k _ => ⟨by rw [h 361 (by omega)], by rw [h 362 (by omega)]⟩, fun k _ => by rw [h 363 (by omega)]⟩
theorem kS_W (hv : bz_oV v) (h : vW M M') : kS v M M' := by
  have hvv := oV_c hv
  obtain ⟨a1, a2, a3, a4, a5, a6, a7, a8⟩ := h
  exact ⟨fun r x => a1 r (by omega), by rw [a1 279 (by decide)], fun k hk => a2 k (by omega) (by omega) (by omega) (by omega), a3, a4, a5, a6, a7, a8⟩
theorem kS_9 (hv : bz_oV v) {k : Nat} {x : Int} (h : ¬ kK k) : kS v M (bz_up M 319 k x) := by
  have hvv := oV_c hv
  exact ⟨fun r y => bz_up_fn (by omega), bz_up_nr (by decide) _, fun j hj => bz_up_nk (fun e => h (by rw [← e]; exact hj)) _, fun j _ => bz_up_nr (by decide) _, fun j _ => bz_up_nr (by decide) _, fun j _ => bz_up_nr (by decide) _, fun j _ => bz_up_nr (by decide) _, fun j _ => ⟨bz_up_nr (by decide) _, bz_up_nr (by decide) _⟩, fun j _ => bz_up_nr (by decide) _⟩
theorem mV_k (h : mV V M) (f : kS v M M') : mV V M' := by
  obtain ⟨a1, a2, a3, a4, a5⟩ := h
  obtain ⟨b1, b2, b3, b4, b5, b6, b7, b8, b9⟩ := f
  refine ⟨?_, fun k hk => (b7 k hk).trans (a2 k hk), fun k hk => (b6 k hk).trans (a3 k hk), fun k hk => ⟨(b8 k hk).1.trans (a4 k hk).1, (b8 k hk).2.trans (a4 k hk).2⟩, fun k hk => (b9 k hk).trans (a5 k hk)⟩
  rw [b4 3 (by decide), b4 4 (by decide), b4 5 (by decide), b3 47 (by decide), b3 60 (by decide)]
  exact a1
theorem Sim_k (h : Sim' V S v u M) (f : kS v M M') (t1' : tpR M') (t2' : ftR M') (t3' : rfR M') : Sim' V S v u M' := by
  obtain ⟨⟨a1, a2, a3, a4, a5⟩, b, c, t1, t2, t3, t4, t5, t6, t7, t8, t9, ta, tb⟩ := h
  have k : ∀ r, kC v r → M' r = M r := f.1
  have hv := oV_c a1
  refine ⟨⟨a1, a2, a3, by rw [k 131 (by omega)]; exact a4, by rw [k 122 (by omega)]; exact a5⟩, fun j hj => by rw [k 364 (by omega)]; exact b j hj, ?_, t1', t2', t3', ?_, by rw [f.2.2.1 70 (by decide)]; exact t5, imR_co t6 (by rw [k 122 (by omega)]) (f.2.2.1 _ (by decide)) (k _ (by omega)) (k _ (by omega)), snR_co t7 f.2.1 (f.2.2.1 _ (by decide)) (k _ (by omega)) (k _ (by omega)), kpR_co t8 (by rw [k 148 (by omega)]) (k _ (by omega)) (k _ (by omega)), paR_co t9 (by rw [k 157 (by omega)]) (by rw [k 157 (by omega)]) (f.2.2.1 _ (by decide)) (f.2.2.1 _ (by decide)) (fun r x1 x2 => k r (by omega)) (k _ (by omega)) (k _ (by omega)) (k _ (by omega)) (by rw [k 148 (by omega)]), fun r j h1 h2 => by rw [k r (by omega)]; exact ta r j h1 h2, fun r j h1 h2 => by rw [k r (by omega)]; exact tb r j h1 h2⟩
  · rcases c with c | c
    · left
      obtain ⟨c1, c2, c3, c4, c5⟩ := c
      refine ⟨c1, ⟨by rw [k 131 (by omega)]; exact a4, cV_co c2.2.1 (k _ (by omega)) (k _ (by omega)) (k _ (by omega)) (k _ (by omega)) (k _ (by omega)) (k _ (by omega)) (k _ (by omega)) (k _ (by omega)) (k _ (by omega)) (k _ (by omega)), cS_co c2.2.2 (k _ (by omega)) (k _ (by omega)) (k _ (by omega)) (k _ (by omega)) (k _ (by omega)) (k _ (by omega))⟩, mV_k c3 f, by rw [f.2.2.1 54 (by decide)]; exact c4, fun l hl => ?_, ?_⟩
      · rw [k (v + 4) (by omega), f.2.2.2.2.1 (5 + l) (by omega)]
        exact c5.1 l hl
      · rw [k (v + 1) (by omega), k (v + 3) (by omega), k (v + 9) (by omega)]
        exact c5.2
    · right
      unfold noR at c ⊢
      rw [k v (by omega), f.2.2.1 60 (by decide), f.2.2.2.1 3 (by decide), f.2.2.2.1 4 (by decide), f.2.2.1 47 (by decide), k 157 (by omega), f.2.1, k 148 (by omega)]
      exact ⟨c.1, c.2.1, cS_co c.2.2.1 (k _ (by omega)) (k _ (by omega)) (k _ (by omega)) (k _ (by omega)) (k _ (by omega)) (k _ (by omega)), c.2.2.2⟩
  · unfold drR at t4 ⊢
    rw [k 122 (by omega), f.2.2.1 87 (by decide)]
    exact t4
theorem lp_k {n : Nat} {T : Nat → Int} : ∀ (f : Nat) (k : Int) (Y : bz_M) (s : sT), 1 ≤ k → 1 ≤ (yLp T n f k Y s).2.2
  | 0, k, Y, s, h => h
  | f + 1, k, Y, .inl x, h => h
  | f + 1, k, Y, .inr q0, h => by
    rw [show yLp T n (f + 1) k Y (.inr q0) = (if n ≤ q0.1 then (.inr q0, Y, k) else if k = 80 then (.inl (5, q0.1), Y, k) else yLp T n f (k + 1) (yStm T n Y q0).2 (oS T n 59 (yStm T n Y q0).1)) from rfl]
    split
    · exact h
    · split
      · exact h
      · exact lp_k f (k + 1) _ _ (by omega)
end SB

/-! SIM: short calls -/
def stp (f g : bz_M → Option (Int × bz_M)) (M : bz_M) : Prop := w_T (f M) (fun p => w_T (g p.2) (fun p' => p'.1 = p.1 ∧ Sim p'.2 ∧ fO M p'.2))
def kT (v : Nat) (M M' : bz_M) : Prop := (∀ r, kC v r → r ≠ 122 → r ≠ 411 → r ≠ 299 → M' r = M r) ∧ M' 122 11 = M 122 11 ∧ M' 279 1 = M 279 1 ∧ (∀ k, kK k → k ≠ 87 → k ≠ 131 → M' 319 k = M 319 k) ∧ (∀ k, 3 ≤ k → M' 355 k = M 355 k) ∧ (∀ k, 5 ≤ k → M' 356 k = M 356 k) ∧ (∀ k, 25 ≤ k → M' 357 k = M 357 k) ∧ (∀ k, 80 ≤ k → M' 358 k = M 358 k) ∧ (∀ k, 2 ≤ k → M' 361 k = M 361 k ∧ M' 362 k = M 362 k) ∧ (∀ k, 1600 ≤ k → M' 363 k = M 363 k)
section SE
variable {Lg d : Nat} {V M M' : bz_M} {S : Nat → Int} {v u : Nat}
theorem Sim_g (h : Sim' V S v u M) (f : kT v M M') (t1' : tpR M') (t2' : ftR M') (t3' : rfR M') (t4' : drR M') (t6' : imR M') : Sim' V S v u M' := by
  obtain ⟨⟨a1, a2, a3, a4, a5⟩, b, c, t1, t2, t3, t4, t5, t6, t7, t8, t9, ta, tb⟩ := h
  have hv := oV_c a1
  have k : ∀ r, kC v r → r ≠ 122 → r ≠ 411 → r ≠ 299 → M' r = M r := f.1
  have kk : ∀ k, kK k → k ≠ 87 → k ≠ 131 → M' 319 k = M 319 k := f.2.2.2.1
  refine ⟨⟨a1, a2, a3, by rw [k 131 (by omega) (by omega) (by omega) (by omega)]; exact a4, by rw [f.2.1]; exact a5⟩, fun j hj => by rw [k 364 (by omega) (by omega) (by omega) (by omega)]; exact b j hj, ?_, t1', t2', t3', t4', by rw [kk 70 (by decide) (by decide) (by decide)]; exact t5, t6', snR_co t7 f.2.2.1 (kk _ (by decide) (by decide) (by decide)) (k _ (by omega) (by omega) (by omega) (by omega)) (k _ (by omega) (by omega) (by omega) (by omega)), kpR_co t8 (by rw [k 148 (by omega) (by omega) (by omega) (by omega)]) (k _ (by omega) (by omega) (by omega) (by omega)) (k _ (by omega) (by omega) (by omega) (by omega)), paR_co t9 (by rw [k 157 (by omega) (by omega) (by omega) (by omega)]) (by rw [k 157 (by omega) (by omega) (by omega) (by omega)]) (kk _ (by decide) (by decide) (by decide)) (kk _ (by decide) (by decide) (by decide)) (fun r x1 x2 => k r (by omega) (by omega) (by omega) (by omega)) (k _ (by omega) (by omega) (by omega) (by omega)) (k _ (by omega) (by omega) (by omega) (by omega)) (k _ (by omega) (by omega) (by omega) (by omega)) (by rw [k 148 (by omega) (by omega) (by omega) (by omega)]), fun r j h1 h2 => by rw [k r (by omega) (by omega) (by omega) (by omega)]; exact ta r j h1 h2, fun r j h1 h2 => by rw [k r (by omega) (by omega) (by omega) (by omega)]; exact tb r j h1 h2⟩
  have g := f.2.2.2.2
  rcases c with c | c
  · left
    obtain ⟨c1, c2, c3, c4, c5⟩ := c
    refine ⟨c1, ⟨by rw [k 131 (by omega) (by omega) (by omega) (by omega)]; exact a4, cV_co c2.2.1 (k _ (by omega) (by omega) (by omega) (by omega)) (k _ (by omega) (by omega) (by omega) (by omega)) (k _ (by omega) (by omega) (by omega) (by omega)) (k _ (by omega) (by omega) (by omega) (by omega)) (k _ (by omega) (by omega) (by omega) (by omega)) (k _ (by omega) (by omega) (by omega) (by omega)) (k _ (by omega) (by omega) (by omega) (by omega)) (k _ (by omega) (by omega) (by omega) (by omega)) (k _ (by omega) (by omega) (by omega) (by omega)) (k _ (by omega) (by omega) (by omega) (by omega)), cS_co c2.2.2 (k _ (by omega) (by omega) (by omega) (by omega)) (k _ (by omega) (by omega) (by omega) (by omega)) (k _ (by omega) (by omega) (by omega) (by omega)) (k _ (by omega) (by omega) (by omega) (by omega)) (k _ (by omega) (by omega) (by omega) (by omega)) (k _ (by omega) (by omega) (by omega) (by omega))⟩, ?_, by rw [kk 54 (by decide) (by decide) (by decide)]; exact c4, fun l hl => ?_, ?_⟩
    · obtain ⟨m1, m2, m3, m4, m5⟩ := c3
      obtain ⟨b4, b5, b6, b7, b8, b9⟩ := g
      refine ⟨?_, fun k hk => (b7 k hk).trans (m2 k hk), fun k hk => (b6 k hk).trans (m3 k hk), fun k hk => ⟨(b8 k hk).1.trans (m4 k hk).1, (b8 k hk).2.trans (m4 k hk).2⟩, fun k hk => (b9 k hk).trans (m5 k hk)⟩
      rw [b4 3 (by decide), b4 4 (by decide), b4 5 (by decide), kk 47 (by decide) (by decide) (by decide), kk 60 (by decide) (by decide) (by decide)]
      exact m1
    · rw [k (v + 4) (by omega) (by omega) (by omega) (by omega), g.2.1 (5 + l) (by omega)]
      exact c5.1 l hl
    · rw [k (v + 1) (by omega) (by omega) (by omega) (by omega), k (v + 3) (by omega) (by omega) (by omega) (by omega), k (v + 9) (by omega) (by omega) (by omega) (by omega)]
      exact c5.2
  · right
    unfold noR at c ⊢
    rw [k v (by omega) (by omega) (by omega) (by omega), kk 60 (by decide) (by decide) (by decide), g.1 3 (by decide), g.1 4 (by decide), kk 47 (by decide) (by decide) (by decide), k 157 (by omega) (by omega) (by omega) (by omega), f.2.2.1, k 148 (by omega) (by omega) (by omega) (by omega)]
    exact ⟨c.1, c.2.1, cS_co c.2.2.1 (k _ (by omega) (by omega) (by omega) (by omega)) (k _ (by omega) (by omega) (by omega) (by omega)) (k _ (by omega) (by omega) (by omega) (by omega)) (k _ (by omega) (by omega) (by omega) (by omega)) (k _ (by omega) (by omega) (by omega) (by omega)) (k _ (by omega) (by omega) (by omega) (by omega)), c.2.2.2⟩
/-- an act is refused by both -/
theorem Sim_ref {a : Nat} (h : Sim' V S v u M) (ha : a < 6) : Sim' V S v u (bz_up (bz_up M 302 a (bz_w32 (M 302 a + 1))) 321 a (bz_w32 (M 321 a + 1))) := by
  have hv := oV_c h.1.1
  have t1 := h.2.2.2.1
  have t2 := h.2.2.2.2.1
  have t3 := h.2.2.2.2.2.1
  refine Sim_k h (kS_trans (kS_up (by omega)) (kS_up (by omega))) (tpR_co t1 (by rw [bz_up_nr (by decide), bz_up_nr (by decide)]) (by rw [bz_up_nr (by decide), bz_up_nr (by decide)]) (by rw [bz_up_fn (by decide), bz_up_fn (by decide)]) (by rw [bz_up_fn (by decide), bz_up_fn (by decide)])) ?_ (fun k hk => ?_)
  · unfold ftR at t2 ⊢
    rw [bz_up_fn (show 123 ≠ 321 by decide), bz_up_fn (show 123 ≠ 302 by decide), bz_up_fn (show 319 ≠ 321 by decide), bz_up_fn (show 319 ≠ 302 by decide)]
    exact t2
  · rw [bz_up_nr (show 302 ≠ 321 by decide)]
    by_cases e : k = a
    · rw [e, bz_up_eq, bz_up_eq, t3 a ha]
    · refine (bz_up_nk e _).trans (Eq.trans ?_ (bz_up_nk e _).symm)
      rw [bz_up_nr (show 321 ≠ 302 by decide)]
      exact t3 k hk
theorem fO_up {r k : Nat} {x : Int} (h : 2 ≤ r ∧ r < 412) : fO M (bz_up M r k x) := fun q hq => bz_up_fn (by omega)
theorem fO_refl (M : bz_M) : fO M M := fun _ _ => rfl
theorem stp_fault {a : Int} (h : Sim M) : stp (eBr_fault Lg d a) (eMo_fault Lg d a) M := by
  obtain ⟨V, S, v, u, hS⟩ := h
  have t2 := hS.2.2.2.2.1
  refine T_le eBr_fault_E ?_
  by_cases e0 : a = 0
  · rw [if_pos e0]
    refine T_some (T_le eMo_fault_E ?_)
    rw [if_pos e0]
    exact T_some ⟨t2.1.symm, ⟨V, S, v, u, hS⟩, fO_refl M⟩
  rw [if_neg e0]
  by_cases e1 : a = 1
  · rw [if_pos e1]
    refine T_some (T_le eMo_fault_E ?_)
    rw [if_neg e0, if_pos e1]
    exact T_some ⟨t2.2.symm, ⟨V, S, v, u, hS⟩, fO_refl M⟩
  rw [if_neg e1]
  refine T_some (T_le eMo_fault_E ?_)
  rw [if_neg e0, if_neg e1]
  exact T_some ⟨rfl, ⟨V, S, v, u, hS⟩, fO_refl M⟩
theorem stp_status (hd : 0 < d) {a : Int} (h : Sim M) : stp (eBr_status Lg d a) (eMo_status Lg d a) M := by
  obtain ⟨V, S, v, u, hS⟩ := h
  have t3 := hS.2.2.2.2.2.1
  have bad : ¬ (0 ≤ a ∧ a ≤ 5) → w_T (eMo_status Lg d a M) (fun p' => p'.1 = -1 ∧ Sim p'.2 ∧ fO M p'.2) := fun hb => by
    refine T_le (eMo_status_E hd) ?_
    rw [if_pos (bz_b0.mpr hb)]
    exact T_some ⟨rfl, ⟨V, S, v, u, hS⟩, fO_refl M⟩
  refine T_le eBr_status_E ?_
  by_cases e0 : a < 0
  · rw [if_pos e0]
    exact T_some (bad (by omega))
  rw [if_neg e0]
  by_cases e1 : a < 6
  · rw [if_pos e1, if_pos (by omega)]
    refine T_some (T_le (eMo_status_E hd) ?_)
    rw [if_neg (fun e => bz_b0.mp e (by omega)), if_pos (by omega)]
    exact T_some ⟨(t3 a.toNat (by omega)).symm, ⟨V, S, v, u, hS⟩, fO_refl M⟩
  rw [if_neg e1]
  exact T_some (bad (by omega))
theorem stp_octet {a : Int} (h : Sim M) : stp (eBr_octet Lg d a) (eMo_octet Lg d a) M := by
  obtain ⟨V, S, v, u, hS⟩ := h
  have t6 := hS.2.2.2.2.2.2.2.2.1
  refine T_le eBr_octet_E ?_
  by_cases e0 : a < 0
  · rw [if_pos e0]
    refine T_some (T_le eMo_octet_E ?_)
    rw [if_pos e0]
    exact T_some ⟨rfl, ⟨V, S, v, u, hS⟩, fO_refl M⟩
  rw [if_neg e0, t6.1]
  by_cases e1 : a < M 319 131
  · have := t6.2.1
    rw [if_pos e1, if_pos (by omega)]
    refine T_some (T_le eMo_octet_E ?_)
    rw [if_neg e0, if_pos e1, if_pos (by omega)]
    exact T_some ⟨t6.2.2 a.toNat (by omega), ⟨V, S, v, u, hS⟩, fO_refl M⟩
  · rw [if_neg e1]
    refine T_some (T_le eMo_octet_E ?_)
    rw [if_neg e0, if_neg e1]
    exact T_some ⟨rfl, ⟨V, S, v, u, hS⟩, fO_refl M⟩
end SE

/-! SIM: feed, both -/
section SM
variable {Lg d : Nat} {M : bz_M} {x1 x2 x3 x4 x5 : Int}
def cFd (x1 x2 x3 x4 x5 : Int) (n t : Nat) (M M' : bz_M) : Prop := M' 123 1 = ((n + t : Nat) : Int) ∧ (∀ j, j < t → M' 124 (n + j) = bz_w8 (ow x1 x2 x3 x4 x5 j)) ∧ (∀ k, k < n → M' 124 k = M 124 k) ∧ (∀ k, k ≠ 1 → M' 123 k = M 123 k) ∧ ∀ r, r ≠ 123 → r ≠ 124 → M' r = M r
theorem c_app2 {n t : Nat} {y : Int} {M1 : bz_M} (h : cFd x1 x2 x3 x4 x5 n t M M1) (hn : n + t + 4 ≤ 1600) (hy : ∀ j, j < 4 → ow x1 x2 x3 x4 x5 (t + j) = oc y j) : w_T (eTx_append Lg d y M1) (cFd x1 x2 x3 x4 x5 n (t + 4) M) := by
  obtain ⟨g1, g2, g3, g4, g5⟩ := h
  refine T_mono (c_app1 g1 hn) ?_
  rintro M2 ⟨a1, a2, a3, a4, a5⟩
  refine ⟨by rw [a1]; omega, fun j hj => ?_, fun k hk => (a3 k (by omega)).trans (g3 k hk), fun k hk => (a4 k hk).trans (g4 k hk), fun r y1 y2 => (a5 r y1 y2).trans (g5 r y1 y2)⟩
  by_cases c : j < t
  · rw [a3 (n + j) (by omega)]; exact g2 j c
  · have := a2 (j - t) (by omega)
    rw [show n + t + (j - t) = n + j by omega] at this
    rw [this, ← hy (j - t) (by omega), show t + (j - t) = j by omega]
theorem stp_feed (hd : 1 < d) (h : Sim M) : stp (eBr_feed Lg d x1 x2 x3 x4 x5) (eMo_feed Lg d x1 x2 x3 x4 x5) M := by
  obtain ⟨V, S, v, u, hS⟩ := h
  have hv := oV_c hS.1.1
  have t1 := hS.2.2.2.1
  have t2 := hS.2.2.2.2.1
  have t3 := hS.2.2.2.2.2.1
  have hn := tp_n t1
  have hb := t1.2.1
  generalize hN : (M 319 1).toNat = n at hn
  have h1 : M 123 1 = (n : Int) := t1.1.trans hn
  refine T_le (eBr_feed_E (by omega)) ?_
  rw [h1, w32_id (z := (n : Int) + 20) (by omega) (by omega)]
  by_cases c : 1600 < (n : Int) + 20
  · rw [if_pos c]
    refine T_seq (R := fun p => p = ((-1 : Int), bz_up M 302 0 (bz_w32 (M 302 0 + 1)))) (T_le eBr_refusal_E ?_) ?_
    · rw [if_pos (by decide)]; exact T_some rfl
    · rintro p rfl
      refine T_some (T_le eMo_feed_E ?_)
      dsimp only
      rw [if_pos (by rw [bz_up_nr (by decide), hn, w32_id (by omega) (by omega)]; exact c)]
      exact T_some ⟨rfl, ref_mem hS (by decide), ref_fO⟩
  · rw [if_neg c]
    have z0 : cFd x1 x2 x3 x4 x5 n 0 M M := ⟨h1, fun j hj => by omega, fun _ _ => rfl, fun _ _ => rfl, fun _ _ _ => rfl⟩
    refine T_seq (c_app2 z0 (by omega) (fun j hj => by unfold ow; rw [if_pos (by omega), show (0 + j) % 4 = j by omega])) (fun M1 z1 => ?_)
    refine T_seq (c_app2 z1 (by omega) (fun j hj => by unfold ow; rw [if_neg (by omega), if_pos (by omega), show (0 + 4 + j) % 4 = j by omega])) (fun M2 z2 => ?_)
    refine T_seq (c_app2 z2 (by omega) (fun j hj => by unfold ow; rw [if_neg (by omega), if_neg (by omega), if_pos (by omega), show (0 + 4 + 4 + j) % 4 = j by omega])) (fun M3 z3 => ?_)
    refine T_seq (c_app2 z3 (by omega) (fun j hj => by unfold ow; rw [if_neg (by omega), if_neg (by omega), if_neg (by omega), if_pos (by omega), show (0 + 4 + 4 + 4 + j) % 4 = j by omega])) (fun M4 z4 => ?_)
    refine T_seq (c_app2 z4 (by omega) (fun j hj => by unfold ow; rw [if_neg (by omega), if_neg (by omega), if_neg (by omega), if_neg (by omega), show (0 + 4 + 4 + 4 + 4 + j) % 4 = j by omega])) (fun M5 z5 => ?_)
    obtain ⟨g1, g2, g3, g4, g5⟩ := z5
    refine T_some (T_le eMo_feed_E ?_)
    dsimp only
    have e9 : M5 319 1 = (n : Int) := by rw [g5 319 (by decide) (by decide)]; exact hn
    rw [if_neg (by rw [e9, w32_id (by omega) (by omega)]; exact c)]
    refine T_mono (m_fd e9 (by omega)) ?_
    rintro ⟨q, M6⟩ ⟨f0, f1, f2, f3, f4, f5⟩
    dsimp only at f0 f1 f2 f3 f4 f5 ⊢
    have k : ∀ r, r ≠ 123 → r ≠ 124 → r ≠ 319 → r ≠ 320 → M6 r = M r := fun r y1 y2 y3 y4 => (f5 r y3 y4).trans (g5 r y1 y2)
    have k9 : ∀ j, j ≠ 1 → M6 319 j = M 319 j := fun j hj => by rw [f4 j hj, g5 319 (by decide) (by decide)]
    refine ⟨by rw [f0, g1], ⟨V, S, v, u, Sim_k hS ⟨fun r hr => k r (by omega) (by omega) (by omega) (by omega), by rw [k 279 (by decide) (by decide) (by decide) (by decide)], fun j hj => k9 j (by omega), fun j _ => by rw [k 355 (by decide) (by decide) (by decide) (by decide)], fun j _ => by rw [k 356 (by decide) (by decide) (by decide) (by decide)], fun j _ => by rw [k 357 (by decide) (by decide) (by decide) (by decide)], fun j _ => by rw [k 358 (by decide) (by decide) (by decide) (by decide)], fun j _ => ⟨by rw [k 361 (by decide) (by decide) (by decide) (by decide)], by rw [k 362 (by decide) (by decide) (by decide) (by decide)]⟩, fun j _ => by rw [k 363 (by decide) (by decide) (by decide) (by decide)]⟩ ⟨?_, ?_, fun j hj => ?_⟩ ⟨?_, ?_⟩ (fun j hj => ?_)⟩, fun r hr => k r (by omega) (by omega) (by omega) (by omega)⟩
    · rw [f1, f5 123 (by decide) (by decide), g1]
    · rw [f1]; omega
    · rw [f1] at hj
      rw [f5 124 (by decide) (by decide)]
      by_cases cj : j < n
      · rw [f3 j cj, g3 j cj, g5 320 (by decide) (by decide)]
        exact t1.2.2 j (by omega)
      · have y1 := f2 (j - n) (by omega)
        have y2 := g2 (j - n) (by omega)
        rw [show n + (j - n) = j by omega] at y1 y2
        rw [y1, y2]
        exact ⟨(oc_8 (Nat.mod_lt _ (by decide))).2, rfl⟩
    · rw [f5 123 (by decide) (by decide), g4 6 (by decide), k9 7 (by decide)]; exact t2.1
    · rw [f5 123 (by decide) (by decide), g4 7 (by decide), k9 8 (by decide)]; exact t2.2
    · rw [k 302 (by decide) (by decide) (by decide) (by decide), k 321 (by decide) (by decide) (by decide) (by decide)]; exact t3 j hj
end SM

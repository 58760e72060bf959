/-! SIM: feed, the reference -/
section SL
variable {Lg d : Nat} {M : bz_M} {x1 x2 x3 x4 x5 : Int}
def ow (x1 x2 x3 x4 x5 : Int) (j : Nat) : Int := oc (if j < 4 then x1 else if j < 8 then x2 else if j < 12 then x3 else if j < 16 then x4 else x5) (j % 4)
theorem m_fd {n : Nat} (h1 : M 319 1 = (n : Int)) (hn : n + 20 ≤ 1600) : w_T (eMo_feed_28 Lg d x1 x2 x3 x4 x5 0 M) (fun p => p.1 = ((n + 20 : Nat) : Int) ∧ p.2 319 1 = ((n + 20 : Nat) : Int) ∧ (∀ j, j < 20 → p.2 320 (n + j) = ow x1 x2 x3 x4 x5 j) ∧ (∀ k, k < n → p.2 320 k = M 320 k) ∧ (∀ k, k ≠ 1 → p.2 319 k = M 319 k) ∧ ∀ r, r ≠ 319 → r ≠ 320 → p.2 r = M r) := by
  have key : ∀ (f i : Nat) (M1 : bz_M), i + f = 20 → M1 319 1 = ((n + i : Nat) : Int) → (∀ j, j < i → M1 320 (n + j) = ow x1 x2 x3 x4 x5 j) → (∀ k, k < n → M1 320 k = M 320 k) → (∀ k, k ≠ 1 → M1 319 k = M 319 k) → (∀ r, r ≠ 319 → r ≠ 320 → M1 r = M r) → w_T (eMo_feed_28 Lg d x1 x2 x3 x4 x5 (i : Int) M1) (fun p => p.1 = ((n + 20 : Nat) : Int) ∧ p.2 319 1 = ((n + 20 : Nat) : Int) ∧ (∀ j, j < 20 → p.2 320 (n + j) = ow x1 x2 x3 x4 x5 j) ∧ (∀ k, k < n → p.2 320 k = M 320 k) ∧ (∀ k, k ≠ 1 → p.2 319 k = M 319 k) ∧ ∀ r, r ≠ 319 → r ≠ 320 → p.2 r = M r) := by
    intro f
    induction f with
    | zero =>
      intro i M1 hi g1 g2 g3 g4 g5
      refine T_le eMo_feed_28_E ?_
      rw [if_neg (by omega)]
      rw [show i = 20 by omega] at g1 g2
      exact T_some ⟨g1, g1, g2, g3, g4, g5⟩
    | succ f ih =>
      intro i M1 hi g1 g2 g3 g4 g5
      have tm : Int.tmod (i : Int) 4 = ((i % 4 : Nat) : Int) := by
        rw [Int.tmod_eq_emod_of_nonneg (by omega)]; omega
      have go : ∀ y : Int, y = (if i < 4 then x1 else if i < 8 then x2 else if i < 12 then x3 else if i < 16 then x4 else x5) → w_T (eMo_feed_81 Lg d x1 x2 x3 x4 x5 (i : Int) y M1) (fun p => p.1 = ((n + 20 : Nat) : Int) ∧ p.2 319 1 = ((n + 20 : Nat) : Int) ∧ (∀ j, j < 20 → p.2 320 (n + j) = ow x1 x2 x3 x4 x5 j) ∧ (∀ k, k < n → p.2 320 k = M 320 k) ∧ (∀ k, k ≠ 1 → p.2 319 k = M 319 k) ∧ ∀ r, r ≠ 319 → r ≠ 320 → p.2 r = M r) := by
        intro y hy
        refine T_le eMo_feed_81_E ?_
        rw [g1, if_pos (by omega), Int.toNat_natCast, tm, w32_id (z := 3 - ((i % 4 : Nat) : Int)) (by omega) (by omega), w32_id (z := 8 * (3 - ((i % 4 : Nat) : Int))) (by omega) (by omega), w32_id (z := (i : Int) + 1) (by omega) (by omega), w32_id (z := ((n + i : Nat) : Int) + 1) (by omega) (by omega), show 8 * (3 - ((i % 4 : Nat) : Int)) = ((8 * (3 - i % 4) : Nat) : Int) by omega]
        refine ih (i + 1) _ (by omega) ?_ (fun j hj => ?_) (fun k hk => ?_) (fun k hk => ?_) (fun r y1 y2 => ?_)
        · rw [bz_up_eq]; omega
        · rw [bz_up_nr (by decide)]
          by_cases e : j = i
          · rw [e, bz_up_eq, hy]; rfl
          · rw [bz_up_nk (by omega)]; exact g2 j (by omega)
        · rw [bz_up_nr (by decide), bz_up_nk (by omega)]; exact g3 k hk
        · rw [bz_up_nk hk, bz_up_nr (by decide)]; exact g4 k hk
        · rw [bz_up_fn y1, bz_up_fn y2]; exact g5 r y1 y2
      refine T_le eMo_feed_28_E ?_
      rw [if_pos (by omega)]
      by_cases c4 : i < 4
      · rw [if_pos (by omega)]; exact go x1 (by rw [if_pos c4])
      rw [if_neg (by omega)]
      by_cases c8 : i < 8
      · rw [if_pos (by omega)]; exact go x2 (by rw [if_neg c4, if_pos c8])
      rw [if_neg (by omega)]
      by_cases c12 : i < 12
      · rw [if_pos (by omega)]; exact go x3 (by rw [if_neg c4, if_neg c8, if_pos c12])
      rw [if_neg (by omega)]
      by_cases c16 : i < 16
      · rw [if_pos (by omega)]; exact go x4 (by rw [if_neg c4, if_neg c8, if_neg c12, if_pos c16])
      rw [if_neg (by omega)]
      exact go x5 (by rw [if_neg c4, if_neg c8, if_neg c12, if_neg c16])
  exact key 20 0 M (by omega) (by rw [h1]; rfl) (fun j hj => by omega) (fun _ _ => rfl) (fun _ _ => rfl) (fun _ _ _ => rfl)
end SL

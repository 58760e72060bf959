/-! SIM: feed, the class -/
section SK
variable {Lg d : Nat} {M : bz_M}
def oc (a : Int) (j : Nat) : Int := bz_and (bz_shr a ((8 * (3 - j) : Nat) : Int)) 255
theorem oc_8 {a : Int} {j : Nat} (h : j < 4) : bz_w8 (bz_w8 (bz_ushr a ((8 * (3 - j) : Nat) : Int))) = bz_w8 (oc a j) ∧ 0 ≤ oc a j ∧ oc a j < 256 := by_8 a _ (by omega)
theorem c_app1 {a : Int} {n : Nat} (h1 : M 123 1 = (n : Int)) (hn : n + 4 ≤ 1600) : w_T (eTx_append Lg d a M) (fun M' => M' 123 1 = ((n + 4 : Nat) : Int) ∧ (∀ j, j < 4 → M' 124 (n + j) = bz_w8 (oc a j)) ∧ (∀ k, k < n → M' 124 k = M 124 k) ∧ (∀ k, k ≠ 1 → M' 123 k = M 123 k) ∧ ∀ r, r ≠ 123 → r ≠ 124 → M' r = M r) := by
  have key : ∀ (f i : Nat) (M1 : bz_M), i + f = 4 → M1 123 1 = ((n + i : Nat) : Int) → (∀ j, j < i → M1 124 (n + j) = bz_w8 (oc a j)) → (∀ k, k < n → M1 124 k = M 124 k) → (∀ k, k ≠ 1 → M1 123 k = M 123 k) → (∀ r, r ≠ 123 → r ≠ 124 → M1 r = M r) → w_T (eTx_append_3 Lg d a (24 - 8 * (i : Int)) M1) (fun M' => M' 123 1 = ((n + 4 : Nat) : Int) ∧ (∀ j, j < 4 → M' 124 (n + j) = bz_w8 (oc a j)) ∧ (∀ k, k < n → M' 124 k = M 124 k) ∧ (∀ k, k ≠ 1 → M' 123 k = M 123 k) ∧ ∀ r, r ≠ 123 → r ≠ 124 → M' r = M r) := by
    intro f
    induction f with
    | zero =>
      intro i M1 hi g1 g2 g3 g4 g5
      refine T_le eTx_append_3_E ?_
      rw [if_pos (by omega)]
      rw [show i = 4 by omega] at g1 g2
      exact T_some ⟨g1, g2, g3, g4, g5⟩
    | succ f ih =>
      intro i M1 hi g1 g2 g3 g4 g5
      refine T_le eTx_append_3_E ?_
      rw [if_neg (by omega), g1, if_pos (by omega), if_pos (by omega), Int.toNat_natCast, w32_id (z := 24 - 8 * (i : Int) + -8) (by omega) (by omega), w32_id (z := ((n + i : Nat) : Int) + 1) (by omega) (by omega), show 24 - 8 * (i : Int) + -8 = 24 - 8 * ((i + 1 : Nat) : Int) by omega]
      refine ih (i + 1) _ (by omega) ?_ (fun j hj => ?_) (fun k hk => ?_) (fun k hk => ?_) (fun r x1 x2 => ?_)
      · rw [bz_up_eq]; omega
      · rw [bz_up_nr (by decide)]
        by_cases e : j = i
        · rw [e, bz_up_eq, show 24 - 8 * (i : Int) = ((8 * (3 - i) : Nat) : Int) by omega]
          exact (oc_8 (by omega)).1
        · rw [bz_up_nk (by omega)]; exact g2 j (by omega)
      · rw [bz_up_nr (by decide), bz_up_nk (by omega)]; exact g3 k hk
      · rw [bz_up_nk hk, bz_up_nr (by decide)]; exact g4 k hk
      · rw [bz_up_fn x1, bz_up_fn x2]; exact g5 r x1 x2
  refine T_le eTx_append_E ?_
  exact key 4 0 M (by omega) (by rw [h1]; rfl) (fun j hj => by omega) (fun _ _ => rfl) (fun _ _ => rfl) (fun _ _ _ => rfl)
end SK

/-! THE LAW'S LOOP -/
theorem fO_tr {M M' M'' : bz_M} (h : fO M M') (h' : fO M' M'') : fO M M'' := fun r hr => (h' r hr).trans (h r hr)
section ZE
variable {Lg d : Nat}
theorem lw_loop (hL : Lg < 2147483648) (hd : 53 < d) : ∀ (n : Nat) (i : Int) (M : bz_M), Sim M → 0 ≤ i → i ≤ 2147483647 → (Lg : Int) - i ≤ (n : Int) → (∀ k, M 1 k < 2147483648) → w_T (eLw_law_18 Lg d i M) (fun p => p.1 = 1 ∧ fO M p.2) := by
  intro n
  induction n with
  | zero =>
    intro i M h h0 h7 hn hs
    refine T_le eLw_law_18_E (T_ite (fun _ => T_some ⟨rfl, fun r _ => rfl⟩) (fun c => ?_))
    rw [w32_id (by omega) (by omega)] at c
    omega
  | succ n ih =>
    intro i M h h0 h7 hn hs
    refine T_le eLw_law_18_E (T_ite (fun _ => T_some ⟨rfl, fun r _ => rfl⟩) (fun c => ?_))
    rw [w32_id (by omega) (by omega)] at c
    have gw : ∀ c : Int, 0 ≤ c → c ≤ 5 → (0 : Int) ≤ bz_w32 (i + c) ∧ bz_w32 (i + c) < (Lg : Int) := fun c c1 c2 => by
      rw [w32_id (by omega) (by omega)]; omega
    have k : ∀ M', Sim M' → fO M M' → w_T (eLw_law_1068 Lg d i M') (fun p => p.1 = 1 ∧ fO M p.2) := fun M' h' f => by
      refine T_le eLw_law_1068_E ?_
      rw [w32_id (by omega) (by omega)]
      refine T_mono (ih (i + 6) M' h' (by omega) (by omega) (by omega) (fun k => by rw [f 1 (by omega)]; exact hs k)) (fun p hp => ⟨hp.1, fO_tr f hp.2⟩)
    refine T_gd (by omega) ?_
    exact T_ite (fun _ => (lw_184 hd gw h k)) (fun _ => T_ite (fun _ => (lw_247 hd gw h k)) (fun _ => T_ite (fun _ => (lw_270 hd gw h k)) (fun _ => T_ite (fun _ => (lw_283 hd gw h k)) (fun _ => T_ite (fun _ => (lw_306 hd gw h k)) (fun _ => T_ite (fun _ => (lw_329 hd gw h k)) (fun _ => T_ite (fun _ => (lw_362 hd gw h k)) (fun _ => T_ite (fun _ => (lw_395 hd gw h k)) (fun _ => T_ite (fun _ => (lw_438 hd gw h k)) (fun _ => T_ite (fun _ => (lw_472 hd gw h k)) (fun _ => T_ite (fun _ => (lw_505 hd gw h k)) (fun _ => T_ite (fun _ => (lw_538 hd gw h k)) (fun _ => T_ite (fun _ => (lw_571 hd gw h k)) (fun _ => T_ite (fun _ => (lw_604 hd gw h k)) (fun _ => T_ite (fun _ => (lw_617 hd gw h k)) (fun _ => T_ite (fun _ => (lw_670 hd gw h k)) (fun _ => T_ite (fun _ => (lw_693 hd gw h k)) (fun _ => T_ite (fun _ => (lw_706 hd gw h k)) (fun _ => T_ite (fun _ => (lw_719 hd gw h k)) (fun _ => T_ite (fun _ => (lw_742 hd gw h k)) (fun _ => T_ite (fun _ => (lw_755 hd gw h k)) (fun _ => T_ite (fun _ => (lw_778 hd gw h k)) (fun _ => T_ite (fun _ => (lw_811 hd gw h k)) (fun _ => T_ite (fun _ => (lw_844 hd gw h k)) (fun _ => T_ite (fun _ => (lw_877 hd gw h k)) (fun _ => T_ite (fun _ => (lw_900 hd gw h k)) (fun _ => T_ite (fun _ => (lw_923 hd gw h k)) (fun _ => T_ite (fun _ => (lw_946 hd gw h k)) (fun _ => T_ite (fun _ => (lw_959 hd gw hs h k)) (fun _ => T_ite (fun _ => (lw_982 hd gw h k)) (fun _ => T_ite (fun _ => (lw_996 hd gw h k)) (fun _ => T_ite (fun _ => (lw_1009 hd gw h k)) (fun _ => T_ite (fun _ => (lw_1032 hd gw h k)) (fun _ => T_ite (fun _ => (lw_1045 hd gw h k)) (fun _ => k M h (fun r _ => rfl)))))))))))))))))))))))))))))))))))
theorem law_at (hL : Lg < 2147483648) (hd : 53 < d) {M : bz_M} (h : Sim M) (hs : ∀ k, M 1 k < 2147483648) : ∃ f M', bz_run (bz_Pg Lg true) f d 0 18 [some (.inr (.inr 1)), some (.inr (.inr 122)), some (.inr (.inr 319)), some (.inl 0)] [] M = some (some (.inl 1), M') ∧ M' 0 = M 0 := by
  obtain ⟨p, h1, h2, h3⟩ := lw_loop hL hd Lg 0 M h (by omega) (by omega) (by omega) hs
  unfold eLw_law_18 bz_X at h1
  cases he : bz_ev (bz_Pg Lg true) d 0 18 [some (.inr (.inr 1)), some (.inr (.inr 122)), some (.inr (.inr 319)), some (.inl 0)] [] M with
  | none => rw [he] at h1; cases h1
  | some x =>
    rw [he] at h1
    obtain ⟨f, hf⟩ := bz_ev_iff.mp he
    obtain ⟨v, M'⟩ := x
    rcases v with _ | v | v | v
    · cases h1
    · cases h1
      dsimp only at h2
      subst h2
      exact ⟨f, M', hf, h3 0 (by omega)⟩
    · cases h1
    · cases h1
end ZE

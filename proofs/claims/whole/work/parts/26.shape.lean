/-! LAWS BY THE SHAPE OF A ROW'S ANSWER -/
section BS
variable {α : Type} {P : bz_P} {k : bz_Rs → Option α} {d m pc : Nat} {L : bz_Ls} {st : bz_S} {M : bz_M} {e : bz_E}
theorem bx_if2 {c : Prop} [Decidable c] {p1 p2 : Nat} {L1 L2 : bz_Ls} {s1 s2 : bz_S} {M1 M2 : bz_M} (h : P.2.2.2.1 m pc = some e) (hs : bz_step P.1 P.2.1 P.2.2.1 (P.2.2.2.2.2 m) e pc L st M = if c then bz_nx p1 L1 s1 M1 else bz_nx p2 L2 s2 M2) : bz_X P k d m pc L st M = if c then bz_X P k d m p1 L1 s1 M1 else bz_X P k d m p2 L2 s2 M2 := by
  by_cases hc : c
  · rw [if_pos hc] at hs ⊢
    exact bx_nx h hs
  · rw [if_neg hc] at hs ⊢
    exact bx_nx h hs
theorem bx_gd {c : Prop} [Decidable c] {p1 : Nat} {L1 : bz_Ls} {s1 : bz_S} {M1 : bz_M} (h : P.2.2.2.1 m pc = some e) (hs : bz_step P.1 P.2.1 P.2.2.1 (P.2.2.2.2.2 m) e pc L st M = if c then bz_nx p1 L1 s1 M1 else none) : bz_X P k d m pc L st M = if c then bz_X P k d m p1 L1 s1 M1 else none := by
  by_cases hc : c
  · rw [if_pos hc] at hs ⊢
    exact bx_nx h hs
  · rw [if_neg hc] at hs ⊢
    exact bx_no h hs
theorem bx_dv {c : Prop} [Decidable c] {p1 : Nat} {L1 : bz_Ls} {s1 : bz_S} {M1 : bz_M} (h : P.2.2.2.1 m pc = some e) (hs : bz_step P.1 P.2.1 P.2.2.1 (P.2.2.2.2.2 m) e pc L st M = if c then none else bz_nx p1 L1 s1 M1) : bz_X P k d m pc L st M = if c then none else bz_X P k d m p1 L1 s1 M1 := by
  by_cases hc : c
  · rw [if_pos hc] at hs ⊢
    exact bx_no h hs
  · rw [if_neg hc] at hs ⊢
    exact bx_nx h hs
theorem bx_rg {c : Prop} [Decidable c] {r : bz_Rs} (h : P.2.2.2.1 m pc = some e) (hs : bz_step P.1 P.2.1 P.2.2.1 (P.2.2.2.2.2 m) e pc L st M = if c then some (.inl r) else none) : bz_X P k d m pc L st M = if c then k r else none := by
  by_cases hc : c
  · rw [if_pos hc] at hs ⊢
    exact bx_rt h hs
  · rw [if_neg hc] at hs ⊢
    exact bx_no h hs
theorem bz_fg_fg (ks : List Nat) : ∀ L : bz_Ls, bz_fg ks (bz_fg ks L) = bz_fg ks L := by
  have hset : ∀ (ks : List Nat) (L : bz_Ls) (j : Nat), (∀ i ∈ ks, L[i]? = none ∨ L[i]? = some none) → bz_fg ks L = L := by
    intro ks
    induction ks with
    | nil => intro L j _; rfl
    | cons a ks ih =>
      intro L j h
      have h1 : L.set a none = L := by
        apply List.ext_getElem?
        intro i
        by_cases e : a = i
        · subst e
          rcases h a List.mem_cons_self with h | h
          · rw [List.getElem?_set]
            simp [h]
            exact List.getElem?_eq_none_iff.mp h
          · rw [List.getElem?_set]
            simp [h]
            exact (List.getElem?_eq_some_iff.mp h).1
        · rw [List.getElem?_set_ne e]
      show bz_fg ks (L.set a none) = L
      rw [h1]
      exact ih L j (fun i hi => h i (List.mem_cons_of_mem _ hi))
  intro L
  refine hset ks _ 0 (fun i hi => ?_)
  cases hc : (bz_fg ks L)[i]? with
  | none => exact Or.inl rfl
  | some o =>
    right
    cases o with
    | none => rfl
    | some v =>
      exfalso
      revert L
      induction ks with
      | nil => exact absurd hi List.not_mem_nil
      | cons a ks ih =>
        intro L hc
        by_cases e : i ∈ ks
        · exact ih e (L.set a none) hc
        · have e2 : i = a := (List.mem_cons.mp hi).resolve_right e
          subst e2
          have h1 := bz_fg_at ks (L.set i none) i v hc
          rw [List.getElem?_set] at h1
          simp at h1
theorem bz_step_fg {kd : Nat → Option bz_Kd} {wr : Nat → Nat → Nat} {w : Bool} {rt : Nat} : bz_step kd wr w rt e pc L st M = bz_step kd wr w rt e pc (bz_fg e.2.2.2.2 L) st M := by
  unfold bz_step
  rw [bz_fg_fg]
/-- what a row forgets may be forgotten before -/
theorem bx_fg (h : P.2.2.2.1 m pc = some e) : bz_X P k d m pc L st M = bz_X P k d m pc (bz_fg e.2.2.2.2 L) st M := by
  unfold bz_X
  rw [bz_ev_F, bz_ev_F]
  unfold bz_F
  rw [h]
  dsimp only
  rw [bz_step_fg]
theorem bz_itc {β : Type} {c : Prop} [Decidable c] {a a' b b' : β} (h1 : a = a') (h2 : b = b') : (if c then a else b) = if c then a' else b' := by rw [h1, h2]
theorem bz_bdc {β γ : Type} {x : Option β} {f g : β → Option γ} (h : ∀ p, f p = g p) : x.bind f = x.bind g := by
  cases x with
  | none => rfl
  | some p => exact h p
end BS

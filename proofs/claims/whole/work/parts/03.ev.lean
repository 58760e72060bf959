/-! THE SMALL MACHINE WITHOUT A CLOCK: bz_ev, its own equation, and a law for each instruction -/
abbrev bz_Rs : Type := Option bz_V × bz_M
def bz_F (P : bz_P) (rec : Nat → Nat → Nat → bz_Ls → bz_S → bz_M → Option bz_Rs) (d m pc : Nat) (L : bz_Ls) (st : bz_S) (M : bz_M) : Option bz_Rs := match P.2.2.2.1 m pc with
    | none => none
    | some e => match bz_step P.1 P.2.1 P.2.2.1 (P.2.2.2.2.2 m) e pc L st M with
      | none => none
      | some (.inl r) => some r
      | some (.inr (.inl (pc', L', st', M'))) => rec d m pc' L' st' M'
      | some (.inr (.inr (m', a, pc', L', st', rk))) => match d with
        | 0 => none
        | d' + 1 => match rec d' m' 0 (bz_ent a (P.2.2.2.2.1 m')) [] M with
          | none => none
          | some (v, M') => match bz_back rk v st' with
            | none => none
            | some st'' => rec (d' + 1) m pc' L' st'' M'
theorem bz_run_F (P : bz_P) (f d m pc : Nat) (L : bz_Ls) (st : bz_S) (M : bz_M) : bz_run P (f + 1) d m pc L st M = bz_F P (bz_run P f) d m pc L st M := rfl
theorem bz_F_mono {P : bz_P} {r1 r2 : Nat → Nat → Nat → bz_Ls → bz_S → bz_M → Option bz_Rs} (h : ∀ d m pc L st M x, r1 d m pc L st M = some x → r2 d m pc L st M = some x) {d m pc : Nat} {L : bz_Ls} {st : bz_S} {M : bz_M} {x : bz_Rs} (hx : bz_F P r1 d m pc L st M = some x) : bz_F P r2 d m pc L st M = some x := by
  unfold bz_F at hx ⊢
  cases ht : P.2.2.2.1 m pc with
  | none => rw [ht] at hx; exact hx
  | some e =>
    rw [ht] at hx
    dsimp only at hx ⊢
    cases hs : bz_step P.1 P.2.1 P.2.2.1 (P.2.2.2.2.2 m) e pc L st M with
    | none => rw [hs] at hx; exact hx
    | some o =>
      rw [hs] at hx
      rcases o with r | n | c
      · exact hx
      · obtain ⟨pc', L', st', M'⟩ := n
        exact h _ _ _ _ _ _ _ hx
      · obtain ⟨m', a, pc', L', st', rk⟩ := c
        cases d with
        | zero => exact hx
        | succ d' =>
          dsimp only at hx ⊢
          cases h1 : r1 d' m' 0 (bz_ent a (P.2.2.2.2.1 m')) [] M with
          | none => rw [h1] at hx; cases hx
          | some y =>
            rw [h1] at hx
            rw [h _ _ _ _ _ _ _ h1]
            obtain ⟨v, M'⟩ := y
            dsimp only at hx ⊢
            cases h2 : bz_back rk v st' with
            | none => rw [h2] at hx; cases hx
            | some st'' =>
              rw [h2] at hx
              exact h _ _ _ _ _ _ _ hx
theorem bz_run_succ {P : bz_P} : ∀ (f : Nat) (d m pc : Nat) (L : bz_Ls) (st : bz_S) (M : bz_M) (x : bz_Rs), bz_run P f d m pc L st M = some x → bz_run P (f + 1) d m pc L st M = some x
  | 0, _, _, _, _, _, _, _, h => by cases h
  | f + 1, d, m, pc, L, st, M, x, h => by
    rw [bz_run_F] at h ⊢
    exact bz_F_mono (bz_run_succ f) h
theorem bz_run_le {P : bz_P} {f g : Nat} (h : f ≤ g) {d m pc : Nat} {L : bz_Ls} {st : bz_S} {M : bz_M} {x : bz_Rs} (hx : bz_run P f d m pc L st M = some x) : bz_run P g d m pc L st M = some x := by
  induction h with
  | refl => exact hx
  | step _ ih => exact bz_run_succ _ _ _ _ _ _ _ _ ih
noncomputable def bz_ev (P : bz_P) (d m pc : Nat) (L : bz_Ls) (st : bz_S) (M : bz_M) : Option bz_Rs :=
  @dite _ (∃ f x, bz_run P f d m pc L st M = some x) (Classical.propDecidable _) (fun h => bz_run P (Classical.choose h) d m pc L st M) (fun _ => none)
theorem bz_ev_iff {P : bz_P} {d m pc : Nat} {L : bz_Ls} {st : bz_S} {M : bz_M} {x : bz_Rs} : bz_ev P d m pc L st M = some x ↔ ∃ f, bz_run P f d m pc L st M = some x := by
  unfold bz_ev
  by_cases h : ∃ f x, bz_run P f d m pc L st M = some x
  · rw [dif_pos h]
    constructor
    · intro h1; exact ⟨_, h1⟩
    · rintro ⟨g, hg⟩
      obtain ⟨y, hy⟩ := Classical.choose_spec h
      have e1 := bz_run_le (Nat.le_max_left g (Classical.choose h)) hg
      have e2 := bz_run_le (Nat.le_max_right g (Classical.choose h)) hy
      rw [hy, ← e1, e2]
  · rw [dif_neg h]
    constructor
    · intro h1; cases h1
    · rintro ⟨g, hg⟩; exact absurd ⟨g, x, hg⟩ h
theorem bz_ev_of {P : bz_P} {f d m pc : Nat} {L : bz_Ls} {st : bz_S} {M : bz_M} {x : bz_Rs} (h : bz_run P f d m pc L st M = some x) : bz_ev P d m pc L st M = some x := bz_ev_iff.mpr ⟨f, h⟩
theorem bz_opt {α : Type} {a b : Option α} (h1 : ∀ x, a = some x → b = some x) (h2 : ∀ x, b = some x → a = some x) : a = b := by
  cases a with
  | none => cases b with
    | none => rfl
    | some y => exact (h2 y rfl)
  | some x => exact (h1 x rfl).symm
theorem bz_ev_F (P : bz_P) (d m pc : Nat) (L : bz_Ls) (st : bz_S) (M : bz_M) : bz_ev P d m pc L st M = bz_F P (bz_ev P) d m pc L st M := by
  refine bz_opt (fun x h => ?_) (fun x h => ?_)
  · obtain ⟨f, hf⟩ := bz_ev_iff.mp h
    cases f with
    | zero => cases hf
    | succ f =>
      rw [bz_run_F] at hf
      exact bz_F_mono (fun _ _ _ _ _ _ _ => bz_ev_of) hf
  · unfold bz_F at h
    cases ht : P.2.2.2.1 m pc with
    | none => rw [ht] at h; cases h
    | some e =>
      rw [ht] at h
      dsimp only at h
      have key : ∀ f, bz_F P (bz_run P f) d m pc L st M = some x → bz_ev P d m pc L st M = some x := fun f hf => bz_ev_of (f := f + 1) (by rw [bz_run_F]; exact hf)
      unfold bz_F at key
      rw [ht] at key
      dsimp only at key
      cases hs : bz_step P.1 P.2.1 P.2.2.1 (P.2.2.2.2.2 m) e pc L st M with
      | none => rw [hs] at h; cases h
      | some o =>
        rw [hs] at h key
        rcases o with r | n | c
        · exact key 0 h
        · obtain ⟨pc', L', st', M'⟩ := n
          obtain ⟨f, hf⟩ := bz_ev_iff.mp h
          exact key f hf
        · obtain ⟨m', a, pc', L', st', rk⟩ := c
          cases d with
          | zero => cases h
          | succ d' =>
            dsimp only at h key
            cases h1 : bz_ev P d' m' 0 (bz_ent a (P.2.2.2.2.1 m')) [] M with
            | none => rw [h1] at h; cases h
            | some y =>
              rw [h1] at h
              obtain ⟨v, M'⟩ := y
              dsimp only at h
              cases h2 : bz_back rk v st' with
              | none => rw [h2] at h; cases h
              | some st'' =>
                rw [h2] at h
                dsimp only at h
                obtain ⟨f1, hf1⟩ := bz_ev_iff.mp h1
                obtain ⟨f2, hf2⟩ := bz_ev_iff.mp h
                refine key (max f1 f2) ?_
                rw [bz_run_le (Nat.le_max_left f1 f2) hf1]
                dsimp only
                rw [h2]
                exact bz_run_le (Nat.le_max_right f1 f2) hf2
/-- the machine from a place on, and what is made of its end -/
noncomputable def bz_X {α : Type} (P : bz_P) (k : bz_Rs → Option α) (d m pc : Nat) (L : bz_Ls) (st : bz_S) (M : bz_M) : Option α := (bz_ev P d m pc L st M).bind k
def bz_kI (p : bz_Rs) : Option (Int × bz_M) := match p.1 with
  | some (.inl x) => some (x, p.2)
  | _ => none
def bz_kL (p : bz_Rs) : Option (Int × bz_M) := match p.1 with
  | some (.inr (.inl x)) => some (x, p.2)
  | _ => none
def bz_kR (p : bz_Rs) : Option (Nat × bz_M) := match p.1 with
  | some (.inr (.inr x)) => some (x, p.2)
  | _ => none
def bz_kV (p : bz_Rs) : Option bz_M := match p.1 with
  | none => some p.2
  | _ => none
noncomputable def bz_cI (P : bz_P) (d m : Nat) (a : bz_S) (M : bz_M) : Option (Int × bz_M) := bz_X P bz_kI d m 0 (bz_ent a (P.2.2.2.2.1 m)) [] M
noncomputable def bz_cL (P : bz_P) (d m : Nat) (a : bz_S) (M : bz_M) : Option (Int × bz_M) := bz_X P bz_kL d m 0 (bz_ent a (P.2.2.2.2.1 m)) [] M
noncomputable def bz_cR (P : bz_P) (d m : Nat) (a : bz_S) (M : bz_M) : Option (Nat × bz_M) := bz_X P bz_kR d m 0 (bz_ent a (P.2.2.2.2.1 m)) [] M
noncomputable def bz_cV (P : bz_P) (d m : Nat) (a : bz_S) (M : bz_M) : Option bz_M := bz_X P bz_kV d m 0 (bz_ent a (P.2.2.2.2.1 m)) [] M
section BX
variable {α : Type} {P : bz_P} {k : bz_Rs → Option α} {d m pc : Nat} {L : bz_Ls} {st : bz_S} {M : bz_M}
theorem bx_nx {e : bz_E} {pc' : Nat} {L' : bz_Ls} {st' : bz_S} {M' : bz_M} (h : P.2.2.2.1 m pc = some e) (hs : bz_step P.1 P.2.1 P.2.2.1 (P.2.2.2.2.2 m) e pc L st M = bz_nx pc' L' st' M') : bz_X P k d m pc L st M = bz_X P k d m pc' L' st' M' := by
  unfold bz_X
  rw [bz_ev_F]
  unfold bz_F
  rw [h]
  dsimp only
  rw [hs]
  rfl
theorem bx_no {e : bz_E} (h : P.2.2.2.1 m pc = some e) (hs : bz_step P.1 P.2.1 P.2.2.1 (P.2.2.2.2.2 m) e pc L st M = none) : bz_X P k d m pc L st M = none := by
  unfold bz_X
  rw [bz_ev_F]
  unfold bz_F
  rw [h]
  dsimp only
  rw [hs]
  rfl
theorem bx_rt {e : bz_E} {r : bz_Rs} (h : P.2.2.2.1 m pc = some e) (hs : bz_step P.1 P.2.1 P.2.2.1 (P.2.2.2.2.2 m) e pc L st M = some (.inl r)) : bz_X P k d m pc L st M = k r := by
  unfold bz_X
  rw [bz_ev_F]
  unfold bz_F
  rw [h]
  dsimp only
  rw [hs]
  rfl
theorem bx_cI {e : bz_E} {m' pc' : Nat} {a : bz_S} {L' : bz_Ls} {st' : bz_S} (h : P.2.2.2.1 m pc = some e) (hs : bz_step P.1 P.2.1 P.2.2.1 (P.2.2.2.2.2 m) e pc L st M = some (.inr (.inr (m', a, pc', L', st', 1)))) : bz_X P k (d + 1) m pc L st M = (bz_cI P d m' a M).bind (fun p => bz_X P k (d + 1) m pc' L' (.inl p.1 :: st') p.2) := by
  unfold bz_cI bz_X
  rw [bz_ev_F]
  unfold bz_F
  rw [h]
  dsimp only
  rw [hs]
  dsimp only
  cases bz_ev P d m' 0 (bz_ent a (P.2.2.2.2.1 m')) [] M with
  | none => rfl
  | some y =>
    obtain ⟨v, M'⟩ := y
    rcases v with _ | x | x | x <;> rfl
theorem bx_cL {e : bz_E} {m' pc' : Nat} {a : bz_S} {L' : bz_Ls} {st' : bz_S} (h : P.2.2.2.1 m pc = some e) (hs : bz_step P.1 P.2.1 P.2.2.1 (P.2.2.2.2.2 m) e pc L st M = some (.inr (.inr (m', a, pc', L', st', 2)))) : bz_X P k (d + 1) m pc L st M = (bz_cL P d m' a M).bind (fun p => bz_X P k (d + 1) m pc' L' (.inr (.inl p.1) :: st') p.2) := by
  unfold bz_cL bz_X
  rw [bz_ev_F]
  unfold bz_F
  rw [h]
  dsimp only
  rw [hs]
  dsimp only
  cases bz_ev P d m' 0 (bz_ent a (P.2.2.2.2.1 m')) [] M with
  | none => rfl
  | some y =>
    obtain ⟨v, M'⟩ := y
    rcases v with _ | x | x | x <;> rfl
theorem bx_cR {e : bz_E} {m' pc' : Nat} {a : bz_S} {L' : bz_Ls} {st' : bz_S} (h : P.2.2.2.1 m pc = some e) (hs : bz_step P.1 P.2.1 P.2.2.1 (P.2.2.2.2.2 m) e pc L st M = some (.inr (.inr (m', a, pc', L', st', 3)))) : bz_X P k (d + 1) m pc L st M = (bz_cR P d m' a M).bind (fun p => bz_X P k (d + 1) m pc' L' (.inr (.inr p.1) :: st') p.2) := by
  unfold bz_cR bz_X
  rw [bz_ev_F]
  unfold bz_F
  rw [h]
  dsimp only
  rw [hs]
  dsimp only
  cases bz_ev P d m' 0 (bz_ent a (P.2.2.2.2.1 m')) [] M with
  | none => rfl
  | some y =>
    obtain ⟨v, M'⟩ := y
    rcases v with _ | x | x | x <;> rfl
theorem bx_cV {e : bz_E} {m' pc' : Nat} {a : bz_S} {L' : bz_Ls} {st' : bz_S} (h : P.2.2.2.1 m pc = some e) (hs : bz_step P.1 P.2.1 P.2.2.1 (P.2.2.2.2.2 m) e pc L st M = some (.inr (.inr (m', a, pc', L', st', 0)))) : bz_X P k (d + 1) m pc L st M = (bz_cV P d m' a M).bind (fun M' => bz_X P k (d + 1) m pc' L' st' M') := by
  unfold bz_cV bz_X
  rw [bz_ev_F]
  unfold bz_F
  rw [h]
  dsimp only
  rw [hs]
  dsimp only
  cases bz_ev P d m' 0 (bz_ent a (P.2.2.2.2.1 m')) [] M with
  | none => rfl
  | some y =>
    obtain ⟨v, M'⟩ := y
    rcases v with _ | x | x | x <;> rfl
end BX

/-! ROWS AT A REGION THAT ISN'T SPELT OUT: by what it is -/
section BL
variable {α : Type} {P : bz_P} {k : bz_Rs → Option α} {d m pc x ci kk j r : Nat} {fg : List Nat} {L : bz_Ls} {st : bz_S} {M : bz_M}
theorem bx_g0 (h : P.2.2.2.1 m pc = some (.getfield x, 3, [ci, kk, 0, j], 0, fg)) (hk : P.1 r = some (.inl ci)) : bz_X P k d m pc L (.inr (.inr r) :: st) M = bz_X P k d m (pc + 3) (bz_fg fg L) (.inl (M r kk) :: st) M :=
  bx_nx h (by
    show (if P.1 r = some (.inl ci) then _ else none) = _
    rw [if_pos hk]; rfl)
theorem bx_g1 (h : P.2.2.2.1 m pc = some (.getfield x, 3, [ci, kk, 1, j], 0, fg)) (hk : P.1 r = some (.inl ci)) : bz_X P k d m pc L (.inr (.inr r) :: st) M = bz_X P k d m (pc + 3) (bz_fg fg L) (.inr (.inl (M r kk)) :: st) M :=
  bx_nx h (by
    show (if P.1 r = some (.inl ci) then _ else none) = _
    rw [if_pos hk]; rfl)
theorem bx_g2 (h : P.2.2.2.1 m pc = some (.getfield x, 3, [ci, kk, 2, j], 0, fg)) (hk : P.1 r = some (.inl ci)) : bz_X P k d m pc L (.inr (.inr r) :: st) M = bz_X P k d m (pc + 3) (bz_fg fg L) (.inr (.inr (M r kk).toNat) :: st) M :=
  bx_nx h (by
    show (if P.1 r = some (.inl ci) then _ else none) = _
    rw [if_pos hk]; rfl)
theorem bx_g3 {q : Nat} (h : P.2.2.2.1 m pc = some (.getfield x, 3, [ci, kk, 3, j], 0, fg)) (hk : P.1 r = some (.inl ci)) (hw : P.2.2.1 = true) (hq : P.2.1 r kk = q) (h0 : q ≠ 0) : bz_X P k d m pc L (.inr (.inr r) :: st) M = bz_X P k d m (pc + 3) (bz_fg fg L) (.inr (.inr q) :: st) M :=
  bx_nx h (by
    subst hq
    show (if P.1 r = some (.inl ci) then (if P.2.2.1 = true ∧ P.2.1 r kk ≠ 0 then _ else none) else none) = _
    rw [if_pos hk, if_pos ⟨hw, h0⟩]; rfl)
theorem bx_p0 {v : Int} (h : P.2.2.2.1 m pc = some (.putfield x, 3, [ci, kk, 0, j], 0, fg)) (hk : P.1 r = some (.inl ci)) (hq : P.2.1 r kk = 0) : bz_X P k d m pc L (.inl v :: .inr (.inr r) :: st) M = bz_X P k d m (pc + 3) (bz_fg fg L) st (bz_up M r kk v) :=
  bx_nx h (by
    show (if P.1 r = some (.inl ci) ∧ (P.2.2.1 = true → P.2.1 r kk = 0) then _ else none) = _
    rw [if_pos ⟨hk, fun _ => hq⟩]; rfl)
theorem bx_p2 {v : Nat} (h : P.2.2.2.1 m pc = some (.putfield x, 3, [ci, kk, 2, j], 0, fg)) (hk : P.1 r = some (.inl ci)) (hq : P.2.1 r kk = 0) : bz_X P k d m pc L (.inr (.inr v) :: .inr (.inr r) :: st) M = bz_X P k d m (pc + 3) (bz_fg fg L) st (bz_up M r kk (v : Int)) :=
  bx_nx h (by
    show (if P.1 r = some (.inl ci) ∧ (P.2.2.1 = true → P.2.1 r kk = 0) then _ else none) = _
    rw [if_pos ⟨hk, fun _ => hq⟩]; rfl)
theorem bx_len {n t v : Nat} (h : P.2.2.2.1 m pc = some (.arraylength, 1, [], 0, fg)) (hk : P.1 r = some (.inr (t, n))) : bz_X P k d m pc L (.inr (.inr r) :: st) M = bz_X P k d m (pc + 1) (bz_fg fg L) (.inl (n : Int) :: st) M :=
  bx_nx h (by
    show (match P.1 r with | some (.inr (_, n)) => bz_nx (pc + 1) (bz_fg fg L) (.inl (n : Int) :: st) M | _ => none) = _
    rw [hk])
theorem bx_iald {n : Nat} {a : Int} (h : P.2.2.2.1 m pc = some (.iaload, 1, [], 0, fg)) (hk : P.1 r = some (.inr (0, n))) (ha : 0 ≤ a ∧ a < (n : Int)) : bz_X P k d m pc L (.inl a :: .inr (.inr r) :: st) M = bz_X P k d m (pc + 1) (bz_fg fg L) (.inl (M r a.toNat) :: st) M :=
  bx_nx h (by
    show bz_ald P.1 [0] (fun x => .inl x) (pc + 1) (bz_fg fg L) (.inl a :: .inr (.inr r) :: st) M = _
    unfold bz_ald
    dsimp only
    rw [hk]
    dsimp only
    rw [if_pos (by decide), if_pos ha])
theorem bx_iast {n : Nat} {a v : Int} (h : P.2.2.2.1 m pc = some (.iastore, 1, [], 0, fg)) (hk : P.1 r = some (.inr (0, n))) (hr : bz_ns < r) (ha : 0 ≤ a ∧ a < (n : Int)) : bz_X P k d m pc L (.inl v :: .inl a :: .inr (.inr r) :: st) M = bz_X P k d m (pc + 1) (bz_fg fg L) st (bz_up M r a.toNat v) :=
  bx_nx h (by
    show bz_ast P.1 0 bz_asI (pc + 1) (bz_fg fg L) (.inl v :: .inl a :: .inr (.inr r) :: st) M = _
    unfold bz_ast
    dsimp only
    rw [hk]
    show (if 0 = 0 ∧ bz_ns < r then _ else none) = _
    rw [if_pos ⟨rfl, hr⟩, if_pos ha])
end BL

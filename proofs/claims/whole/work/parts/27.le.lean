/-! AT LEAST AS DEFINED; TRIPLES; REGIONS OF A KIND -/
def bz_le {α : Type} (a b : Option α) : Prop := ∀ x, a = some x → b = some x
theorem bz_le_refl {α : Type} (a : Option α) : bz_le a a := fun _ h => h
theorem bz_lq {α : Type} {a x y : Option α} (h : x = y) (r : bz_le a y) : bz_le a x := by rw [h]; exact r
theorem bz_lert {α : Type} {a x : Option α} (h : x = a) : bz_le a x := by rw [h]; exact bz_le_refl _
theorem bz_leif {α : Type} {c : Prop} [Decidable c] {a a' b b' : Option α} (h1 : bz_le a a') (h2 : bz_le b b') : bz_le (if c then a else b) (if c then a' else b') := by
  by_cases h : c
  · rw [if_pos h, if_pos h]; exact h1
  · rw [if_neg h, if_neg h]; exact h2
theorem bz_leg {α : Type} {c : Prop} [Decidable c] {a a' : Option α} (h1 : bz_le a a') : bz_le (if c then a else none) (if c then a' else none) := bz_leif h1 (bz_le_refl _)
theorem bz_led {α : Type} {c : Prop} [Decidable c] {a a' : Option α} (h1 : bz_le a a') : bz_le (if c then none else a) (if c then none else a') := bz_leif (bz_le_refl _) h1
theorem bz_legh {α : Type} {c : Prop} [Decidable c] {a x : Option α} (h1 : c → bz_le a x) : bz_le (if c then a else none) x := by
  by_cases h : c
  · rw [if_pos h]; exact h1 h
  · rw [if_neg h]; intro y hy; cases hy
theorem bz_lebd {α β : Type} {x : Option β} {f g : β → Option α} (h : ∀ p, bz_le (f p) (g p)) : bz_le (x.bind f) (x.bind g) := by
  cases x with
  | none => exact bz_le_refl _
  | some p => exact h p
theorem bz_ip {α : Type} {x y z : α} {c : Prop} [Decidable c] (h : x = if c then y else z) (hc : c) : x = y := by rw [h, if_pos hc]
/-! calls, depth by subtraction -/
section BD
variable {α : Type} {P : bz_P} {k : bz_Rs → Option α} {d m pc : Nat} {L : bz_Ls} {st : bz_S} {M : bz_M} {e : bz_E} {m' pc' : Nat} {a : bz_S} {L' : bz_Ls} {st' : bz_S}
theorem bx_dI (hd : 0 < d) (h : P.2.2.2.1 m pc = some e) (hs : bz_step P.1 P.2.1 P.2.2.1 (P.2.2.2.2.2 m) e pc L st M = some (.inr (.inr (m', a, pc', L', st', 1)))) : bz_X P k d m pc L st M = (bz_cI P (d - 1) m' a M).bind (fun p => bz_X P k d m pc' L' (.inl p.1 :: st') p.2) := by
  obtain ⟨d, rfl⟩ : ∃ e, d = e + 1 := ⟨d - 1, by omega⟩
  exact bx_cI h hs
theorem bx_dL (hd : 0 < d) (h : P.2.2.2.1 m pc = some e) (hs : bz_step P.1 P.2.1 P.2.2.1 (P.2.2.2.2.2 m) e pc L st M = some (.inr (.inr (m', a, pc', L', st', 2)))) : bz_X P k d m pc L st M = (bz_cL P (d - 1) m' a M).bind (fun p => bz_X P k d m pc' L' (.inr (.inl p.1) :: st') p.2) := by
  obtain ⟨d, rfl⟩ : ∃ e, d = e + 1 := ⟨d - 1, by omega⟩
  exact bx_cL h hs
theorem bx_dR (hd : 0 < d) (h : P.2.2.2.1 m pc = some e) (hs : bz_step P.1 P.2.1 P.2.2.1 (P.2.2.2.2.2 m) e pc L st M = some (.inr (.inr (m', a, pc', L', st', 3)))) : bz_X P k d m pc L st M = (bz_cR P (d - 1) m' a M).bind (fun p => bz_X P k d m pc' L' (.inr (.inr p.1) :: st') p.2) := by
  obtain ⟨d, rfl⟩ : ∃ e, d = e + 1 := ⟨d - 1, by omega⟩
  exact bx_cR h hs
theorem bx_dV (hd : 0 < d) (h : P.2.2.2.1 m pc = some e) (hs : bz_step P.1 P.2.1 P.2.2.1 (P.2.2.2.2.2 m) e pc L st M = some (.inr (.inr (m', a, pc', L', st', 0)))) : bz_X P k d m pc L st M = (bz_cV P (d - 1) m' a M).bind (fun M' => bz_X P k d m pc' L' st' M') := by
  obtain ⟨d, rfl⟩ : ∃ e, d = e + 1 := ⟨d - 1, by omega⟩
  exact bx_cV h hs
/-- a call that is known: what it gives, and the same store -/
theorem bx_kI {x : Int} (hd : 0 < d) (hk : bz_cI P (d - 1) m' a M = some (x, M)) (h : P.2.2.2.1 m pc = some e) (hs : bz_step P.1 P.2.1 P.2.2.1 (P.2.2.2.2.2 m) e pc L st M = some (.inr (.inr (m', a, pc', L', st', 1)))) : bz_X P k d m pc L st M = bz_X P k d m pc' L' (.inl x :: st') M := by
  rw [bx_dI hd h hs, hk]; rfl
theorem bx_kL {x : Int} (hd : 0 < d) (hk : bz_cL P (d - 1) m' a M = some (x, M)) (h : P.2.2.2.1 m pc = some e) (hs : bz_step P.1 P.2.1 P.2.2.1 (P.2.2.2.2.2 m) e pc L st M = some (.inr (.inr (m', a, pc', L', st', 2)))) : bz_X P k d m pc L st M = bz_X P k d m pc' L' (.inr (.inl x) :: st') M := by
  rw [bx_dL hd h hs, hk]; rfl
/-- a switch -/
def bz_swX (ps : List (Int × Nat)) (dflt : Nat) (x : Int) (f : Nat → Option α) : Option α := match ps with
  | [] => f dflt
  | (v, t) :: ps' => if x = v then f t else bz_swX ps' dflt x f
theorem bx_sw {x : Int} (ps : List (Int × Nat)) (dflt : Nat) (h : P.2.2.2.1 m pc = some e) (hs : bz_step P.1 P.2.1 P.2.2.1 (P.2.2.2.2.2 m) e pc L st M = bz_sw ps dflt x L' st' M) : bz_X P k d m pc L st M = bz_swX ps dflt x (fun t => bz_X P k d m t L' st' M) := by
  revert hs
  generalize hS : bz_step P.1 P.2.1 P.2.2.1 (P.2.2.2.2.2 m) e pc L st M = S
  intro hs
  subst hs
  induction ps with
  | nil => exact bx_nx h hS
  | cons q ps ih =>
    obtain ⟨v, t⟩ := q
    unfold bz_sw at hS
    unfold bz_swX
    by_cases hx : x = v
    · rw [if_pos hx] at hS ⊢; exact bx_nx h hS
    · rw [if_neg hx] at hS ⊢; exact ih hS
theorem bx_ac {c1 c2 : Prop} [Decidable c1] [Decidable c2] {p1 p2 : Nat} {L1 L2 : bz_Ls} {s1 s2 : bz_S} {M1 M2 : bz_M} (h : P.2.2.2.1 m pc = some e) (hs : bz_step P.1 P.2.1 P.2.2.1 (P.2.2.2.2.2 m) e pc L st M = if c1 then (if c2 then bz_nx p1 L1 s1 M1 else bz_nx p2 L2 s2 M2) else none) : bz_X P k d m pc L st M = if c1 then (if c2 then bz_X P k d m p1 L1 s1 M1 else bz_X P k d m p2 L2 s2 M2) else none := by
  by_cases hc : c1
  · rw [if_pos hc] at hs ⊢
    exact bx_if2 h hs
  · rw [if_neg hc] at hs ⊢
    exact bx_no h hs
theorem bx_g2v {x ci kk j r v : Nat} {fg : List Nat} (h : P.2.2.2.1 m pc = some (.getfield x, 3, [ci, kk, 2, j], 0, fg)) (hk : P.1 r = some (.inl ci)) (hM : M r kk = (v : Int)) : bz_X P k d m pc L (.inr (.inr r) :: st) M = bz_X P k d m (pc + 3) (bz_fg fg L) (.inr (.inr v) :: st) M := by
  rw [bx_g2 h hk, hM]; rfl
theorem bx_p4 {x ci kk j r : Nat} {fg : List Nat} {v : Int} (h : P.2.2.2.1 m pc = some (.putfield x, 3, [ci, kk, 4, j], 0, fg)) (hk : P.1 r = some (.inl ci)) (hq : P.2.1 r kk = 0) (hv : v = 0 ∨ v = 1) : bz_X P k d m pc L (.inl v :: .inr (.inr r) :: st) M = bz_X P k d m (pc + 3) (bz_fg fg L) st (bz_up M r kk v) :=
  bx_nx h (by
    show (if P.1 r = some (.inl ci) ∧ (P.2.2.1 = true → P.2.1 r kk = 0) then (if v = 0 ∨ v = 1 then _ else none) else none) = _
    rw [if_pos ⟨hk, fun _ => hq⟩, if_pos hv]; rfl)
end BD
theorem bz_ald_k {kd : Nat → Option bz_Kd} {ts : List Nat} {f : Int → bz_V} {pc r t n : Nat} {L : bz_Ls} {st : bz_S} {M : bz_M} {j : Int} (hk : kd r = some (.inr (t, n))) (ht : t ∈ ts) : bz_ald kd ts f pc L (.inl j :: .inr (.inr r) :: st) M = if 0 ≤ j ∧ j < (n : Int) then bz_nx pc L (f (M r j.toNat) :: st) M else none := by
  unfold bz_ald; dsimp only; rw [hk]; dsimp only; rw [if_pos ht]
theorem bz_ast_k {kd : Nat → Option bz_Kd} {t0 : Nat} {f : bz_V → Option Int} {v : bz_V} {x : Int} {pc r n : Nat} {L : bz_Ls} {st : bz_S} {M : bz_M} {j : Int} (hk : kd r = some (.inr (t0, n))) (hn : bz_ns < r) (hv : f v = some x) : bz_ast kd t0 f pc L (v :: .inl j :: .inr (.inr r) :: st) M = if 0 ≤ j ∧ j < (n : Int) then bz_nx pc L st (bz_up M r j.toNat x) else none := by
  unfold bz_ast; dsimp only; rw [hk, hv]; dsimp only; rw [if_pos ⟨rfl, hn⟩]
theorem bz_len_k {kd : Nat → Option bz_Kd} {pc r t n : Nat} {L : bz_Ls} {st : bz_S} {M : bz_M} (hk : kd r = some (.inr (t, n))) : bz_len kd pc L (.inr (.inr r) :: st) M = bz_nx pc L (.inl (n : Int) :: st) M := by
  unfold bz_len; dsimp only; rw [hk]
theorem bz_acpy_k {kd : Nat → Option bz_Kd} {pc a b la lb : Nat} {i j n : Int} {L : bz_Ls} {st : bz_S} {M : bz_M} (ha : kd a = some (.inr (0, la))) (hb : kd b = some (.inr (0, lb))) (h : a ≠ b ∧ bz_ns < a ∧ bz_ns < b ∧ 0 ≤ i ∧ 0 ≤ j ∧ 0 ≤ n ∧ i + n ≤ (la : Int) ∧ j + n ≤ (lb : Int) ∧ bz_cat st ≤ 8) : bz_acpy kd pc L (.inl n :: .inl j :: .inr (.inr b) :: .inl i :: .inr (.inr a) :: st) M = bz_nx pc L st (bz_cpy M a i.toNat b j.toNat n.toNat) := by
  unfold bz_acpy; dsimp only; rw [ha, hb]; show (if _ then _ else _) = _; rw [if_pos h]
/-! regions of a kind -/
def bz_Sl : List Nat := [148, 286, 159, 165, 171, 177, 183, 189, 195, 201, 207, 213, 219, 225, 231, 237, 243, 249, 255, 261, 267, 273]
abbrev bz_oS (s : Nat) : Prop := s ∈ bz_Sl
abbrev bz_oR (r s : Nat) : Prop := (r, s) ∈ [(131, 148), (285, 286)]
abbrev bz_oV (v : Nat) : Prop := v ∈ [132, 303]
abbrev bz_oC (c : Nat) : Prop := c ∈ [126, 142, 145, 313, 316]
section BO
variable {Lg r s v c : Nat}
theorem bz_kd_Lg (h : r ≠ 1) : bz_kd Lg r = bz_kd 0 r := by
  match r, h with
  | 0, _ => rfl
  | 1, h => exact absurd rfl h
  | r + 2, _ => rfl
theorem oS_all : ∀ s ∈ bz_Sl, bz_kd 0 s = some (.inl 7) ∧ bz_wr s 0 = 0 ∧ bz_wr s 1 = 0 ∧ bz_wr s 2 = 0 ∧ bz_wr s 3 = s + 1 ∧ bz_wr s 4 = s + 2 ∧ bz_wr s 5 = s + 3 ∧ bz_wr s 6 = s + 4 ∧ bz_wr s 7 = s + 5 ∧ bz_kd 0 (s + 1) = some (.inr (0, 10)) ∧ bz_kd 0 (s + 2) = some (.inr (0, 80)) ∧ bz_kd 0 (s + 3) = some (.inr (0, 80)) ∧ bz_kd 0 (s + 4) = some (.inr (0, 5)) ∧ bz_kd 0 (s + 5) = some (.inr (0, 5)) ∧ 121 < s := by decide +kernel
theorem oS_k (h : bz_oS s) : bz_kd Lg s = some (.inl 7) := (bz_kd_Lg (by have := (oS_all s h).2.2.2.2.2.2.2.2.2.2.2.2.2.2; omega)).trans (oS_all s h).1
theorem oS_n (h : bz_oS s) : 121 < s := (oS_all s h).2.2.2.2.2.2.2.2.2.2.2.2.2.2
theorem oS_w0 (h : bz_oS s) : bz_wr s 0 = 0 := (oS_all s h).2.1
theorem oS_w1 (h : bz_oS s) : bz_wr s 1 = 0 := (oS_all s h).2.2.1
theorem oS_w2 (h : bz_oS s) : bz_wr s 2 = 0 := (oS_all s h).2.2.2.1
theorem oS_w3 (h : bz_oS s) : bz_wr s 3 = s + 1 := (oS_all s h).2.2.2.2.1
theorem oS_w4 (h : bz_oS s) : bz_wr s 4 = s + 2 := (oS_all s h).2.2.2.2.2.1
theorem oS_w5 (h : bz_oS s) : bz_wr s 5 = s + 3 := (oS_all s h).2.2.2.2.2.2.1
theorem oS_w6 (h : bz_oS s) : bz_wr s 6 = s + 4 := (oS_all s h).2.2.2.2.2.2.2.1
theorem oS_w7 (h : bz_oS s) : bz_wr s 7 = s + 5 := (oS_all s h).2.2.2.2.2.2.2.2.1
theorem oS_a1 (h : bz_oS s) : bz_kd Lg (s + 1) = some (.inr (0, 10)) := (bz_kd_Lg (by have := oS_n h; omega)).trans (oS_all s h).2.2.2.2.2.2.2.2.2.1
theorem oS_a2 (h : bz_oS s) : bz_kd Lg (s + 2) = some (.inr (0, 80)) := (bz_kd_Lg (by have := oS_n h; omega)).trans (oS_all s h).2.2.2.2.2.2.2.2.2.2.1
theorem oS_a3 (h : bz_oS s) : bz_kd Lg (s + 3) = some (.inr (0, 80)) := (bz_kd_Lg (by have := oS_n h; omega)).trans (oS_all s h).2.2.2.2.2.2.2.2.2.2.2.1
theorem oS_a4 (h : bz_oS s) : bz_kd Lg (s + 4) = some (.inr (0, 5)) := (bz_kd_Lg (by have := oS_n h; omega)).trans (oS_all s h).2.2.2.2.2.2.2.2.2.2.2.2.1
theorem oS_a5 (h : bz_oS s) : bz_kd Lg (s + 5) = some (.inr (0, 5)) := (bz_kd_Lg (by have := oS_n h; omega)).trans (oS_all s h).2.2.2.2.2.2.2.2.2.2.2.2.2.1
theorem oR_c (h : bz_oR r s) : (r = 131 ∧ s = 148) ∨ (r = 285 ∧ s = 286) := by
  unfold bz_oR at h
  simpa using h
theorem oR_S (h : bz_oR r s) : bz_oS s := by rcases oR_c h with ⟨rfl, rfl⟩ | ⟨rfl, rfl⟩ <;> decide
theorem oR_k (h : bz_oR r s) : bz_kd Lg r = some (.inl 6) := by rcases oR_c h with ⟨rfl, rfl⟩ | ⟨rfl, rfl⟩ <;> rfl
theorem oR_w0 (h : bz_oR r s) : bz_wr r 0 = 0 := by rcases oR_c h with ⟨rfl, rfl⟩ | ⟨rfl, rfl⟩ <;> rfl
theorem oR_w4 (h : bz_oR r s) : bz_wr r 4 = 0 := by rcases oR_c h with ⟨rfl, rfl⟩ | ⟨rfl, rfl⟩ <;> rfl
theorem oR_w1 (h : bz_oR r s) : bz_wr r 1 = s := by rcases oR_c h with ⟨rfl, rfl⟩ | ⟨rfl, rfl⟩ <;> rfl
theorem oR_w2 (h : bz_oR r s) : bz_wr r 2 = s + 6 := by rcases oR_c h with ⟨rfl, rfl⟩ | ⟨rfl, rfl⟩ <;> rfl
theorem oR_w3 (h : bz_oR r s) : bz_wr r 3 = s + 7 := by rcases oR_c h with ⟨rfl, rfl⟩ | ⟨rfl, rfl⟩ <;> rfl
theorem oR_w5 (h : bz_oR r s) : bz_wr r 5 = s + 8 := by rcases oR_c h with ⟨rfl, rfl⟩ | ⟨rfl, rfl⟩ <;> rfl
theorem oR_a6 (h : bz_oR r s) : bz_kd Lg (s + 6) = some (.inr (3, 80)) := by rcases oR_c h with ⟨rfl, rfl⟩ | ⟨rfl, rfl⟩ <;> rfl
theorem oR_a7 (h : bz_oR r s) : bz_kd Lg (s + 7) = some (.inr (0, 5)) := by rcases oR_c h with ⟨rfl, rfl⟩ | ⟨rfl, rfl⟩ <;> rfl
theorem oR_a8 (h : bz_oR r s) : bz_kd Lg (s + 8) = some (.inr (0, 39)) := by rcases oR_c h with ⟨rfl, rfl⟩ | ⟨rfl, rfl⟩ <;> rfl
theorem oR_n (h : bz_oR r s) : 121 < s := oS_n (oR_S h)
theorem oV_c (h : bz_oV v) : v = 132 ∨ v = 303 := by
  unfold bz_oV at h
  simpa using h
theorem oV_all : ∀ v ∈ [132, 303], bz_wr v 0 = 0 ∧ bz_wr v 1 = 0 ∧ bz_wr v 2 = 0 ∧ bz_wr v 3 = 0 ∧ bz_wr v 4 = 0 ∧ bz_wr v 16 = 0 ∧ bz_wr v 17 = 0 ∧ (∀ k < 9, bz_wr v (5 + k) = v + (1 + k)) ∧ bz_wr v 14 = v + 10 ∧ bz_wr v 15 = v + 13 := by decide +kernel
theorem oV_k (h : bz_oV v) : bz_kd Lg v = some (.inl 9) := by rcases oV_c h with rfl | rfl <;> rfl
theorem oV_n (h : bz_oV v) : 121 < v := by rcases oV_c h with rfl | rfl <;> decide
theorem oV_w0 (h : bz_oV v) : bz_wr v 0 = 0 := (oV_all v h).1
theorem oV_w1 (h : bz_oV v) : bz_wr v 1 = 0 := (oV_all v h).2.1
theorem oV_w2 (h : bz_oV v) : bz_wr v 2 = 0 := (oV_all v h).2.2.1
theorem oV_w3 (h : bz_oV v) : bz_wr v 3 = 0 := (oV_all v h).2.2.2.1
theorem oV_w4 (h : bz_oV v) : bz_wr v 4 = 0 := (oV_all v h).2.2.2.2.1
theorem oV_w16 (h : bz_oV v) : bz_wr v 16 = 0 := (oV_all v h).2.2.2.2.2.1
theorem oV_w17 (h : bz_oV v) : bz_wr v 17 = 0 := (oV_all v h).2.2.2.2.2.2.1
theorem oV_wa (h : bz_oV v) (k : Nat) (hk : k < 9) : bz_wr v (5 + k) = v + (1 + k) := (oV_all v h).2.2.2.2.2.2.2.1 k hk
theorem oV_w14 (h : bz_oV v) : bz_wr v 14 = v + 10 := (oV_all v h).2.2.2.2.2.2.2.2.1
theorem oV_w15 (h : bz_oV v) : bz_wr v 15 = v + 13 := (oV_all v h).2.2.2.2.2.2.2.2.2
theorem oV_C10 (h : bz_oV v) : bz_oC (v + 10) := by rcases oV_c h with rfl | rfl <;> decide
theorem oV_C13 (h : bz_oV v) : bz_oC (v + 13) := by rcases oV_c h with rfl | rfl <;> decide
theorem oV_a1 (h : bz_oV v) : bz_kd Lg (v + 1) = some (.inr (0, 10)) := by rcases oV_c h with rfl | rfl <;> rfl
theorem oV_a2 (h : bz_oV v) : bz_kd Lg (v + 2) = some (.inr (0, 80)) := by rcases oV_c h with rfl | rfl <;> rfl
theorem oV_a3 (h : bz_oV v) : bz_kd Lg (v + 3) = some (.inr (0, 80)) := by rcases oV_c h with rfl | rfl <;> rfl
theorem oV_a4 (h : bz_oV v) : bz_kd Lg (v + 4) = some (.inr (0, 30)) := by rcases oV_c h with rfl | rfl <;> rfl
theorem oV_a5 (h : bz_oV v) : bz_kd Lg (v + 5) = some (.inr (0, 5)) := by rcases oV_c h with rfl | rfl <;> rfl
theorem oV_a6 (h : bz_oV v) : bz_kd Lg (v + 6) = some (.inr (0, 5)) := by rcases oV_c h with rfl | rfl <;> rfl
theorem oV_a7 (h : bz_oV v) : bz_kd Lg (v + 7) = some (.inr (0, 5)) := by rcases oV_c h with rfl | rfl <;> rfl
theorem oV_a8 (h : bz_oV v) : bz_kd Lg (v + 8) = some (.inr (0, 5)) := by rcases oV_c h with rfl | rfl <;> rfl
theorem oV_a9 (h : bz_oV v) : bz_kd Lg (v + 9) = some (.inr (0, 5)) := by rcases oV_c h with rfl | rfl <;> rfl
theorem oC_c (h : bz_oC c) : c = 126 ∨ c = 142 ∨ c = 145 ∨ c = 313 ∨ c = 316 := by
  unfold bz_oC at h
  simpa using h
theorem oC_n (h : bz_oC c) : 121 < c := by rcases oC_c h with rfl | rfl | rfl | rfl | rfl <;> decide
theorem oC_k (h : bz_oC c) : bz_kd Lg c = some (.inl 0) := by rcases oC_c h with rfl | rfl | rfl | rfl | rfl <;> rfl
theorem oC_w0 (h : bz_oC c) : bz_wr c 0 = c + 1 := by rcases oC_c h with rfl | rfl | rfl | rfl | rfl <;> rfl
theorem oC_w1 (h : bz_oC c) : bz_wr c 1 = c + 2 := by rcases oC_c h with rfl | rfl | rfl | rfl | rfl <;> rfl
theorem oC_w2 (h : bz_oC c) : bz_wr c 2 = 0 := by rcases oC_c h with rfl | rfl | rfl | rfl | rfl <;> rfl
theorem oC_a1 (h : bz_oC c) : bz_kd Lg (c + 1) = some (.inr (0, 1600)) := by rcases oC_c h with rfl | rfl | rfl | rfl | rfl <;> rfl
theorem oC_a2 (h : bz_oC c) : bz_kd Lg (c + 2) = some (.inr (0, 64)) := by rcases oC_c h with rfl | rfl | rfl | rfl | rfl <;> rfl
theorem bz_nsl {a : Nat} (k : Nat) (h : 121 < a) : bz_ns < a + k := Nat.lt_of_lt_of_le h (Nat.le_add_right _ _)
end BO
/-! triples -/
def w_T {α : Type} (x : Option α) (Q : α → Prop) : Prop := ∃ a, x = some a ∧ Q a
theorem T_le {α : Type} {a b : Option α} {Q : α → Prop} (h : bz_le a b) (t : w_T a Q) : w_T b Q := by
  obtain ⟨x, hx, hq⟩ := t
  exact ⟨x, h x hx, hq⟩
theorem T_some {α : Type} {a : α} {Q : α → Prop} (h : Q a) : w_T (some a) Q := ⟨a, rfl, h⟩
theorem T_some_iff {α : Type} {a : α} {Q : α → Prop} : w_T (some a) Q ↔ Q a := ⟨fun ⟨x, hx, hq⟩ => by cases hx; exact hq, T_some⟩
theorem T_ite {α : Type} {c : Prop} [Decidable c] {a b : Option α} {Q : α → Prop} (h1 : c → w_T a Q) (h2 : ¬ c → w_T b Q) : w_T (if c then a else b) Q := by
  by_cases h : c
  · rw [if_pos h]; exact h1 h
  · rw [if_neg h]; exact h2 h
theorem T_gd {α : Type} {c : Prop} [Decidable c] {a : Option α} {Q : α → Prop} (h : c) (h1 : w_T a Q) : w_T (if c then a else none) Q := by rw [if_pos h]; exact h1
theorem T_dv {α : Type} {c : Prop} [Decidable c] {a : Option α} {Q : α → Prop} (h : ¬ c) (h1 : w_T a Q) : w_T (if c then none else a) Q := by rw [if_neg h]; exact h1
theorem T_bind {α β : Type} {x : Option β} {f : β → Option α} {Q : α → Prop} (h : w_T x (fun a => w_T (f a) Q)) : w_T (x.bind f) Q := by
  obtain ⟨a, rfl, h⟩ := h
  exact h
theorem T_mono {α : Type} {x : Option α} {Q R : α → Prop} (h : w_T x Q) (hr : ∀ a, Q a → R a) : w_T x R := by
  obtain ⟨a, e, h⟩ := h
  exact ⟨a, e, hr a h⟩
theorem T_seq {α β : Type} {x : Option β} {f : β → Option α} {R : β → Prop} {Q : α → Prop} (h : w_T x R) (hf : ∀ a, R a → w_T (f a) Q) : w_T (x.bind f) Q := T_bind (T_mono h hf)
theorem T_eq {α : Type} {x : Option α} {a : α} (h : x = some a) {Q : α → Prop} (hq : Q a) : w_T x Q := ⟨a, h, hq⟩
theorem T_run {α β : Type} {x : Option β} {a : β} {f : β → Option α} {Q : α → Prop} (h : x = some a) (hf : w_T (f a) Q) : w_T (x.bind f) Q := by rw [h]; exact hf
/-! the store -/
theorem bz_up_rk (M : bz_M) (r k : Nat) (v : Int) (r' k' : Nat) : bz_up M r k v r' k' = if r' = r ∧ k' = k then v else M r' k' := by
  unfold bz_up
  by_cases h : r' = r
  · subst h
    rw [if_pos rfl]
    by_cases h2 : k' = k
    · rw [if_pos h2, if_pos ⟨rfl, h2⟩]
    · rw [if_neg h2, if_neg (fun h => h2 h.2)]
  · rw [if_neg h, if_neg (fun h' => h h'.1)]
theorem bz_up_eq (M : bz_M) (r k : Nat) (v : Int) : bz_up M r k v r k = v := by rw [bz_up_rk, if_pos ⟨rfl, rfl⟩]
theorem bz_up_nr {M : bz_M} {r k : Nat} {v : Int} {r' : Nat} (h : r' ≠ r) (k' : Nat) : bz_up M r k v r' k' = M r' k' := by rw [bz_up_rk, if_neg (fun h' => h h'.1)]
theorem bz_up_nk {M : bz_M} {r k : Nat} {v : Int} {k' : Nat} (h : k' ≠ k) (r' : Nat) : bz_up M r k v r' k' = M r' k' := by rw [bz_up_rk, if_neg (fun h' => h h'.2)]
theorem bz_up_fn {M : bz_M} {r k : Nat} {v : Int} {r' : Nat} (h : r' ≠ r) : bz_up M r k v r' = M r' := by
  unfold bz_up; rw [if_neg h]
theorem bz_cpy_rk (M : bz_M) (a i b j n r' k' : Nat) : bz_cpy M a i b j n r' k' = if r' = b ∧ j ≤ k' ∧ k' < j + n then M a (i + (k' - j)) else M r' k' := by
  unfold bz_cpy
  by_cases h : r' = b
  · subst h
    rw [if_pos rfl]
    by_cases h2 : j ≤ k' ∧ k' < j + n
    · rw [if_pos h2, if_pos ⟨rfl, h2⟩]
    · rw [if_neg h2, if_neg (fun h => h2 h.2)]
  · rw [if_neg h, if_neg (fun h' => h h'.1)]
theorem w32_id {z : Int} (h1 : -2147483648 ≤ z) (h2 : z < 2147483648) : bz_w32 z = z := by
  unfold bz_w32
  rw [Int.bmod_def]
  split <;> omega
theorem w64_id {z : Int} (h1 : -9223372036854775808 ≤ z) (h2 : z < 9223372036854775808) : bz_w64 z = z := by
  unfold bz_w64
  rw [Int.bmod_def]
  split <;> omega
theorem w8_id {z : Int} (h1 : -128 ≤ z) (h2 : z < 128) : bz_w8 z = z := by
  unfold bz_w8
  rw [Int.bmod_def]
  split <;> omega
theorem lcmp_lt {a b : Int} : (bz_lcmp a b < 0) ↔ a < b := by
  unfold bz_lcmp
  split
  · omega
  · split <;> omega
theorem lcmp_gt {a b : Int} : (0 < bz_lcmp a b) ↔ b < a := by
  unfold bz_lcmp
  split
  · omega
  · split <;> omega
theorem lcmp_eq {a b : Int} : (bz_lcmp a b = 0) ↔ a = b := by
  unfold bz_lcmp
  split
  · omega
  · split <;> omega

/-! ROWS BY THEIR PLACES, AND A ROW OF ROWS AT ONCE -/
def bz_srt : List (Nat × bz_E) → Bool
  | [] => true
  | [_] => true
  | a :: b :: l => Nat.blt a.1 b.1 && bz_srt (b :: l)
theorem bz_srt_tl {a : Nat × bz_E} {l : List (Nat × bz_E)} (h : bz_srt (a :: l) = true) : bz_srt l = true := by
  cases l with
  | nil => rfl
  | cons b l =>
    unfold bz_srt at h
    rw [Bool.and_eq_true] at h
    exact h.2
theorem bz_srt_lt : ∀ (l : List (Nat × bz_E)) (a : Nat × bz_E), bz_srt (a :: l) = true → ∀ q ∈ l, a.1 < q.1
  | [], _, _, q, hq => absurd hq List.not_mem_nil
  | b :: l, a, h, q, hq => by
    have h2 := bz_srt_tl h
    unfold bz_srt at h
    rw [Bool.and_eq_true] at h
    have h1 : a.1 < b.1 := Nat.le_of_ble_eq_true h.1
    rcases List.mem_cons.mp hq with rfl | hq
    · exact h1
    · exact Nat.lt_trans h1 (bz_srt_lt l b h2 q hq)
theorem bz_srt_find : ∀ (l : List (Nat × bz_E)), bz_srt l = true → ∀ q ∈ l, l.find? (fun z => z.1 == q.1) = some q
  | [], _, q, hq => absurd hq List.not_mem_nil
  | a :: l, h, q, hq => by
    rcases List.mem_cons.mp hq with rfl | hq
    · rw [List.find?_cons_of_pos]
      exact beq_self_eq_true _
    · have h1 := bz_srt_lt l a h q hq
      rw [List.find?_cons_of_neg]
      · exact bz_srt_find l (bz_srt_tl h) q hq
      · intro e
        have e := eq_of_beq e
        omega
set_option maxRecDepth 100000 in
theorem bz_srt_all : (List.range 316).all (fun m => bz_srt (bz_tbl.getD m [])) = true := by decide +kernel
theorem bz_tab_at {m : Nat} (hm : m < 316) {q : Nat × bz_E} (hq : q ∈ bz_tbl.getD m []) : bz_tab m q.1 = some q.2 := by
  unfold bz_tab
  rw [bz_srt_find _ (List.all_eq_true.mp bz_srt_all m (List.mem_range.mpr hm)) q hq]
  rfl
/-- rows one behind another, none of them a call or a return -/
def bz_sim (kd : Nat → Option bz_Kd) (wr : Nat → Nat → Nat) (w : Bool) (rt : Nat) : List (Nat × bz_E) → Nat → bz_Ls → bz_S → bz_M → Option (Nat × bz_Ls × bz_S × bz_M)
  | [], pc, L, st, M => some (pc, L, st, M)
  | q :: qs, pc, L, st, M => match Nat.beq q.1 pc with
    | false => none
    | true => match bz_step kd wr w rt q.2 pc L st M with
      | some (.inr (.inl n)) => bz_sim kd wr w rt qs n.1 n.2.1 n.2.2.1 n.2.2.2
      | _ => none
theorem bx_sim {α : Type} {P : bz_P} {k : bz_Rs → Option α} {d m : Nat} : ∀ (qs : List (Nat × bz_E)) (pc : Nat) (L : bz_Ls) (st : bz_S) (M : bz_M) {pc' : Nat} {L' : bz_Ls} {st' : bz_S} {M' : bz_M}, (∀ q ∈ qs, P.2.2.2.1 m q.1 = some q.2) → bz_sim P.1 P.2.1 P.2.2.1 (P.2.2.2.2.2 m) qs pc L st M = some (pc', L', st', M') → bz_X P k d m pc L st M = bz_X P k d m pc' L' st' M'
  | [], pc, L, st, M, pc', L', st', M', _, h => by
    unfold bz_sim at h
    cases h
    rfl
  | q :: qs, pc, L, st, M, pc', L', st', M', hq, h => by
    unfold bz_sim at h
    split at h
    · cases h
    · rename_i e
      have e := Nat.eq_of_beq_eq_true e
      have h0 := hq q List.mem_cons_self
      rw [e] at h0
      split at h
      · rename_i n hn
        obtain ⟨p1, L1, s1, M1⟩ := n
        rw [bx_nx h0 hn]
        exact bx_sim qs p1 L1 s1 M1 (fun z hz => hq z (List.mem_cons_of_mem _ hz)) h
      · cases h

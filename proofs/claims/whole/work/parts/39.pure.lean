/-! PURE: what codes mean -/
def pClip (z : Int) : Int := max (-1000000) (min z 1000000)
def pFl (a b : Int) : Int := if b = 0 then 0 else if Int.tmod a b = 0 then Int.tdiv a b else if a < 0 then (if b < 0 then Int.tdiv a b else Int.tdiv a b - 1) else (if b < 0 then Int.tdiv a b - 1 else Int.tdiv a b)
def pJoin (op a b : Int) : Int := if op = 1 then pClip (a + b) else if op = 2 then pClip (a - b) else if op = 3 then pClip (a * b) else if op = 4 then pFl a b else if op = 5 then (if a < b then a else b) else if op = 6 then (if b < a then a else b) else if op = 7 then bz_b (a < b) else if op = 8 then bz_b (b < a) else if op = 9 then bz_b (a = b) else if op = 10 then a * b else bz_b (0 < a + b)
def pStep (F : Int → Int) (G : Int → Int → Int) (op : Int) (st : List Int) : List Int :=
  if 1000 ≤ op then (op - 1000) :: st else if 60 ≤ op then (match st with | x :: r => G (op - 60) x :: r | [] => []) else if 40 ≤ op then F (op - 40) :: st else if op = 13 then 1 :: st else if op = 12 then (match st with | x :: r => (1 - x) :: r | [] => []) else (match st with | b :: a :: r => pJoin op a b :: r | _ => [])
def pEv (F : Int → Int) (G : Int → Int → Int) : List Int → List Int → List Int
  | [], st => st
  | op :: ops, st => pEv F G ops (pStep F G op st)
/-- what a step takes and gives: true stands for a truth -/
def pT1 (op : Int) (ts : List Bool) : Option (List Bool) :=
  if 1000 ≤ op then some (false :: ts) else if 60 ≤ op then (match ts with | false :: r => some (false :: r) | _ => none) else if 40 ≤ op then some (false :: ts) else if op = 13 then some (true :: ts) else if op = 12 then (match ts with | true :: r => some (true :: r) | _ => none) else if 10 ≤ op then (match ts with | true :: true :: r => some (true :: r) | _ => none) else if 7 ≤ op then (match ts with | false :: false :: r => some (true :: r) | _ => none) else (match ts with | false :: false :: r => some (false :: r) | _ => none)
def pOp (op : Int) : Prop := (1 ≤ op ∧ op ≤ 13) ∨ (40 ≤ op ∧ op ≤ 57) ∨ (op = 60 ∨ op = 61) ∨ (1000 ≤ op ∧ op ≤ 10999)
def pOK : List Int → List Bool → List Bool → Prop
  | [], ts, ts' => ts = ts'
  | op :: ops, ts, ts' => pOp op ∧ ∃ t1, pT1 op ts = some t1 ∧ t1.length ≤ 64 ∧ pOK ops t1 ts'
def pV : List Bool → List Int → Prop
  | [], [] => True
  | t :: ts, x :: xs => (if t = true then x = 0 ∨ x = 1 else -1000000 ≤ x ∧ x ≤ 1000000) ∧ pV ts xs
  | _, _ => False
def pBk (op : Int) : Int := if 1000 ≤ op then op - 1000 else if 60 ≤ op then -13 - (op - 60) else if 40 ≤ op then 10000 + (op - 40) else if op = 13 then 1 else -op
/-- a list that lies in a row from k on; a stack that lies in a row, its top first -/
def zSeg (A : Nat → Int) : Nat → List Int → Prop
  | _, [] => True
  | k, x :: l => A k = x ∧ zSeg A (k + 1) l
def zStk (A : Nat → Int) : List Int → Prop
  | [] => True
  | x :: l => A l.length = x ∧ zStk A l
theorem zStk_co {A B : Nat → Int} : ∀ {l : List Int}, (∀ k, k < l.length → B k = A k) → zStk A l → zStk B l
  | [], _, _ => trivial
  | x :: l, h, hs => ⟨(h _ (by simp)).trans hs.1, zStk_co (fun k hk => h k (by simp; omega)) hs.2⟩
theorem zSeg_co {A B : Nat → Int} : ∀ {l : List Int} {k : Nat}, (∀ i, k ≤ i → i < k + l.length → B i = A i) → zSeg A k l → zSeg B k l
  | [], _, _, _ => trivial
  | x :: l, k, h, hs => ⟨(h k (by omega) (by simp)).trans hs.1, zSeg_co (fun i h1 h2 => h i (by omega) (by simp; omega)) hs.2⟩
theorem pV_len : ∀ {ts : List Bool} {xs : List Int}, pV ts xs → ts.length = xs.length
  | [], [], _ => rfl
  | _ :: _, _ :: _, h => by simp [pV_len h.2]
  | [], _ :: _, h => h.elim
  | _ :: _, [], h => h.elim
theorem pFl_bd {a b : Int} (h1 : -1000000 ≤ a) (h2 : a ≤ 1000000) : -1000000 ≤ pFl a b ∧ pFl a b ≤ 1000000 := by
  have hq : ∀ b : Int, (Int.tdiv a b).natAbs ≤ a.natAbs := fun b => by
    rw [Int.natAbs_tdiv]; exact Nat.div_le_self _ _
  have hd := hq b
  unfold pFl
  split
  · omega
  · rename_i hb
    split
    · omega
    · rename_i hm
      have hm2 := Int.mul_tdiv_add_tmod a b
      have hs : a < 0 → ¬ b < 0 → -1000000 ≤ Int.tdiv a b - 1 := by
        intro ha hb2
        by_cases hb1 : b = 1
        · subst hb1; rw [Int.tmod_one] at hm; exact absurd rfl hm
        · have hb2 : 2 ≤ b.natAbs := by omega
          have : (Int.tdiv a b).natAbs ≤ a.natAbs / 2 := by
            rw [Int.natAbs_tdiv]; exact Nat.div_le_div_left hb2 (by omega)
          omega
      have hs2 : ¬ a < 0 → b < 0 → -1000000 ≤ Int.tdiv a b - 1 := by
        intro ha hb2
        by_cases hb1 : b = -1
        · subst hb1; rw [Int.tmod_neg, Int.tmod_one] at hm; exact absurd rfl hm
        · have hb2 : 2 ≤ b.natAbs := by omega
          have : (Int.tdiv a b).natAbs ≤ a.natAbs / 2 := by
            rw [Int.natAbs_tdiv]; exact Nat.div_le_div_left hb2 (by omega)
          omega
      split
      · rename_i ha
        split
        · omega
        · rename_i hb2; have := hs ha hb2; omega
      · rename_i ha
        split
        · rename_i hb2; have := hs2 ha hb2; omega
        · omega
theorem pStep_V {F : Int → Int} {G : Int → Int → Int} {op : Int} {ts t1 : List Bool} {st : List Int} (hF : ∀ p, -1000000 ≤ F p ∧ F p ≤ 1000000) (hG : ∀ p x, -1000000 ≤ G p x ∧ G p x ≤ 1000000) (ho : pOp op) (ht : pT1 op ts = some t1) (hv : pV ts st) : pV t1 (pStep F G op st) := by
  unfold pT1 at ht
  unfold pStep
  unfold pOp at ho
  split at ht
  · rename_i h; cases ht
    rw [if_pos h]
    exact ⟨by simp; omega, hv⟩
  · rename_i h1
    rw [if_neg h1]
    split at ht
    · rename_i h; rw [if_pos h]
      split at ht
      · cases ht
        match st, hv with
        | x :: r, hv => exact ⟨by have := hG (op - 60) x; simp; omega, hv.2⟩
      · cases ht
    · rename_i h2; rw [if_neg h2]
      split at ht
      · rename_i h; cases ht
        rw [if_pos h]
        exact ⟨by have := hF (op - 40); simp; omega, hv⟩
      · rename_i h3; rw [if_neg h3]
        split at ht
        · rename_i h; cases ht
          rw [if_pos h]
          exact ⟨by simp, hv⟩
        · rename_i h4; rw [if_neg h4]
          split at ht
          · rename_i h; rw [if_pos h]
            split at ht
            · cases ht
              match st, hv with
              | x :: r, hv => exact ⟨by have := hv.1; simp at this ⊢; omega, hv.2⟩
            · cases ht
          · rename_i h5; rw [if_neg h5]
            split at ht
            · rename_i h
              split at ht
              · cases ht
                match st, hv with
                | b :: a :: r, hv =>
                  refine ⟨?_, hv.2.2⟩
                  have hb := hv.1
                  have ha := hv.2.1
                  simp only [if_pos] at ha hb ⊢
                  have : op = 10 ∨ op = 11 := by omega
                  unfold pJoin
                  rcases this with rfl | rfl
                  · simp; rcases ha with rfl | rfl <;> rcases hb with rfl | rfl <;> simp
                  · simp; exact bz_b01
              · cases ht
            · rename_i h6
              split at ht
              · rename_i h
                split at ht
                · cases ht
                  match st, hv with
                  | b :: a :: r, hv =>
                    refine ⟨?_, hv.2.2⟩
                    have : op = 7 ∨ op = 8 ∨ op = 9 := by omega
                    unfold pJoin
                    rcases this with rfl | rfl | rfl <;> simp <;> exact bz_b01
                · cases ht
              · rename_i h7
                split at ht
                · cases ht
                  match st, hv with
                  | b :: a :: r, hv =>
                    refine ⟨?_, hv.2.2⟩
                    have hb := hv.1
                    have ha := hv.2.1
                    simp at ha hb ⊢
                    have hf := pFl_bd (b := b) ha.1 ha.2
                    have : op = 1 ∨ op = 2 ∨ op = 3 ∨ op = 4 ∨ op = 5 ∨ op = 6 := by omega
                    unfold pJoin pClip
                    rcases this with rfl | rfl | rfl | rfl | rfl | rfl <;> simp <;> (try split) <;> omega
                · cases ht

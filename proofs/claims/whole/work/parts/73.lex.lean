/-! PURE: THE PIECES OF A TEXT (T its bytes, n how many) -/
def wSp (i : Nat) : List Int := bz_sml.getD (83 + i) []
section LX
variable (T : Nat → Int) (n : Nat)
def tK (p : Nat) : Int := if p < n then (if 97 ≤ T p ∧ T p ≤ 122 then 1 else if 48 ≤ T p ∧ T p ≤ 57 then 2 else 3) else 0
def skF : Nat → Nat → Nat
  | 0, p => p
  | f + 1, p => if p < n ∧ (T p = 10 ∨ T p = 32) then skF f (p + 1) else p
def sk (p : Nat) : Nat := skF T n (n - p) p
def ruF (k : Int) : Nat → Nat → Nat
  | 0, p => p
  | f + 1, p => if p < n ∧ tK T n p = k then ruF k f (p + 1) else p
def ru (k : Int) (p : Nat) : Nat := ruF T n k (n - p) p
def te (p : Nat) : Nat := if tK T n p = 3 then p + 1 else ru T n (tK T n p) p
def wEq : Nat → List Int → Bool
  | _, [] => true
  | p, x :: l => decide (T p = x) && wEq (p + 1) l
def wMt (p i : Nat) : Bool := decide (te T n p = p + (wSp i).length) && wEq T p (wSp i)
def wdF (p : Nat) : Nat → Nat → Nat
  | 0, _ => 39
  | f + 1, i => if wMt T n p i = true then i else wdF p f (i + 1)
/-- which word stands there; 39: none of them -/
def wd (p : Nat) : Nat := wdF T n p 39 0
abbrev pL : Type := Nat × Bool
def nxq (e : Nat) (b : Bool) : pL := (sk T n e, decide (sk T n e = e) && b)
def nx (q : pL) : pL := nxq T n (te T n q.1) (decide (tK T n q.1 = 1 ∨ tK T n q.1 = 2))
/-- the kind of the piece: 4 where a word or number touches the one before it -/
def tD (q : pL) : Int := if q.2 = true ∧ (tK T n q.1 = 1 ∨ tK T n q.1 = 2) then 4 else tK T n q.1
def tW (q : pL) : Int := if tK T n q.1 = 1 then (if wd T n q.1 < 39 then ((5 + wd T n q.1 : Nat) : Int) else 0) else 0
abbrev isS (a : Int) (q : pL) : Prop := tK T n q.1 = 3 ∧ T q.1 = a
abbrev isW (i : Nat) (q : pL) : Prop := tD T n q = 1 ∧ wd T n q.1 = i
def tVal : Nat → Nat → Int → Int
  | 0, _, v => v
  | k + 1, p, v => tVal k (p + 1) (10 * v + T p - 48)
/-- a number from a to b: a fault and its place, or the number -/
def tNum (a b : Int) (q : pL) : (Int × Nat) ⊕ Int :=
  if tD T n q = 2 then (if 4 < te T n q.1 - q.1 then .inl (1, q.1 + 4) else
    if a ≤ tVal T (te T n q.1 - q.1) q.1 0 ∧ tVal T (te T n q.1 - q.1) q.1 0 ≤ b then .inr (tVal T (te T n q.1 - q.1) q.1 0) else .inl (2, q.1)) else .inl (1, q.1)
def qOK (q : pL) : Prop := q.1 ≤ n ∧ sk T n q.1 = q.1
end LX
section LY
variable {T : Nat → Int} {n : Nat}
theorem sk_eq (p : Nat) : sk T n p = if p < n ∧ (T p = 10 ∨ T p = 32) then sk T n (p + 1) else p := by
  unfold sk
  by_cases h : p < n
  · obtain ⟨f, hf⟩ : ∃ f, n - p = f + 1 := ⟨n - p - 1, by omega⟩
    rw [hf, show n - (p + 1) = f by omega]
    rfl
  · rw [show n - p = 0 by omega, if_neg (fun e => h e.1)]
    rfl
theorem ru_eq (k : Int) (p : Nat) : ru T n k p = if p < n ∧ tK T n p = k then ru T n k (p + 1) else p := by
  unfold ru
  by_cases h : p < n
  · obtain ⟨f, hf⟩ : ∃ f, n - p = f + 1 := ⟨n - p - 1, by omega⟩
    rw [hf, show n - (p + 1) = f by omega]
    rfl
  · rw [show n - p = 0 by omega, if_neg (fun e => h e.1)]
    rfl
theorem sk_all : ∀ (f p : Nat), n - p = f → p ≤ n → p ≤ sk T n p ∧ sk T n p ≤ n ∧ ¬ (sk T n p < n ∧ (T (sk T n p) = 10 ∨ T (sk T n p) = 32))
  | 0, p, hf, hp => by
    rw [sk_eq, if_neg (by omega)]
    exact ⟨by omega, by omega, by omega⟩
  | f + 1, p, hf, hp => by
    rw [sk_eq]
    by_cases h : p < n ∧ (T p = 10 ∨ T p = 32)
    · rw [if_pos h]
      have := sk_all f (p + 1) (by omega) (by omega)
      exact ⟨by omega, this.2.1, this.2.2⟩
    · rw [if_neg h]
      exact ⟨by omega, by omega, h⟩
theorem sk_ge {p : Nat} (h : p ≤ n) : p ≤ sk T n p := (sk_all _ p rfl h).1
theorem sk_le {p : Nat} (h : p ≤ n) : sk T n p ≤ n := (sk_all _ p rfl h).2.1
theorem sk_id {p : Nat} (h : ¬ (p < n ∧ (T p = 10 ∨ T p = 32))) : sk T n p = p := by rw [sk_eq, if_neg h]
theorem sk_sk {p : Nat} (h : p ≤ n) : sk T n (sk T n p) = sk T n p := sk_id (sk_all _ p rfl h).2.2
theorem sk_ns {p : Nat} (h : sk T n p = p) (hp : p ≤ n) : ¬ (p < n ∧ (T p = 10 ∨ T p = 32)) := by
  have := (sk_all (T := T) _ p rfl hp).2.2
  rw [h] at this
  exact this
theorem ru_all {k : Int} : ∀ (f p : Nat), n - p = f → p ≤ n → p ≤ ru T n k p ∧ ru T n k p ≤ n ∧ (∀ j, p ≤ j → j < ru T n k p → tK T n j = k) ∧ ¬ (ru T n k p < n ∧ tK T n (ru T n k p) = k)
  | 0, p, hf, hp => by
    rw [ru_eq, if_neg (by omega)]
    exact ⟨by omega, by omega, fun j h1 h2 => by omega, by omega⟩
  | f + 1, p, hf, hp => by
    rw [ru_eq]
    by_cases h : p < n ∧ tK T n p = k
    · rw [if_pos h]
      have := ru_all (k := k) f (p + 1) (by omega) (by omega)
      refine ⟨by omega, this.2.1, fun j h1 h2 => ?_, this.2.2.2⟩
      by_cases e : j = p
      · rw [e]; exact h.2
      · exact this.2.2.1 j (by omega) h2
    · rw [if_neg h]
      exact ⟨by omega, by omega, fun j h1 h2 => by omega, h⟩
theorem tK_rg (p : Nat) : (p < n → tK T n p = 1 ∨ tK T n p = 2 ∨ tK T n p = 3) ∧ (n ≤ p → tK T n p = 0) := by
  unfold tK
  refine ⟨fun h => ?_, fun h => if_neg (by omega)⟩
  rw [if_pos h]
  repeat' split
  all_goals omega
theorem tK_lt {p : Nat} (h : tK T n p ≠ 0) : p < n := by
  have := (tK_rg (T := T) (n := n) p).2
  omega
theorem te_all {p : Nat} (h : p ≤ n) : p ≤ te T n p ∧ te T n p ≤ n ∧ (p < n → p < te T n p) := by
  unfold te
  have h0 := tK_rg (T := T) (n := n) p
  by_cases e : tK T n p = 3
  · rw [if_pos e]
    have := tK_lt (T := T) (n := n) (p := p) (by omega)
    omega
  · rw [if_neg e]
    have h1 := ru_all (T := T) (k := tK T n p) _ p rfl h
    refine ⟨h1.1, h1.2.1, fun hp => ?_⟩
    have h2 := h1.2.2.2
    by_cases e2 : ru T n (tK T n p) p = p
    · rw [e2] at h2
      exact absurd ⟨hp, rfl⟩ h2
    · omega
theorem te_run {p : Nat} (h : p ≤ n) (hk : tK T n p ≠ 3) : (∀ j, p ≤ j → j < te T n p → tK T n j = tK T n p) ∧ ¬ (te T n p < n ∧ tK T n (te T n p) = tK T n p) := by
  unfold te
  rw [if_neg hk]
  exact ⟨(ru_all (T := T) (k := tK T n p) _ p rfl h).2.2.1, (ru_all (T := T) (k := tK T n p) _ p rfl h).2.2.2⟩
theorem nxq_ok {e : Nat} {b : Bool} (h : e ≤ n) : qOK T n (nxq T n e b) := ⟨sk_le h, sk_sk h⟩
theorem nx_ok {q : pL} (h : qOK T n q) : qOK T n (nx T n q) := nxq_ok (te_all h.1).2.1
theorem nx_le {q : pL} (h : qOK T n q) : te T n q.1 ≤ (nx T n q).1 := sk_ge (te_all h.1).2.1
theorem nx_gt {q : pL} (h : qOK T n q) (hk : tK T n q.1 ≠ 0) : q.1 < (nx T n q).1 := by
  have h1 := (te_all (T := T) h.1).2.2 (tK_lt hk)
  have h2 := nx_le h
  omega
theorem wEq_zip : ∀ (l m : List Int) (p : Nat), l.length = m.length → wEq T p l = true → wEq T p m = true → l = m
  | [], [], _, _, _, _ => rfl
  | [], _ :: _, _, h, _, _ => by cases h
  | _ :: _, [], _, h, _, _ => by cases h
  | x :: l, y :: m, p, h, h1, h2 => by
    unfold wEq at h1 h2
    rw [Bool.and_eq_true, decide_eq_true_eq] at h1 h2
    rw [← h1.1, ← h2.1, wEq_zip l m (p + 1) (by simpa using h) h1.2 h2.2]
theorem wEq_iff : ∀ (l : List Int) (p : Nat), wEq T p l = true ↔ ∀ j, j < l.length → T (p + j) = l.getD j 0
  | [], p => ⟨fun _ j hj => absurd hj (by simp), fun _ => rfl⟩
  | x :: l, p => by
    unfold wEq
    rw [Bool.and_eq_true, decide_eq_true_eq, wEq_iff l (p + 1)]
    constructor
    · rintro ⟨h1, h2⟩ j hj
      cases j with
      | zero => exact h1
      | succ j => 
        have := h2 j (by simpa using hj)
        rw [show p + (j + 1) = p + 1 + j by omega]
        exact this
    · intro h
      refine ⟨h 0 (by simp), fun j hj => ?_⟩
      have := h (j + 1) (by simpa using hj)
      rw [show p + (j + 1) = p + 1 + j by omega] at this
      exact this
set_option maxRecDepth 100000 in
theorem wSp_inj : ∀ i, i < 39 → ∀ j, j < 39 → wSp i = wSp j → i = j := by decide +kernel
theorem wMt_one {p i j : Nat} (hi : i < 39) (hj : j < 39) (h1 : wMt T n p i = true) (h2 : wMt T n p j = true) : i = j := by
  unfold wMt at h1 h2
  rw [Bool.and_eq_true, decide_eq_true_eq] at h1 h2
  exact wSp_inj i hi j hj (wEq_zip _ _ p (by omega) h1.2 h2.2)
theorem wdF_all {p : Nat} : ∀ (f i : Nat), i + f = 39 → (wdF T n p f i < 39 → wMt T n p (wdF T n p f i) = true) ∧ (∀ j, i ≤ j → j < 39 → wMt T n p j = true → wdF T n p f i ≤ j) ∧ wdF T n p f i ≤ 39
  | 0, i, h => ⟨fun h' => absurd h' (by unfold wdF; omega), fun j h1 h2 _ => by omega, by unfold wdF; omega⟩
  | f + 1, i, h => by
    unfold wdF
    by_cases e : wMt T n p i = true
    · rw [if_pos e]
      exact ⟨fun _ => e, fun j h1 _ _ => h1, by omega⟩
    · rw [if_neg e]
      have := wdF_all (p := p) f (i + 1) (by omega)
      refine ⟨this.1, fun j h1 h2 h3 => ?_, this.2.2⟩
      by_cases e2 : j = i
      · rw [e2] at h3; exact absurd h3 e
      · exact this.2.1 j (by omega) h2 h3
theorem wd_iff {p i : Nat} (hi : i < 39) : wd T n p = i ↔ wMt T n p i = true := by
  have h := wdF_all (T := T) (n := n) (p := p) 39 0 (by omega)
  constructor
  · intro e
    have := h.1 (by unfold wd at e; omega)
    unfold wd at e
    rw [e] at this
    exact this
  · intro e
    have h2 := h.2.1 i (by omega) hi e
    exact wMt_one (by unfold wd; omega) hi (h.1 (by omega)) e
theorem wd_no {p : Nat} (h : ∀ i, i < 39 → ¬ wMt T n p i = true) : wd T n p = 39 := by
  have h1 := wdF_all (T := T) (n := n) (p := p) 39 0 (by omega)
  unfold wd
  by_cases e : wdF T n p 39 0 < 39
  · exact absurd (h1.1 e) (h _ e)
  · omega
end LY

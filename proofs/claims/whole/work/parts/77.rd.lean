/-! PURE: SUMS AND TESTS ARE READ -/
abbrev pO : Type := (Int × Nat) ⊕ (pL × List Int)
abbrev pR : Type := Option pO
def rB (x : pR) (g : pL → List Int → pR) : pR := match x with
  | none => none
  | some (.inl e) => some (.inl e)
  | some (.inr p) => g p.1 p.2
def rE (k : Int) (q : pL) : pR := some (.inl (k, q.1))
section RD
variable (T : Nat → Int) (n : Nat) (w : Int)
def opM (q : pL) : Option Int := if isS T n 42 q then some 3 else if isS T n 47 q then some 4 else none
def opA (q : pL) : Option Int := if isS T n 43 q then some 1 else if isS T n 45 q then some 2 else none
def opC (q : pL) : Option Int := if isS T n 60 q then some 7 else if isS T n 62 q then some 8 else if isS T n 61 q then some 9 else none
def opN (q : pL) : Option Int := if isW T n 28 q then some 10 else none
def opO (q : pL) : Option Int := if isW T n 27 q then some 11 else none
def rNum (q : pL) : pR := match tNum T n 0 9999 q with
  | .inl e => some (.inl e)
  | .inr v => some (.inr (nx T n q, [1000 + v]))
def rPair (R : Nat → Nat → pL → pR) (o : Nat) (q : pL) (op : Int) : pR := if isS T n 40 q then (if o < 6 then rB (R 3 (o + 1) (nx T n q)) (fun q2 c1 => if isS T n 44 q2 then rB (R 3 (o + 1) (nx T n q2)) (fun q3 c2 => if isS T n 41 q3 then some (.inr (nx T n q3, c1 ++ c2 ++ [op])) else rE 1 q3) else rE 1 q2) else rE 4 q) else rE 1 q
def rPart (R : Nat → Nat → pL → pR) (o : Nat) (q : pL) : pR :=
  if tD T n q = 2 then rNum T n q
  else if isS T n 40 q then (if o < 6 then rB (R 3 (o + 1) (nx T n q)) (fun q1 c => if isS T n 41 q1 then some (.inr (nx T n q1, c)) else rE 1 q1) else rE 4 q)
  else if isW T n 31 q then rPair T n R o (nx T n q) 5
  else if isW T n 32 q then rPair T n R o (nx T n q) 6
  else if isF T n w q then some (.inr (nx T n q, [40 + wFa (wd T n q.1)]))
  else if w = 8 ∧ (isW T n 16 q ∨ isW T n 17 q) then (if o < 6 then rB (R 0 (o + 1) (nx T n q)) (fun q1 c => some (.inr (q1, c ++ [if isW T n 16 q then 60 else 61]))) else rE 4 q)
  else rE 1 q
def rLoop (R : Nat → Nat → pL → pR) (x l o : Nat) (q : pL) (op : Option Int) : pR := match op with
  | none => some (.inr (q, []))
  | some k => rB (R x o (nx T n q)) (fun q1 c1 => rB (R l o q1) (fun q2 c2 => some (.inr (q2, c1 ++ k :: c2))))
def rSeq (R : Nat → Nat → pL → pR) (x l o : Nat) (q : pL) : pR := rB (R x o q) (fun q1 c1 => rB (R l o q1) (fun q2 c2 => some (.inr (q2, c1 ++ c2))))
def rCmp (R : Nat → Nat → pL → pR) (o : Nat) (q : pL) : pR := rB (R 3 o q) (fun q1 c1 => match opC T n q1 with
  | none => rE 1 q1
  | some k => rB (R 3 o (nx T n q1)) (fun q2 c2 => some (.inr (q2, c1 ++ c2 ++ [k]))))
def rTruth (R : Nat → Nat → pL → pR) (o : Nat) (q : pL) : pR :=
  if isW T n 29 q then (if o < 6 then rB (R 6 (o + 1) (nx T n q)) (fun q1 c => some (.inr (q1, c ++ [12]))) else rE 4 q)
  else if isS T n 91 q then (if o < 6 then rB (R 9 (o + 1) (nx T n q)) (fun q1 c => if isS T n 93 q1 then some (.inr (nx T n q1, c)) else rE 1 q1) else rE 4 q)
  else if isW T n 30 q then some (.inr (nx T n q, [13])) else R 5 o q
def rdF (R : Nat → Nat → pL → pR) (nt o : Nat) (q : pL) : pR := match nt with
  | 0 => rPart T n w R o q
  | 1 => rSeq R 0 2 o q
  | 2 => rLoop T n R 0 2 o q (opM T n q)
  | 3 => rSeq R 1 4 o q
  | 4 => rLoop T n R 1 4 o q (opA T n q)
  | 5 => rCmp T n R o q
  | 6 => rTruth T n R o q
  | 7 => rSeq R 6 8 o q
  | 8 => rLoop T n R 6 8 o q (opN T n q)
  | 9 => rSeq R 7 10 o q
  | _ => rLoop T n R 7 10 o q (opO T n q)
def rd : Nat → Nat → Nat → pL → pR
  | 0, _, _, _ => none
  | f + 1, nt, o, q => rdF T n w (rd f) nt o q
end RD
theorem rB_inv {x : pR} {g : pL → List Int → pR} {o : pO} (h : rB x g = some o) : (∃ e, x = some (.inl e) ∧ o = .inl e) ∨ ∃ q c, x = some (.inr (q, c)) ∧ g q c = some o := by
  match x, h with
  | none, h => cases h
  | some (.inl e), h => exact Or.inl ⟨e, rfl, (Option.some.inj h).symm⟩
  | some (.inr (q, c)), h => exact Or.inr ⟨q, c, rfl, h⟩
theorem rB_ne {x : pR} {g : pL → List Int → pR} (hx : x ≠ none) (hg : ∀ q c, x = some (.inr (q, c)) → g q c ≠ none) : rB x g ≠ none := by
  match x, hx, hg with
  | none, hx, _ => exact absurd rfl hx
  | some (.inl e), _, _ => intro h; cases h
  | some (.inr (q, c)), _, hg => exact hg q c rfl
/-! what comes of it -/
def aW (w op : Int) : Prop := if w = 2 then aE op else if w = 4 then aB op else aQ op
set_option maxRecDepth 100000 in
theorem wF_all : ∀ i, i < 39 → (bz_and (wPl i) 2 ≠ 0 → 0 ≤ wFa i ∧ wFa i ≤ 7) ∧ (bz_and (wPl i) 4 ≠ 0 → 0 ≤ wFa i ∧ (wFa i ≤ 3 ∨ wFa i = 8 ∨ wFa i = 9)) ∧ (bz_and (wPl i) 8 ≠ 0 → wFa i = 3 ∨ (10 ≤ wFa i ∧ wFa i ≤ 17)) := by decide +kernel
def dpt (nt o : Nat) : Nat := (if nt = 0 then 1 else if nt ≤ 2 then 2 else if nt ≤ 4 then 3 else if nt ≤ 6 then 4 else if nt ≤ 8 then 5 else 6) + 3 * (6 - o)
theorem dpt_pos (nt o : Nat) : 1 ≤ dpt nt o := by
  unfold dpt
  repeat' split
  all_goals omega
def tyN (nt : Nat) : Bool := decide (5 ≤ nt)
abbrev isL (nt : Nat) : Prop := nt = 2 ∨ nt = 4 ∨ nt = 8 ∨ nt = 10
def inT (nt : Nat) (ts : List Bool) : List Bool := if isL nt then tyN nt :: ts else ts
theorem pOK_app : ∀ {a b : List Int} {ts t1 t2 : List Bool}, pOK a ts t1 → pOK b t1 t2 → pOK (a ++ b) ts t2
  | [], b, ts, t1, t2, h1, h2 => by
    unfold pOK at h1
    rw [h1]
    exact h2
  | x :: a, b, ts, t1, t2, h1, h2 => by
    obtain ⟨h, t, e1, e2, e3⟩ := pOK_cons h1
    exact ⟨h, t, e1, e2, pOK_app e3 h2⟩
theorem pOK_one {op : Int} {ts t1 : List Bool} (h : pOp op) (e : pT1 op ts = some t1) (hl : t1.length ≤ 64) : pOK [op] ts t1 := ⟨h, t1, e, hl, rfl⟩
section RP
variable {T : Nat → Int} {n : Nat} {w : Int}
def rGood (T : Nat → Int) (n : Nat) (w : Int) (nt o : Nat) (q q' : pL) (cs : List Int) : Prop := qOK T n q' ∧ cs.length + q.1 ≤ q'.1 ∧ (¬ isL nt → 0 < cs.length) ∧ (∀ op ∈ cs, aW w op) ∧ ∀ ts : List Bool, ts.length + dpt nt o ≤ 64 → pOK cs (inT nt ts) (tyN nt :: ts)
theorem opM_in {q : pL} {k : Int} (h : opM T n q = some k) : (k = 3 ∨ k = 4) ∧ tK T n q.1 = 3 := by
  unfold opM at h
  split at h
  · rename_i e; cases h; exact ⟨Or.inl rfl, e.1⟩
  · split at h
    · rename_i e; cases h; exact ⟨Or.inr rfl, e.1⟩
    · cases h
theorem opA_in {q : pL} {k : Int} (h : opA T n q = some k) : (k = 1 ∨ k = 2) ∧ tK T n q.1 = 3 := by
  unfold opA at h
  split at h
  · rename_i e; cases h; exact ⟨Or.inl rfl, e.1⟩
  · split at h
    · rename_i e; cases h; exact ⟨Or.inr rfl, e.1⟩
    · cases h
theorem opC_in {q : pL} {k : Int} (h : opC T n q = some k) : (k = 7 ∨ k = 8 ∨ k = 9) ∧ tK T n q.1 = 3 := by
  unfold opC at h
  split at h
  · rename_i e; cases h; exact ⟨Or.inl rfl, e.1⟩
  · split at h
    · rename_i e; cases h; exact ⟨Or.inr (Or.inl rfl), e.1⟩
    · split at h
      · rename_i e; cases h; exact ⟨Or.inr (Or.inr rfl), e.1⟩
      · cases h
theorem opN_in {q : pL} {k : Int} (h : opN T n q = some k) : k = 10 ∧ isW T n 28 q := by
  unfold opN at h
  split at h
  · rename_i e; cases h; exact ⟨rfl, e⟩
  · cases h
theorem opO_in {q : pL} {k : Int} (h : opO T n q = some k) : k = 11 ∧ isW T n 27 q := by
  unfold opO at h
  split at h
  · rename_i e; cases h; exact ⟨rfl, e⟩
  · cases h
theorem isW_k {i : Nat} {q : pL} (h : isW T n i q) : tK T n q.1 ≠ 0 := by
  rw [(tD_k (Or.inl rfl) h.1).1]; decide
theorem aW_lo {op : Int} (h0 : 1 ≤ op) (h1 : op < 40) : aW w op := by
  unfold aW aE aB aQ
  repeat' split
  all_goals omega
theorem aW_hi {op : Int} (h0 : 1000 ≤ op) : aW w op := by
  unfold aW aE aB aQ
  repeat' split
  all_goals omega
theorem tNum_in {a b v : Int} {q : pL} (h : tNum T n a b q = .inr v) : (a ≤ v ∧ v ≤ b) ∧ tD T n q = 2 := by
  unfold tNum at h
  split at h
  · rename_i e
    split at h
    · cases h
    · split at h
      · rename_i e2; cases h; exact ⟨e2, e⟩
      · cases h
  · cases h
theorem rd_good (hw : w = 2 ∨ w = 4 ∨ w = 8) : ∀ (f nt o : Nat) (q q' : pL) (cs : List Int), nt ≤ 10 → o ≤ 6 → qOK T n q → rd T n w f nt o q = some (.inr (q', cs)) → rGood T n w nt o q q' cs
  | 0, _, _, _, _, _, _, _, _, h => by cases h
  | f + 1, nt, o, q, q', cs, hnt, ho, hq, h => by
    have ih := fun nt o q q' cs a b c e => rd_good hw f nt o q q' cs a b c e
    have seq : ∀ x l : Nat, ¬ isL x → ¬ isL nt → isL l → x ≤ 10 → tyN x = tyN nt → tyN l = tyN nt → l ≤ 10 → dpt x o + 1 = dpt nt o → dpt l o = dpt nt o → rSeq (rd T n w f) x l o q = some (.inr (q', cs)) → rGood T n w nt o q q' cs := by
      intro x l hx hN hl hlx ht1 ht2 hl10 hdp hdl h
      rcases rB_inv h with ⟨e, _, e2⟩ | ⟨q1, c1, e1, h1⟩
      · cases e2
      rcases rB_inv h1 with ⟨e, _, e2⟩ | ⟨q2, c2, e2, h2⟩
      · cases e2
      cases h2
      have g1 := ih x o q q1 c1 (by omega) ho hq e1
      have g2 := ih l o q1 q' c2 hl10 ho g1.1 e2
      refine ⟨g2.1, ?_, fun _ => ?_, fun op hop => ?_, fun ts hts => ?_⟩
      · have := g1.2.1; have := g2.2.1; rw [List.length_append]; omega
      · have := g1.2.2.1 hx; rw [List.length_append]; omega
      · rcases List.mem_append.mp hop with h | h
        · exact g1.2.2.2.1 op h
        · exact g2.2.2.2.1 op h
      · have p1 := g1.2.2.2.2 ts (by omega)
        have p2 := g2.2.2.2.2 ts (by omega)
        unfold inT at p1 p2 ⊢
        rw [if_neg hx, ht1] at p1
        rw [if_pos hl, ht2] at p2
        rw [if_neg hN]
        exact pOK_app p1 p2
    have loop : ∀ (x : Nat) (op : Option Int), ¬ isL x → isL nt → x ≤ 10 → tyN x = tyN nt → dpt x o + 1 = dpt nt o → (∀ k, op = some k → tK T n q.1 ≠ 0 ∧ pOp k ∧ (1 ≤ k ∧ k < 40) ∧ ∀ ts, pT1 k (tyN nt :: tyN nt :: ts) = some (tyN nt :: ts)) → rLoop T n (rd T n w f) x nt o q op = some (.inr (q', cs)) → rGood T n w nt o q q' cs := by
      intro x op hx hN hx10 ht hdp hop h
      cases op with
      | none =>
        cases h
        refine ⟨hq, by simp, fun h => absurd hN h, fun op h => absurd h (by simp), fun ts _ => ?_⟩
        unfold inT
        rw [if_pos hN]
        exact rfl
      | some k =>
        obtain ⟨hk1, hk2, hk3, hk4⟩ := hop k rfl
        have hnx := nx_gt hq hk1
        change rB (rd T n w f x o (nx T n q)) (fun q1 c1 => rB (rd T n w f nt o q1) (fun q2 c2 => some (.inr (q2, c1 ++ k :: c2)))) = some (.inr (q', cs)) at h
        rcases rB_inv h with ⟨e, _, e2⟩ | ⟨q1, c1, e1, h1⟩
        · cases e2
        rcases rB_inv h1 with ⟨e, _, e2⟩ | ⟨q2, c2, e2, h2⟩
        · cases e2
        cases h2
        have g1 := ih x o (nx T n q) q1 c1 hx10 ho (nx_ok hq) e1
        have g2 := ih nt o q1 q' c2 hnt ho g1.1 e2
        refine ⟨g2.1, ?_, fun h => absurd hN h, fun op' hop' => ?_, fun ts hts => ?_⟩
        · have := g1.2.1; have := g2.2.1; rw [List.length_append, List.length_cons]; omega
        · rcases List.mem_append.mp hop' with h | h
          · exact g1.2.2.2.1 op' h
          · rcases List.mem_cons.mp h with h | h
            · rw [h]; exact aW_lo hk3.1 hk3.2
            · exact g2.2.2.2.1 op' h
        · have p1 := g1.2.2.2.2 (tyN nt :: ts) (by rw [List.length_cons]; omega)
          have p2 := g2.2.2.2.2 ts hts
          unfold inT at p1 p2 ⊢
          rw [if_neg hx, ht] at p1
          rw [if_pos hN] at p2 ⊢
          refine pOK_app p1 ?_
          exact ⟨hk2, _, hk4 ts, by rw [List.length_cons]; have := dpt_pos nt o; omega, p2⟩
    have pair : ∀ (q0 : pL) (op : Int), (op = 5 ∨ op = 6) → qOK T n q0 → q.1 < q0.1 → nt = 0 → rPair T n (rd T n w f) o q0 op = some (.inr (q', cs)) → rGood T n w nt o q q' cs := by
      intro q0 op hop hq0 hlt hN h
      unfold rPair at h
      split at h
      · rename_i s1
        split at h
        · rename_i ho6
          rcases rB_inv h with ⟨e, _, e2⟩ | ⟨q1, c1, e1, h1⟩
          · cases e2
          split at h1
          · rename_i s2
            rcases rB_inv h1 with ⟨e, _, e2⟩ | ⟨q2, c2, e2, h2⟩
            · cases e2
            split at h2
            · rename_i s3
              cases h2
              have g1 := ih 3 (o + 1) _ q1 c1 (by omega) (by omega) (nx_ok hq0) e1
              have g2 := ih 3 (o + 1) _ q2 c2 (by omega) (by omega) (nx_ok g1.1) e2
              have n0 := nx_gt hq0 (by rw [s1.1]; decide)
              have n1 := nx_gt g1.1 (by rw [s2.1]; decide)
              have n2 := nx_gt g2.1 (by rw [s3.1]; decide)
              refine ⟨nx_ok g2.1, ?_, fun _ => by simp <;> omega, fun op' h => ?_, fun ts hts => ?_⟩
              · have := g1.2.1; have := g2.2.1; rw [List.length_append, List.length_append]; simp; omega
              · rcases List.mem_append.mp h with h | h
                · rcases List.mem_append.mp h with h | h
                  · exact g1.2.2.2.1 op' h
                  · exact g2.2.2.2.1 op' h
                · rw [List.mem_singleton.mp h]; exact aW_lo (by omega) (by omega)
              · subst hN
                have p1 := g1.2.2.2.2 ts (by unfold dpt at hts ⊢; simp at hts ⊢; omega)
                have p2 := g2.2.2.2.2 (false :: ts) (by unfold dpt at hts ⊢; simp at hts ⊢; omega)
                simp [dpt] at hts
                refine pOK_app (pOK_app p1 p2) (pOK_one (by unfold pOp; omega) ?_ (by simp; omega))
                rcases hop with rfl | rfl <;> rfl
            · cases h2
          · cases h1
        · cases h
      · cases h
    have h' : rdF T n w (rd T n w f) nt o q = some (.inr (q', cs)) := h
    clear h
    rcases (show nt = 0 ∨ nt = 1 ∨ nt = 2 ∨ nt = 3 ∨ nt = 4 ∨ nt = 5 ∨ nt = 6 ∨ nt = 7 ∨ nt = 8 ∨ nt = 9 ∨ nt = 10 by omega) with rfl | rfl | rfl | rfl | rfl | rfl | rfl | rfl | rfl | rfl | rfl
    · have h := h'
      clear h'
      change rPart T n w (rd T n w f) o q = _ at h
      unfold rPart at h
      split at h
      · rename_i hk
        unfold rNum at h
        cases hv : tNum T n 0 9999 q with
        | inl e => rw [hv] at h; cases h
        | inr v =>
          rw [hv] at h
          cases h
          have hv2 := tNum_in hv
          have hnx := nx_gt hq (by rw [(tD_k (Or.inr rfl) hk).1]; decide)
          refine ⟨nx_ok hq, by simp; omega, fun _ => by simp <;> omega, fun op h => ?_, fun ts hts => ?_⟩
          · rw [List.mem_singleton.mp h]; exact aW_hi (by omega)
          · simp [dpt] at hts
            refine pOK_one (by unfold pOp; omega) ?_ (t1 := false :: ts) (by simp; omega)
            unfold pT1; rw [if_pos (by omega)]; rfl
      split at h
      · rename_i s1
        split at h
        · rename_i ho6
          rcases rB_inv h with ⟨e, _, e2⟩ | ⟨q1, c1, e1, h1⟩
          · cases e2
          split at h1
          · rename_i s2
            cases h1
            have g1 := ih 3 (o + 1) _ q1 cs (by omega) (by omega) (nx_ok hq) e1
            have n0 := nx_gt hq (by rw [s1.1]; decide)
            have n1 := nx_gt g1.1 (by rw [s2.1]; decide)
            refine ⟨nx_ok g1.1, by have := g1.2.1; omega, fun _ => g1.2.2.1 (by decide), g1.2.2.2.1, fun ts hts => ?_⟩
            exact g1.2.2.2.2 ts (by unfold dpt at hts ⊢; simp at hts ⊢; omega)
          · cases h1
        · cases h
      split at h
      · rename_i s1
        exact pair _ 5 (Or.inl rfl) (nx_ok hq) (nx_gt hq (isW_k s1)) rfl h
      split at h
      · rename_i s1
        exact pair _ 6 (Or.inr rfl) (nx_ok hq) (nx_gt hq (isW_k s1)) rfl h
      split at h
      · rename_i s1
        cases h
        have hf := wF_all _ s1.2.1
        have hnx := nx_gt hq (by rw [(tD_k (Or.inl rfl) s1.1).1]; decide)
        have hr : 0 ≤ wFa (wd T n q.1) ∧ wFa (wd T n q.1) ≤ 17 := by
          have s2 := s1.2.2
          rcases hw with rfl | rfl | rfl
          · have := hf.1 s2; omega
          · have := hf.2.1 s2; omega
          · have := hf.2.2 s2; omega
        refine ⟨nx_ok hq, by simp; omega, fun _ => by simp <;> omega, fun op h => ?_, fun ts hts => ?_⟩
        · rw [List.mem_singleton.mp h]
          have s2 := s1.2.2
          unfold aW
          rcases hw with rfl | rfl | rfl
          · have := hf.1 s2; rw [if_pos rfl]; unfold aE; omega
          · have := hf.2.1 s2; rw [if_neg (by decide), if_pos rfl]; unfold aB; omega
          · have := hf.2.2 s2; rw [if_neg (by decide), if_neg (by decide)]; unfold aQ; omega
        · simp [dpt] at hts
          refine pOK_one (by unfold pOp; omega) ?_ (t1 := false :: ts) (by simp; omega)
          unfold pT1; rw [if_neg (by omega), if_neg (by omega), if_pos (by omega)]; rfl
      split at h
      · rename_i s1
        split at h
        · rename_i ho6
          rcases rB_inv h with ⟨e, _, e2⟩ | ⟨q1, c1, e1, h1⟩
          · cases e2
          cases h1
          have hk : tK T n q.1 ≠ 0 := by rcases s1.2 with s | s <;> exact isW_k s
          have g1 := ih 0 (o + 1) _ q' c1 (by omega) (by omega) (nx_ok hq) e1
          have n0 := nx_gt hq hk
          refine ⟨g1.1, by have := g1.2.1; simp; omega, fun _ => by simp <;> omega, fun op h => ?_, fun ts hts => ?_⟩
          · rcases List.mem_append.mp h with h | h
            · exact g1.2.2.2.1 op h
            · rw [List.mem_singleton.mp h]
              unfold aW
              rw [if_neg (by omega), if_neg (by omega)]
              unfold aQ
              split <;> omega
          · have p1 := g1.2.2.2.2 ts (by unfold dpt at hts ⊢; simp at hts ⊢; omega)
            simp [dpt] at hts
            refine pOK_app p1 (pOK_one (by unfold pOp; split <;> omega) ?_ (t1 := false :: ts) (by simp; omega))
            split <;> rfl
        · cases h
      · cases h
    · exact seq 0 2 (by decide) (by decide) (by decide) (by decide) rfl rfl (by decide) (by unfold dpt; simp; omega) (by unfold dpt; simp) h'
    · exact loop 0 _ (by decide) (by decide) (by decide) rfl (by unfold dpt; simp; omega) (fun k hk => by
        have := opM_in hk
        refine ⟨by rw [this.2]; decide, by unfold pOp; omega, by omega, fun ts => ?_⟩
        rcases this.1 with rfl | rfl <;> rfl) h'
    · exact seq 1 4 (by decide) (by decide) (by decide) (by decide) rfl rfl (by decide) (by unfold dpt; simp; omega) (by unfold dpt; simp) h'
    · exact loop 1 _ (by decide) (by decide) (by decide) rfl (by unfold dpt; simp; omega) (fun k hk => by
        have := opA_in hk
        refine ⟨by rw [this.2]; decide, by unfold pOp; omega, by omega, fun ts => ?_⟩
        rcases this.1 with rfl | rfl <;> rfl) h'
    · have h := h'
      clear h'
      change rCmp T n (rd T n w f) o q = _ at h
      rcases rB_inv h with ⟨e, _, e2⟩ | ⟨q1, c1, e1, h1⟩
      · cases e2
      cases hk : opC T n q1 with
      | none => rw [hk] at h1; cases h1
      | some k =>
        rw [hk] at h1
        have ko := opC_in hk
        rcases rB_inv h1 with ⟨e, _, e2⟩ | ⟨q2, c2, e2, h2⟩
        · cases e2
        cases h2
        have g1 := ih 3 o q q1 c1 (by omega) ho hq e1
        have g2 := ih 3 o _ q' c2 (by omega) ho (nx_ok g1.1) e2
        have n1 := nx_gt g1.1 (by rw [ko.2]; decide)
        refine ⟨g2.1, ?_, fun _ => by simp <;> omega, fun op' h => ?_, fun ts hts => ?_⟩
        · have := g1.2.1; have := g2.2.1; rw [List.length_append, List.length_append]; simp; omega
        · rcases List.mem_append.mp h with h | h
          · rcases List.mem_append.mp h with h | h
            · exact g1.2.2.2.1 op' h
            · exact g2.2.2.2.1 op' h
          · rw [List.mem_singleton.mp h]; exact aW_lo (by omega) (by omega)
        · have p1 := g1.2.2.2.2 ts (by unfold dpt at hts ⊢; simp at hts ⊢; omega)
          have p2 := g2.2.2.2.2 (false :: ts) (by unfold dpt at hts ⊢; simp at hts ⊢; omega)
          simp [dpt] at hts
          refine pOK_app (pOK_app p1 p2) (pOK_one (by unfold pOp; omega) ?_ (by simp; omega))
          rcases ko.1 with rfl | rfl | rfl <;> rfl
    · have h := h'
      clear h'
      change rTruth T n (rd T n w f) o q = _ at h
      unfold rTruth at h
      split at h
      · rename_i s1
        split at h
        · rename_i ho6
          rcases rB_inv h with ⟨e, _, e2⟩ | ⟨q1, c1, e1, h1⟩
          · cases e2
          cases h1
          have g1 := ih 6 (o + 1) _ q' c1 (by omega) (by omega) (nx_ok hq) e1
          have n0 := nx_gt hq (isW_k s1)
          refine ⟨g1.1, by have := g1.2.1; simp; omega, fun _ => by simp <;> omega, fun op h => ?_, fun ts hts => ?_⟩
          · rcases List.mem_append.mp h with h | h
            · exact g1.2.2.2.1 op h
            · rw [List.mem_singleton.mp h]; exact aW_lo (by decide) (by decide)
          · have p1 := g1.2.2.2.2 ts (by unfold dpt at hts ⊢; simp at hts ⊢; omega)
            simp [dpt] at hts
            exact pOK_app p1 (pOK_one (by unfold pOp; omega) rfl (by simp; omega))
        · cases h
      split at h
      · rename_i s1
        split at h
        · rename_i ho6
          rcases rB_inv h with ⟨e, _, e2⟩ | ⟨q1, c1, e1, h1⟩
          · cases e2
          split at h1
          · rename_i s2
            cases h1
            have g1 := ih 9 (o + 1) _ q1 cs (by omega) (by omega) (nx_ok hq) e1
            have n0 := nx_gt hq (by rw [s1.1]; decide)
            have n1 := nx_gt g1.1 (by rw [s2.1]; decide)
            refine ⟨nx_ok g1.1, by have := g1.2.1; omega, fun _ => g1.2.2.1 (by decide), g1.2.2.2.1, fun ts hts => ?_⟩
            exact g1.2.2.2.2 ts (by unfold dpt at hts ⊢; simp at hts ⊢; omega)
          · cases h1
        · cases h
      split at h
      · rename_i s1
        cases h
        have n0 := nx_gt hq (isW_k s1)
        refine ⟨nx_ok hq, by simp; omega, fun _ => by simp <;> omega, fun op h => ?_, fun ts hts => ?_⟩
        · rw [List.mem_singleton.mp h]; exact aW_lo (by decide) (by decide)
        · simp [dpt] at hts
          exact pOK_one (by unfold pOp; omega) rfl (by simp; omega)
      · have g1 := ih 5 o q q' cs (by omega) ho hq h
        exact ⟨g1.1, g1.2.1, fun _ => g1.2.2.1 (by decide), g1.2.2.2.1, fun ts hts => g1.2.2.2.2 ts (by unfold dpt at hts ⊢; simp at hts ⊢; omega)⟩
    · exact seq 6 8 (by decide) (by decide) (by decide) (by decide) rfl rfl (by decide) (by unfold dpt; simp; omega) (by unfold dpt; simp) h'
    · exact loop 6 _ (by decide) (by decide) (by decide) rfl (by unfold dpt; simp; omega) (fun k hk => by
        have := opN_in hk
        refine ⟨isW_k this.2, by unfold pOp; omega, by omega, fun ts => ?_⟩
        rw [this.1]; rfl) h'
    · exact seq 7 10 (by decide) (by decide) (by decide) (by decide) rfl rfl (by decide) (by unfold dpt; simp; omega) (by unfold dpt; simp) h'
    · exact loop 7 _ (by decide) (by decide) (by decide) rfl (by unfold dpt; simp; omega) (fun k hk => by
        have := opO_in hk
        refine ⟨isW_k this.2, by unfold pOp; omega, by omega, fun ts => ?_⟩
        rw [this.1]; rfl) h'
theorem tNum_err {a b : Int} {q : pL} {e : Int × Nat} (h : tNum T n a b q = .inl e) : e.1 = 1 ∨ e.1 = 2 := by
  unfold tNum at h
  split at h
  · split at h
    · cases h; exact Or.inl rfl
    · split at h
      · cases h
      · cases h; exact Or.inr rfl
  · cases h; exact Or.inl rfl
/-- enough fuel -/
theorem rd_total (hw : w = 2 ∨ w = 4 ∨ w = 8) : ∀ (f nt o : Nat) (q : pL), nt ≤ 10 → o ≤ 6 → qOK T n q → 12 * (n + 1 - q.1) + nt < f → rd T n w f nt o q ≠ none
  | 0, _, _, _, _, _, _, h => by omega
  | f + 1, nt, o, q, hnt, ho, hq, hf => by
    have hq1 := hq.1
    have ih : ∀ (nt o : Nat) (q : pL), nt ≤ 10 → o ≤ 6 → qOK T n q → 12 * (n + 1 - q.1) + nt < f → rd T n w f nt o q ≠ none := fun nt o q a b c e => rd_total hw f nt o q a b c e
    have gd : ∀ (nt o : Nat) (q q' : pL) (cs : List Int), nt ≤ 10 → o ≤ 6 → qOK T n q → rd T n w f nt o q = some (.inr (q', cs)) → rGood T n w nt o q q' cs := fun nt o q q' cs a b c e => rd_good hw f nt o q q' cs a b c e
    have seq : ∀ x l : Nat, ¬ isL x → x < nt → l ≤ 10 → rSeq (rd T n w f) x l o q ≠ none := by
      intro x l hx hxn hl
      refine rB_ne (ih x o q (by omega) ho hq (by omega)) (fun q1 c1 e1 => ?_)
      have g1 := gd x o q q1 c1 (by omega) ho hq e1
      have p1 := g1.2.2.1 hx
      have p2 := g1.2.1
      have p3 := g1.1.1
      refine rB_ne (ih l o q1 hl ho g1.1 (by omega)) (fun q2 c2 e2 => ?_)
      intro h; cases h
    have loop : ∀ (x : Nat) (op : Option Int), ¬ isL x → x ≤ 10 → (∀ k, op = some k → tK T n q.1 ≠ 0) → rLoop T n (rd T n w f) x nt o q op ≠ none := by
      intro x op hx hx10 hop
      cases op with
      | none => intro h; cases h
      | some k =>
        have n0 := nx_gt hq (hop k rfl)
        have n1 := (nx_ok hq).1
        show rB (rd T n w f x o (nx T n q)) (fun q1 c1 => rB (rd T n w f nt o q1) (fun q2 c2 => some (.inr (q2, c1 ++ k :: c2)))) ≠ none
        refine rB_ne (ih x o _ hx10 ho (nx_ok hq) (by omega)) (fun q1 c1 e1 => ?_)
        have g1 := gd x o _ q1 c1 hx10 ho (nx_ok hq) e1
        have p1 := g1.2.2.1 hx
        have p2 := g1.2.1
        have p3 := g1.1.1
        refine rB_ne (ih nt o q1 hnt ho g1.1 (by omega)) (fun q2 c2 e2 => ?_)
        intro h; cases h
    have pair : ∀ (q0 : pL) (op : Int), qOK T n q0 → q.1 < q0.1 → rPair T n (rd T n w f) o q0 op ≠ none := by
      intro q0 op hq0 hlt
      have p0 := hq0.1
      unfold rPair
      split
      · rename_i s1
        split
        · have n0 := nx_gt hq0 (by rw [s1.1]; decide)
          have n1 := (nx_ok hq0).1
          refine rB_ne (ih 3 (o + 1) _ (by omega) (by omega) (nx_ok hq0) (by omega)) (fun q1 c1 e1 => ?_)
          have g1 := gd 3 (o + 1) _ q1 c1 (by omega) (by omega) (nx_ok hq0) e1
          have p2 := g1.2.1
          have p3 := g1.1.1
          split
          · rename_i s2
            have n2 := nx_gt g1.1 (by rw [s2.1]; decide)
            have n3 := (nx_ok g1.1).1
            refine rB_ne (ih 3 (o + 1) _ (by omega) (by omega) (nx_ok g1.1) (by omega)) (fun q2 c2 e2 => ?_)
            split <;> (intro h; cases h)
          · intro h; cases h
        · intro h; cases h
      · intro h; cases h
    show rdF T n w (rd T n w f) nt o q ≠ none
    rcases (show nt = 0 ∨ nt = 1 ∨ nt = 2 ∨ nt = 3 ∨ nt = 4 ∨ nt = 5 ∨ nt = 6 ∨ nt = 7 ∨ nt = 8 ∨ nt = 9 ∨ nt = 10 by omega) with rfl | rfl | rfl | rfl | rfl | rfl | rfl | rfl | rfl | rfl | rfl
    · show rPart T n w (rd T n w f) o q ≠ none
      unfold rPart
      split
      · unfold rNum; split <;> (intro h; cases h)
      split
      · rename_i s1
        split
        · have n0 := nx_gt hq (by rw [s1.1]; decide)
          have n1 := (nx_ok hq).1
          refine rB_ne (ih 3 (o + 1) _ (by omega) (by omega) (nx_ok hq) (by omega)) (fun q1 c1 e1 => ?_)
          split <;> (intro h; cases h)
        · intro h; cases h
      split
      · rename_i s1; exact pair _ 5 (nx_ok hq) (nx_gt hq (isW_k s1))
      split
      · rename_i s1; exact pair _ 6 (nx_ok hq) (nx_gt hq (isW_k s1))
      split
      · intro h; cases h
      split
      · rename_i s1
        have hk : tK T n q.1 ≠ 0 := by rcases s1.2 with s | s <;> exact isW_k s
        split
        · have n0 := nx_gt hq hk
          have n1 := (nx_ok hq).1
          refine rB_ne (ih 0 (o + 1) _ (by omega) (by omega) (nx_ok hq) (by omega)) (fun q1 c1 e1 => ?_)
          intro h; cases h
        · intro h; cases h
      · intro h; cases h
    · exact seq 0 2 (by decide) (by decide) (by decide)
    · exact loop 0 _ (by decide) (by decide) (fun k hk => by rw [(opM_in hk).2]; decide)
    · exact seq 1 4 (by decide) (by decide) (by decide)
    · exact loop 1 _ (by decide) (by decide) (fun k hk => by rw [(opA_in hk).2]; decide)
    · show rCmp T n (rd T n w f) o q ≠ none
      refine rB_ne (ih 3 o q (by omega) ho hq (by omega)) (fun q1 c1 e1 => ?_)
      have g1 := gd 3 o q q1 c1 (by omega) ho hq e1
      have p2 := g1.2.1
      have p3 := g1.1.1
      cases hk : opC T n q1 with
      | none => intro h; cases h
      | some k =>
        have n2 := nx_gt g1.1 (by rw [(opC_in hk).2]; decide)
        have n3 := (nx_ok g1.1).1
        refine rB_ne (ih 3 o _ (by omega) ho (nx_ok g1.1) (by omega)) (fun q2 c2 e2 => ?_)
        intro h; cases h
    · show rTruth T n (rd T n w f) o q ≠ none
      unfold rTruth
      split
      · rename_i s1
        split
        · have n0 := nx_gt hq (isW_k s1)
          have n1 := (nx_ok hq).1
          refine rB_ne (ih 6 (o + 1) _ (by omega) (by omega) (nx_ok hq) (by omega)) (fun q1 c1 e1 => ?_)
          intro h; cases h
        · intro h; cases h
      split
      · rename_i s1
        split
        · have n0 := nx_gt hq (by rw [s1.1]; decide)
          have n1 := (nx_ok hq).1
          refine rB_ne (ih 9 (o + 1) _ (by omega) (by omega) (nx_ok hq) (by omega)) (fun q1 c1 e1 => ?_)
          split <;> (intro h; cases h)
        · intro h; cases h
      split
      · intro h; cases h
      · exact ih 5 o q (by omega) ho hq (by omega)
    · exact seq 6 8 (by decide) (by decide) (by decide)
    · exact loop 6 _ (by decide) (by decide) (fun k hk => isW_k (opN_in hk).2)
    · exact seq 7 10 (by decide) (by decide) (by decide)
    · exact loop 7 _ (by decide) (by decide) (fun k hk => isW_k (opO_in hk).2)
end RP

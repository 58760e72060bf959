/-! ONE INSTRUCTION OF THE SMALL MACHINE IS ONE OF THE MACHINE (1): stack, locals, numbers, branches -/
def bz_rsz (kd : Nat → Option bz_Kd) (nf : Nat → Nat) (r : Nat) : Nat := match kd r with
  | some (.inl ci) => nf ci
  | some (.inr (_, n)) => n
  | none => 0
def bz_sl (kd : Nat → Option bz_Kd) (nf : Nat → Nat) (N : Nat) : Nat := ((List.range N).map (fun j => bz_rsz kd nf (j + 1))).sum
def bz_Inv (kd : Nat → Option bz_Kd) (tc : Nat → Nat → Nat) (nf : Nat → Nat) (cA : Nat → ClassId) (wl : List (Nat × Nat × Nat)) (w : Bool) (sM : bz_M) (sf : List (String × String × String × bz_V)) (sc : bz_Sc) (D : va_G) (cl : List vw_C) (A : Nat → Prop) (s : State) (nL N0 : Nat) (ad0 : Nat → Nat) (L : bz_Ls) (st : bz_S) (M : bz_M) (ad : Nat → Nat) (H : Heap) (locs : List Loc) (ls : Array Slot) : Prop :=
  va_P D cl (bz_ws kd tc nf cA ad M) H ∧ va_D A (bz_ws kd tc nf cA ad M) ∧ va_S A s.heap H locs ∧ bz_wfM kd tc sM wl w M ∧ bz_lr ad L ls nL ∧ bz_Lw (bz_Nn M) L ∧ bz_Sw (bz_Nn M) st ∧ bz_St A kd tc sM sf sc ad s s.heap ∧ (∀ q, q ≤ N0 → ad q = ad0 q) ∧ N0 ≤ bz_Nn M
section SS
variable {p : Program} {l : Launch} {e : Env} {R : Room} {s : State} {m : MethodId} {args : Array Value} {below : List Frame} {meth : Method} {c : Code} {H : Heap} {locs : List Loc} {Q : State → Prop}
variable {cc : ByteArray} {pc : Nat} {ls : Array Slot} {D : va_G} {cl : List vw_C} {A : Nat → Prop}
variable {kd : Nat → Option bz_Kd} {tc : Nat → Nat → Nat} {nf : Nat → Nat} {cA : Nat → ClassId} {wl : List (Nat × Nat × Nat)} {w : Bool} {sM : bz_M} {sf : List (String × String × String × bz_V)} {sc : bz_Sc} {ad ad0 : Nat → Nat} {M : bz_M} {Ts : List Cond} {nL N0 : Nat} {L : bz_Ls} {st : bz_S}
theorem bz_Inv.iP (h : bz_Inv kd tc nf cA wl w sM sf sc D cl A s nL N0 ad0 L st M ad H locs ls) : va_P D cl (bz_ws kd tc nf cA ad M) H := h.1
theorem bz_Inv.iD (h : bz_Inv kd tc nf cA wl w sM sf sc D cl A s nL N0 ad0 L st M ad H locs ls) : va_D A (bz_ws kd tc nf cA ad M) := h.2.1
theorem bz_Inv.iS (h : bz_Inv kd tc nf cA wl w sM sf sc D cl A s nL N0 ad0 L st M ad H locs ls) : va_S A s.heap H locs := h.2.2.1
theorem bz_Inv.wf (h : bz_Inv kd tc nf cA wl w sM sf sc D cl A s nL N0 ad0 L st M ad H locs ls) : bz_wfM kd tc sM wl w M := h.2.2.2.1
theorem bz_Inv.lr (h : bz_Inv kd tc nf cA wl w sM sf sc D cl A s nL N0 ad0 L st M ad H locs ls) : bz_lr ad L ls nL := h.2.2.2.2.1
theorem bz_Inv.Lw (h : bz_Inv kd tc nf cA wl w sM sf sc D cl A s nL N0 ad0 L st M ad H locs ls) : bz_Lw (bz_Nn M) L := h.2.2.2.2.2.1
theorem bz_Inv.Sw (h : bz_Inv kd tc nf cA wl w sM sf sc D cl A s nL N0 ad0 L st M ad H locs ls) : bz_Sw (bz_Nn M) st := h.2.2.2.2.2.2.1
theorem bz_Inv.St (h : bz_Inv kd tc nf cA wl w sM sf sc D cl A s nL N0 ad0 L st M ad H locs ls) : bz_St A kd tc sM sf sc ad s s.heap := h.2.2.2.2.2.2.2.1
theorem bz_Inv.ag (h : bz_Inv kd tc nf cA wl w sM sf sc D cl A s nL N0 ad0 L st M ad H locs ls) : ∀ q, q ≤ N0 → ad q = ad0 q := h.2.2.2.2.2.2.2.2.1
theorem bz_Inv.iN (h : bz_Inv kd tc nf cA wl w sM sf sc D cl A s nL N0 ad0 L st M ad H locs ls) : N0 ≤ bz_Nn M := h.2.2.2.2.2.2.2.2.2
theorem bz_Inv.fg (ks : List Nat) (h : bz_Inv kd tc nf cA wl w sM sf sc D cl A s nL N0 ad0 L st M ad H locs ls) : bz_Inv kd tc nf cA wl w sM sf sc D cl A s nL N0 ad0 (bz_fg ks L) st M ad H locs ls := ⟨h.iP, h.iD, h.iS, h.wf, h.lr.fg ks, h.Lw.fg ks, h.Sw, h.St, h.ag, h.iN⟩
theorem bz_Inv.sw {st' : bz_S} (h : bz_Inv kd tc nf cA wl w sM sf sc D cl A s nL N0 ad0 L st M ad H locs ls) (h' : bz_Sw (bz_Nn M) st') : bz_Inv kd tc nf cA wl w sM sf sc D cl A s nL N0 ad0 L st' M ad H locs ls := ⟨h.iP, h.iD, h.iS, h.wf, h.lr, h.Lw, h', h.St, h.ag, h.iN⟩
theorem bz_Inv.loc {st' : bz_S} {L' : bz_Ls} {ls' : Array Slot} (h : bz_Inv kd tc nf cA wl w sM sf sc D cl A s nL N0 ad0 L st M ad H locs ls) (h' : bz_Sw (bz_Nn M) st') (hl : bz_lr ad L' ls' nL) (hw : bz_Lw (bz_Nn M) L') : bz_Inv kd tc nf cA wl w sM sf sc D cl A s nL N0 ad0 L' st' M ad H locs ls' := ⟨h.iP, h.iD, h.iS, h.wf, hl, hw, h', h.St, h.ag, h.iN⟩
/-- the world changed at one place -/
theorem bz_Inv.mem {st' : bz_S} {r k : Nat} {x : Int} {H1 : Heap} {locs1 : List Loc} (h : bz_Inv kd tc nf cA wl w sM sf sc D cl A s nL N0 ad0 L st M ad H locs ls) (h' : bz_Sw (bz_Nn M) st') (h1 : bz_ns < r) (h2 : r ≤ bz_Nn M) (hx : bz_rg (bz_tr kd tc r k) (bz_Nn M) x) (hw : w = true → ∀ q ∈ wl, ¬ (q.1 = r ∧ q.2.1 = k)) (hP : va_P D cl (bz_ws kd tc nf cA ad (bz_up M r k x)) H1) (hD : va_D A (bz_ws kd tc nf cA ad (bz_up M r k x))) (hS : va_S A s.heap H1 locs1) : bz_Inv kd tc nf cA wl w sM sf sc D cl A s nL N0 ad0 L st' (bz_up M r k x) ad H1 locs1 ls := by
  have hN : bz_Nn (bz_up M r k x) = bz_Nn M := bz_Nn_up (by omega)
  exact ⟨hP, hD, hS, bz_up_rg h.wf h1 h2 hx hw, h.lr, by rw [hN]; exact h.Lw, by rw [hN]; exact h', h.St, h.ag, by rw [hN]; exact h.iN⟩
theorem bz_Nx {q1 pc' : Nat} {q2 L' : bz_Ls} {q3 st' : bz_S} {q4 M' : bz_M} (h : bz_nx pc' L' st' M' = some (.inr (.inl (q1, q2, q3, q4)))) : pc' = q1 ∧ L' = q2 ∧ st' = q3 ∧ M' = q4 := by
  unfold bz_nx at h
  cases h
  exact ⟨rfl, rfl, rfl, rfl⟩
/-- a push -/
theorem bz_h_push {pc' q1 : Nat} {q2 : bz_Ls} {q3 : bz_S} {q4 : bz_M} {v : bz_V} (hI : bz_Inv kd tc nf cA wl w sM sf sc D cl A s nL N0 ad0 L st M ad H locs ls) (hv : bz_vw (bz_Nn M) v) (row : ∀ rest, W p l e R s m args below meth c H locs (bz_Nn M - N0) (bz_sl kd nf (bz_Nn M) - bz_sl kd nf N0) Q (F0 m (pc') ls (bz_mv ad v :: rest)) → W p l e R s m args below meth c H locs (bz_Nn M - N0) (bz_sl kd nf (bz_Nn M) - bz_sl kd nf N0) Q (F0 m pc ls rest)) (ho : bz_nx pc' L (v :: st) M = some (.inr (.inl (q1, q2, q3, q4)))) (kk : (∀ (ad' : Nat → Nat) (H' : Heap) (locs' : List Loc) (ls' : Array Slot), bz_Inv kd tc nf cA wl w sM sf sc D cl A s nL N0 ad0 q2 q3 q4 ad' H' locs' ls' → W p l e R s m args below meth c H' locs' (bz_Nn q4 - N0) (bz_sl kd nf (bz_Nn q4) - bz_sl kd nf N0) Q (F0 m q1 ls' (q3.map (bz_mv ad'))))) : W p l e R s m args below meth c H locs (bz_Nn M - N0) (bz_sl kd nf (bz_Nn M) - bz_sl kd nf N0) Q (F0 m pc ls (st.map (bz_mv ad))) := by
  obtain ⟨rfl, rfl, rfl, rfl⟩ := bz_Nx ho
  exact row _ (kk ad H locs ls (hI.sw (hI.Sw.cons hv)))
theorem bz_h_ldI {pc' q1 i : Nat} {q2 : bz_Ls} {q3 : bz_S} {q4 : bz_M} (hI : bz_Inv kd tc nf cA wl w sM sf sc D cl A s nL N0 ad0 L st M ad H locs ls) (row : ∀ (x : Int32) rest, ls[i]? = some (.val (.int x)) → W p l e R s m args below meth c H locs (bz_Nn M - N0) (bz_sl kd nf (bz_Nn M) - bz_sl kd nf N0) Q (F0 m (pc') ls (.int x :: rest)) → W p l e R s m args below meth c H locs (bz_Nn M - N0) (bz_sl kd nf (bz_Nn M) - bz_sl kd nf N0) Q (F0 m pc ls rest)) (ho : bz_ldI pc' L st M i = some (.inr (.inl (q1, q2, q3, q4)))) (kk : (∀ (ad' : Nat → Nat) (H' : Heap) (locs' : List Loc) (ls' : Array Slot), bz_Inv kd tc nf cA wl w sM sf sc D cl A s nL N0 ad0 q2 q3 q4 ad' H' locs' ls' → W p l e R s m args below meth c H' locs' (bz_Nn q4 - N0) (bz_sl kd nf (bz_Nn q4) - bz_sl kd nf N0) Q (F0 m q1 ls' (q3.map (bz_mv ad'))))) : W p l e R s m args below meth c H locs (bz_Nn M - N0) (bz_sl kd nf (bz_Nn M) - bz_sl kd nf N0) Q (F0 m pc ls (st.map (bz_mv ad))) := by
  unfold bz_ldI at ho
  split at ho
  · rename_i x hx
    obtain ⟨rfl, rfl, rfl, rfl⟩ := bz_Nx ho
    exact row _ _ (hI.lr.2.2.2 i _ hx) (kk ad H locs ls (hI.sw (hI.Sw.cons (hI.Lw i _ hx))))
  · cases ho
theorem bz_h_ldL {pc' q1 i : Nat} {q2 : bz_Ls} {q3 : bz_S} {q4 : bz_M} (hI : bz_Inv kd tc nf cA wl w sM sf sc D cl A s nL N0 ad0 L st M ad H locs ls) (row : ∀ (x : Int64) rest, ls[i]? = some (.val (.long x)) → W p l e R s m args below meth c H locs (bz_Nn M - N0) (bz_sl kd nf (bz_Nn M) - bz_sl kd nf N0) Q (F0 m (pc') ls (.long x :: rest)) → W p l e R s m args below meth c H locs (bz_Nn M - N0) (bz_sl kd nf (bz_Nn M) - bz_sl kd nf N0) Q (F0 m pc ls rest)) (ho : bz_ldL pc' L st M i = some (.inr (.inl (q1, q2, q3, q4)))) (kk : (∀ (ad' : Nat → Nat) (H' : Heap) (locs' : List Loc) (ls' : Array Slot), bz_Inv kd tc nf cA wl w sM sf sc D cl A s nL N0 ad0 q2 q3 q4 ad' H' locs' ls' → W p l e R s m args below meth c H' locs' (bz_Nn q4 - N0) (bz_sl kd nf (bz_Nn q4) - bz_sl kd nf N0) Q (F0 m q1 ls' (q3.map (bz_mv ad'))))) : W p l e R s m args below meth c H locs (bz_Nn M - N0) (bz_sl kd nf (bz_Nn M) - bz_sl kd nf N0) Q (F0 m pc ls (st.map (bz_mv ad))) := by
  unfold bz_ldL at ho
  split at ho
  · rename_i x hx
    obtain ⟨rfl, rfl, rfl, rfl⟩ := bz_Nx ho
    exact row _ _ (hI.lr.2.2.2 i _ hx) (kk ad H locs ls (hI.sw (hI.Sw.cons (hI.Lw i _ hx))))
  · cases ho
theorem bz_h_ldA {pc' q1 i : Nat} {q2 : bz_Ls} {q3 : bz_S} {q4 : bz_M} (hI : bz_Inv kd tc nf cA wl w sM sf sc D cl A s nL N0 ad0 L st M ad H locs ls) (row : ∀ (x : Nat) rest, ls[i]? = some (.val (.ref x)) → W p l e R s m args below meth c H locs (bz_Nn M - N0) (bz_sl kd nf (bz_Nn M) - bz_sl kd nf N0) Q (F0 m (pc') ls (.ref x :: rest)) → W p l e R s m args below meth c H locs (bz_Nn M - N0) (bz_sl kd nf (bz_Nn M) - bz_sl kd nf N0) Q (F0 m pc ls rest)) (rowN : ∀ rest, ls[i]? = some (.val .null) → W p l e R s m args below meth c H locs (bz_Nn M - N0) (bz_sl kd nf (bz_Nn M) - bz_sl kd nf N0) Q (F0 m (pc') ls (.null :: rest)) → W p l e R s m args below meth c H locs (bz_Nn M - N0) (bz_sl kd nf (bz_Nn M) - bz_sl kd nf N0) Q (F0 m pc ls rest)) (ho : bz_ldA pc' L st M i = some (.inr (.inl (q1, q2, q3, q4)))) (kk : (∀ (ad' : Nat → Nat) (H' : Heap) (locs' : List Loc) (ls' : Array Slot), bz_Inv kd tc nf cA wl w sM sf sc D cl A s nL N0 ad0 q2 q3 q4 ad' H' locs' ls' → W p l e R s m args below meth c H' locs' (bz_Nn q4 - N0) (bz_sl kd nf (bz_Nn q4) - bz_sl kd nf N0) Q (F0 m q1 ls' (q3.map (bz_mv ad'))))) : W p l e R s m args below meth c H locs (bz_Nn M - N0) (bz_sl kd nf (bz_Nn M) - bz_sl kd nf N0) Q (F0 m pc ls (st.map (bz_mv ad))) := by
  unfold bz_ldA at ho
  split at ho
  · rename_i x hx
    obtain ⟨rfl, rfl, rfl, rfl⟩ := bz_Nx ho
    have h1 := hI.lr.2.2.2 i _ hx
    have h2 := kk ad H locs ls (hI.sw (hI.Sw.cons (hI.Lw i _ hx)))
    by_cases e : x = 0
    · subst e
      exact rowN _ h1 h2
    · have e1 : bz_mv ad (.inr (.inr x)) = .ref (ad x) := by unfold bz_mv; dsimp only; rw [if_neg e]
      rw [List.map_cons, e1] at h2
      rw [e1] at h1
      exact row _ _ h1 h2
  · cases ho
theorem bz_h_stI {pc' q1 i : Nat} {q2 : bz_Ls} {q3 : bz_S} {q4 : bz_M} (hI : bz_Inv kd tc nf cA wl w sM sf sc D cl A s nL N0 ad0 L st M ad H locs ls) (row : ∀ (x : Int32) rest, i < nL → (∀ ls' : Array Slot, lv_has ls' nL ((i, Value.int x) :: (bz_lv ad L).filter (fun q => !(q.1 == i) && !(q.1 + 1 == i && q.2.category == 2))) → W p l e R s m args below meth c H locs (bz_Nn M - N0) (bz_sl kd nf (bz_Nn M) - bz_sl kd nf N0) Q (F0 m (pc') ls' rest)) → W p l e R s m args below meth c H locs (bz_Nn M - N0) (bz_sl kd nf (bz_Nn M) - bz_sl kd nf N0) Q (F0 m pc ls (.int x :: rest))) (ho : bz_stI pc' L st M i = some (.inr (.inl (q1, q2, q3, q4)))) (kk : (∀ (ad' : Nat → Nat) (H' : Heap) (locs' : List Loc) (ls' : Array Slot), bz_Inv kd tc nf cA wl w sM sf sc D cl A s nL N0 ad0 q2 q3 q4 ad' H' locs' ls' → W p l e R s m args below meth c H' locs' (bz_Nn q4 - N0) (bz_sl kd nf (bz_Nn q4) - bz_sl kd nf N0) Q (F0 m q1 ls' (q3.map (bz_mv ad'))))) : W p l e R s m args below meth c H locs (bz_Nn M - N0) (bz_sl kd nf (bz_Nn M) - bz_sl kd nf N0) Q (F0 m pc ls (st.map (bz_mv ad))) := by
  unfold bz_stI at ho
  split at ho
  · rename_i x st'
    split at ho
    · rename_i hi
      obtain ⟨rfl, rfl, rfl, rfl⟩ := bz_Nx ho
      have hi' : i < nL := by rw [← hI.lr.2.2.1]; exact hi
      exact row _ _ hi' (fun ls' h' => kk ad H locs ls' (hI.loc hI.Sw.tail (hI.lr.st1 hi' h') (hI.Lw.st1 hI.Sw.head)))
    · cases ho
  · cases ho
theorem bz_h_stL {pc' q1 i : Nat} {q2 : bz_Ls} {q3 : bz_S} {q4 : bz_M} (hI : bz_Inv kd tc nf cA wl w sM sf sc D cl A s nL N0 ad0 L st M ad H locs ls) (row : ∀ (x : Int64) rest, i + 1 < nL → (∀ ls' : Array Slot, lv_has ls' nL ((i, Value.long x) :: (bz_lv ad L).filter (fun q => !(q.1 == i) && (!(q.1 == i + 1) && !(q.1 + 1 == i && q.2.category == 2)))) → W p l e R s m args below meth c H locs (bz_Nn M - N0) (bz_sl kd nf (bz_Nn M) - bz_sl kd nf N0) Q (F0 m (pc') ls' rest)) → W p l e R s m args below meth c H locs (bz_Nn M - N0) (bz_sl kd nf (bz_Nn M) - bz_sl kd nf N0) Q (F0 m pc ls (.long x :: rest))) (ho : bz_stL pc' L st M i = some (.inr (.inl (q1, q2, q3, q4)))) (kk : (∀ (ad' : Nat → Nat) (H' : Heap) (locs' : List Loc) (ls' : Array Slot), bz_Inv kd tc nf cA wl w sM sf sc D cl A s nL N0 ad0 q2 q3 q4 ad' H' locs' ls' → W p l e R s m args below meth c H' locs' (bz_Nn q4 - N0) (bz_sl kd nf (bz_Nn q4) - bz_sl kd nf N0) Q (F0 m q1 ls' (q3.map (bz_mv ad'))))) : W p l e R s m args below meth c H locs (bz_Nn M - N0) (bz_sl kd nf (bz_Nn M) - bz_sl kd nf N0) Q (F0 m pc ls (st.map (bz_mv ad))) := by
  unfold bz_stL at ho
  split at ho
  · rename_i x st'
    split at ho
    · rename_i hi
      obtain ⟨rfl, rfl, rfl, rfl⟩ := bz_Nx ho
      have hi' : i + 1 < nL := by rw [← hI.lr.2.2.1]; exact hi
      exact row _ _ hi' (fun ls' h' => kk ad H locs ls' (hI.loc hI.Sw.tail (hI.lr.st2 hi' h') (hI.Lw.st2 hI.Sw.head)))
    · cases ho
  · cases ho
theorem bz_h_stA {pc' q1 i : Nat} {q2 : bz_Ls} {q3 : bz_S} {q4 : bz_M} (hI : bz_Inv kd tc nf cA wl w sM sf sc D cl A s nL N0 ad0 L st M ad H locs ls) (row : ∀ (x : Nat) rest, i < nL → (∀ ls' : Array Slot, lv_has ls' nL ((i, Value.ref x) :: (bz_lv ad L).filter (fun q => !(q.1 == i) && !(q.1 + 1 == i && q.2.category == 2))) → W p l e R s m args below meth c H locs (bz_Nn M - N0) (bz_sl kd nf (bz_Nn M) - bz_sl kd nf N0) Q (F0 m (pc') ls' rest)) → W p l e R s m args below meth c H locs (bz_Nn M - N0) (bz_sl kd nf (bz_Nn M) - bz_sl kd nf N0) Q (F0 m pc ls (.ref x :: rest))) (rowN : ∀ rest, i < nL → (∀ ls' : Array Slot, lv_has ls' nL ((i, Value.null) :: (bz_lv ad L).filter (fun q => !(q.1 == i) && !(q.1 + 1 == i && q.2.category == 2))) → W p l e R s m args below meth c H locs (bz_Nn M - N0) (bz_sl kd nf (bz_Nn M) - bz_sl kd nf N0) Q (F0 m (pc') ls' rest)) → W p l e R s m args below meth c H locs (bz_Nn M - N0) (bz_sl kd nf (bz_Nn M) - bz_sl kd nf N0) Q (F0 m pc ls (.null :: rest))) (ho : bz_stA pc' L st M i = some (.inr (.inl (q1, q2, q3, q4)))) (kk : (∀ (ad' : Nat → Nat) (H' : Heap) (locs' : List Loc) (ls' : Array Slot), bz_Inv kd tc nf cA wl w sM sf sc D cl A s nL N0 ad0 q2 q3 q4 ad' H' locs' ls' → W p l e R s m args below meth c H' locs' (bz_Nn q4 - N0) (bz_sl kd nf (bz_Nn q4) - bz_sl kd nf N0) Q (F0 m q1 ls' (q3.map (bz_mv ad'))))) : W p l e R s m args below meth c H locs (bz_Nn M - N0) (bz_sl kd nf (bz_Nn M) - bz_sl kd nf N0) Q (F0 m pc ls (st.map (bz_mv ad))) := by
  unfold bz_stA at ho
  split at ho
  · rename_i x st'
    split at ho
    · rename_i hi
      obtain ⟨rfl, rfl, rfl, rfl⟩ := bz_Nx ho
      have hi' : i < nL := by rw [← hI.lr.2.2.1]; exact hi
      have h2 := fun (ls' : Array Slot) h' => kk ad H locs ls' (hI.loc hI.Sw.tail (hI.lr.st1 (v := .inr (.inr x)) hi' h') (hI.Lw.st1 hI.Sw.head))
      by_cases e : x = 0
      · subst e
        exact rowN _ hi' h2
      · have e1 : bz_mv ad (.inr (.inr x)) = .ref (ad x) := by unfold bz_mv; dsimp only; rw [if_neg e]
        rw [e1] at h2
        rw [List.map_cons, e1]
        exact row _ _ hi' h2
    · cases ho
  · cases ho
theorem bz_h_inc {pc' q1 i : Nat} {n : Int} {q2 : bz_Ls} {q3 : bz_S} {q4 : bz_M} (hI : bz_Inv kd tc nf cA wl w sM sf sc D cl A s nL N0 ad0 L st M ad H locs ls) (row : ∀ (x : Int32) (k : Nat) rest, (bz_lv ad L)[k]? = some (i, .int x) → i < nL → (∀ ls' : Array Slot, lv_has ls' nL ((i, Value.int (x + Int32.ofInt n)) :: (bz_lv ad L).filter (fun q => !(q.1 == i) && !(q.1 + 1 == i && q.2.category == 2))) → W p l e R s m args below meth c H locs (bz_Nn M - N0) (bz_sl kd nf (bz_Nn M) - bz_sl kd nf N0) Q (F0 m (pc') ls' rest)) → W p l e R s m args below meth c H locs (bz_Nn M - N0) (bz_sl kd nf (bz_Nn M) - bz_sl kd nf N0) Q (F0 m pc ls rest)) (ho : bz_inc pc' L st M i n = some (.inr (.inl (q1, q2, q3, q4)))) (kk : (∀ (ad' : Nat → Nat) (H' : Heap) (locs' : List Loc) (ls' : Array Slot), bz_Inv kd tc nf cA wl w sM sf sc D cl A s nL N0 ad0 q2 q3 q4 ad' H' locs' ls' → W p l e R s m args below meth c H' locs' (bz_Nn q4 - N0) (bz_sl kd nf (bz_Nn q4) - bz_sl kd nf N0) Q (F0 m q1 ls' (q3.map (bz_mv ad'))))) : W p l e R s m args below meth c H locs (bz_Nn M - N0) (bz_sl kd nf (bz_Nn M) - bz_sl kd nf N0) Q (F0 m pc ls (st.map (bz_mv ad))) := by
  unfold bz_inc at ho
  split at ho
  · rename_i x hx
    obtain ⟨rfl, rfl, rfl, rfl⟩ := bz_Nx ho
    have hi' : i < nL := by rw [← hI.lr.2.2.1]; exact (List.getElem?_eq_some_iff.mp hx).1
    obtain ⟨k, hk⟩ := List.getElem?_of_mem (bz_lv_mem (ad := ad) (L := L) (i := i) (x := bz_mv ad (.inl x)) |>.mpr ⟨_, hx, rfl⟩)
    refine row _ k _ hk hi' (fun ls' h' => kk ad H locs ls' (hI.loc hI.Sw (hI.lr.st1 hi' ?_) (hI.Lw.st1 (bz_w32_in _))))
    show lv_has ls' nL ((i, Value.int (Int32.ofInt (bz_w32 (x + n)))) :: _)
    rw [bz_o_add]
    exact h'
  · cases ho
theorem bz_h_i1 {pc' q1 : Nat} {q2 : bz_Ls} {q3 : bz_S} {q4 : bz_M} {f : Int → bz_V} (hI : bz_Inv kd tc nf cA wl w sM sf sc D cl A s nL N0 ad0 L st M ad H locs ls) (hf : ∀ a, bz_in32 a → bz_vw (bz_Nn M) (f a)) (row : ∀ (a : Int) rest, bz_in32 a → W p l e R s m args below meth c H locs (bz_Nn M - N0) (bz_sl kd nf (bz_Nn M) - bz_sl kd nf N0) Q (F0 m (pc') ls (bz_mv ad (f a) :: rest)) → W p l e R s m args below meth c H locs (bz_Nn M - N0) (bz_sl kd nf (bz_Nn M) - bz_sl kd nf N0) Q (F0 m pc ls (.int (Int32.ofInt a) :: rest))) (ho : bz_i1 pc' L st M f = some (.inr (.inl (q1, q2, q3, q4)))) (kk : (∀ (ad' : Nat → Nat) (H' : Heap) (locs' : List Loc) (ls' : Array Slot), bz_Inv kd tc nf cA wl w sM sf sc D cl A s nL N0 ad0 q2 q3 q4 ad' H' locs' ls' → W p l e R s m args below meth c H' locs' (bz_Nn q4 - N0) (bz_sl kd nf (bz_Nn q4) - bz_sl kd nf N0) Q (F0 m q1 ls' (q3.map (bz_mv ad'))))) : W p l e R s m args below meth c H locs (bz_Nn M - N0) (bz_sl kd nf (bz_Nn M) - bz_sl kd nf N0) Q (F0 m pc ls (st.map (bz_mv ad))) := by
  unfold bz_i1 at ho
  split at ho
  · obtain ⟨rfl, rfl, rfl, rfl⟩ := bz_Nx ho
    exact row _ _ hI.Sw.head (kk ad H locs ls (hI.sw (hI.Sw.tail.cons (hf _ hI.Sw.head))))
  · cases ho
theorem bz_h_l1 {pc' q1 : Nat} {q2 : bz_Ls} {q3 : bz_S} {q4 : bz_M} {f : Int → bz_V} (hI : bz_Inv kd tc nf cA wl w sM sf sc D cl A s nL N0 ad0 L st M ad H locs ls) (hf : ∀ a, bz_in64 a → bz_vw (bz_Nn M) (f a)) (row : ∀ (a : Int) rest, bz_in64 a → W p l e R s m args below meth c H locs (bz_Nn M - N0) (bz_sl kd nf (bz_Nn M) - bz_sl kd nf N0) Q (F0 m (pc') ls (bz_mv ad (f a) :: rest)) → W p l e R s m args below meth c H locs (bz_Nn M - N0) (bz_sl kd nf (bz_Nn M) - bz_sl kd nf N0) Q (F0 m pc ls (.long (Int64.ofInt a) :: rest))) (ho : bz_l1 pc' L st M f = some (.inr (.inl (q1, q2, q3, q4)))) (kk : (∀ (ad' : Nat → Nat) (H' : Heap) (locs' : List Loc) (ls' : Array Slot), bz_Inv kd tc nf cA wl w sM sf sc D cl A s nL N0 ad0 q2 q3 q4 ad' H' locs' ls' → W p l e R s m args below meth c H' locs' (bz_Nn q4 - N0) (bz_sl kd nf (bz_Nn q4) - bz_sl kd nf N0) Q (F0 m q1 ls' (q3.map (bz_mv ad'))))) : W p l e R s m args below meth c H locs (bz_Nn M - N0) (bz_sl kd nf (bz_Nn M) - bz_sl kd nf N0) Q (F0 m pc ls (st.map (bz_mv ad))) := by
  unfold bz_l1 at ho
  split at ho
  · obtain ⟨rfl, rfl, rfl, rfl⟩ := bz_Nx ho
    exact row _ _ hI.Sw.head (kk ad H locs ls (hI.sw (hI.Sw.tail.cons (hf _ hI.Sw.head))))
  · cases ho
theorem bz_h_i2 {pc' q1 : Nat} {q2 : bz_Ls} {q3 : bz_S} {q4 : bz_M} {f : Int → Int → Int} (hI : bz_Inv kd tc nf cA wl w sM sf sc D cl A s nL N0 ad0 L st M ad H locs ls) (hf : ∀ a b, bz_in32 a → bz_in32 b → bz_in32 (f a b)) (row : ∀ (a b : Int) rest, bz_in32 a → bz_in32 b → W p l e R s m args below meth c H locs (bz_Nn M - N0) (bz_sl kd nf (bz_Nn M) - bz_sl kd nf N0) Q (F0 m (pc') ls (.int (Int32.ofInt (f a b)) :: rest)) → W p l e R s m args below meth c H locs (bz_Nn M - N0) (bz_sl kd nf (bz_Nn M) - bz_sl kd nf N0) Q (F0 m pc ls (.int (Int32.ofInt b) :: .int (Int32.ofInt a) :: rest))) (ho : bz_i2 pc' L st M f = some (.inr (.inl (q1, q2, q3, q4)))) (kk : (∀ (ad' : Nat → Nat) (H' : Heap) (locs' : List Loc) (ls' : Array Slot), bz_Inv kd tc nf cA wl w sM sf sc D cl A s nL N0 ad0 q2 q3 q4 ad' H' locs' ls' → W p l e R s m args below meth c H' locs' (bz_Nn q4 - N0) (bz_sl kd nf (bz_Nn q4) - bz_sl kd nf N0) Q (F0 m q1 ls' (q3.map (bz_mv ad'))))) : W p l e R s m args below meth c H locs (bz_Nn M - N0) (bz_sl kd nf (bz_Nn M) - bz_sl kd nf N0) Q (F0 m pc ls (st.map (bz_mv ad))) := by
  unfold bz_i2 at ho
  split at ho
  · obtain ⟨rfl, rfl, rfl, rfl⟩ := bz_Nx ho
    exact row _ _ _ hI.Sw.tail.head hI.Sw.head (kk ad H locs ls (hI.sw (hI.Sw.tail.tail.cons (hf _ _ hI.Sw.tail.head hI.Sw.head))))
  · cases ho
theorem bz_h_i2d {pc' q1 : Nat} {q2 : bz_Ls} {q3 : bz_S} {q4 : bz_M} {f : Int → Int → Int} (hI : bz_Inv kd tc nf cA wl w sM sf sc D cl A s nL N0 ad0 L st M ad H locs ls) (hf : ∀ a b, bz_in32 a → bz_in32 b → bz_in32 (f a b)) (row : ∀ (a b : Int) rest, bz_in32 a → bz_in32 b → b ≠ 0 → W p l e R s m args below meth c H locs (bz_Nn M - N0) (bz_sl kd nf (bz_Nn M) - bz_sl kd nf N0) Q (F0 m (pc') ls (.int (Int32.ofInt (f a b)) :: rest)) → W p l e R s m args below meth c H locs (bz_Nn M - N0) (bz_sl kd nf (bz_Nn M) - bz_sl kd nf N0) Q (F0 m pc ls (.int (Int32.ofInt b) :: .int (Int32.ofInt a) :: rest))) (ho : bz_i2d pc' L st M f = some (.inr (.inl (q1, q2, q3, q4)))) (kk : (∀ (ad' : Nat → Nat) (H' : Heap) (locs' : List Loc) (ls' : Array Slot), bz_Inv kd tc nf cA wl w sM sf sc D cl A s nL N0 ad0 q2 q3 q4 ad' H' locs' ls' → W p l e R s m args below meth c H' locs' (bz_Nn q4 - N0) (bz_sl kd nf (bz_Nn q4) - bz_sl kd nf N0) Q (F0 m q1 ls' (q3.map (bz_mv ad'))))) : W p l e R s m args below meth c H locs (bz_Nn M - N0) (bz_sl kd nf (bz_Nn M) - bz_sl kd nf N0) Q (F0 m pc ls (st.map (bz_mv ad))) := by
  unfold bz_i2d at ho
  split at ho
  · split at ho
    · cases ho
    · rename_i hb
      obtain ⟨rfl, rfl, rfl, rfl⟩ := bz_Nx ho
      exact row _ _ _ hI.Sw.tail.head hI.Sw.head hb (kk ad H locs ls (hI.sw (hI.Sw.tail.tail.cons (hf _ _ hI.Sw.tail.head hI.Sw.head))))
  · cases ho
theorem bz_h_l2 {pc' q1 : Nat} {q2 : bz_Ls} {q3 : bz_S} {q4 : bz_M} {f : Int → Int → bz_V} (hI : bz_Inv kd tc nf cA wl w sM sf sc D cl A s nL N0 ad0 L st M ad H locs ls) (hf : ∀ a b, bz_in64 a → bz_in64 b → bz_vw (bz_Nn M) (f a b)) (row : ∀ (a b : Int) rest, bz_in64 a → bz_in64 b → W p l e R s m args below meth c H locs (bz_Nn M - N0) (bz_sl kd nf (bz_Nn M) - bz_sl kd nf N0) Q (F0 m (pc') ls (bz_mv ad (f a b) :: rest)) → W p l e R s m args below meth c H locs (bz_Nn M - N0) (bz_sl kd nf (bz_Nn M) - bz_sl kd nf N0) Q (F0 m pc ls (.long (Int64.ofInt b) :: .long (Int64.ofInt a) :: rest))) (ho : bz_l2 pc' L st M f = some (.inr (.inl (q1, q2, q3, q4)))) (kk : (∀ (ad' : Nat → Nat) (H' : Heap) (locs' : List Loc) (ls' : Array Slot), bz_Inv kd tc nf cA wl w sM sf sc D cl A s nL N0 ad0 q2 q3 q4 ad' H' locs' ls' → W p l e R s m args below meth c H' locs' (bz_Nn q4 - N0) (bz_sl kd nf (bz_Nn q4) - bz_sl kd nf N0) Q (F0 m q1 ls' (q3.map (bz_mv ad'))))) : W p l e R s m args below meth c H locs (bz_Nn M - N0) (bz_sl kd nf (bz_Nn M) - bz_sl kd nf N0) Q (F0 m pc ls (st.map (bz_mv ad))) := by
  unfold bz_l2 at ho
  split at ho
  · obtain ⟨rfl, rfl, rfl, rfl⟩ := bz_Nx ho
    exact row _ _ _ hI.Sw.tail.head hI.Sw.head (kk ad H locs ls (hI.sw (hI.Sw.tail.tail.cons (hf _ _ hI.Sw.tail.head hI.Sw.head))))
  · cases ho
theorem bz_h_l2d {pc' q1 : Nat} {q2 : bz_Ls} {q3 : bz_S} {q4 : bz_M} {f : Int → Int → Int} (hI : bz_Inv kd tc nf cA wl w sM sf sc D cl A s nL N0 ad0 L st M ad H locs ls) (hf : ∀ a b, bz_in64 a → bz_in64 b → bz_in64 (f a b)) (row : ∀ (a b : Int) rest, bz_in64 a → bz_in64 b → b ≠ 0 → W p l e R s m args below meth c H locs (bz_Nn M - N0) (bz_sl kd nf (bz_Nn M) - bz_sl kd nf N0) Q (F0 m (pc') ls (.long (Int64.ofInt (f a b)) :: rest)) → W p l e R s m args below meth c H locs (bz_Nn M - N0) (bz_sl kd nf (bz_Nn M) - bz_sl kd nf N0) Q (F0 m pc ls (.long (Int64.ofInt b) :: .long (Int64.ofInt a) :: rest))) (ho : bz_l2d pc' L st M f = some (.inr (.inl (q1, q2, q3, q4)))) (kk : (∀ (ad' : Nat → Nat) (H' : Heap) (locs' : List Loc) (ls' : Array Slot), bz_Inv kd tc nf cA wl w sM sf sc D cl A s nL N0 ad0 q2 q3 q4 ad' H' locs' ls' → W p l e R s m args below meth c H' locs' (bz_Nn q4 - N0) (bz_sl kd nf (bz_Nn q4) - bz_sl kd nf N0) Q (F0 m q1 ls' (q3.map (bz_mv ad'))))) : W p l e R s m args below meth c H locs (bz_Nn M - N0) (bz_sl kd nf (bz_Nn M) - bz_sl kd nf N0) Q (F0 m pc ls (st.map (bz_mv ad))) := by
  unfold bz_l2d at ho
  split at ho
  · split at ho
    · cases ho
    · rename_i hb
      obtain ⟨rfl, rfl, rfl, rfl⟩ := bz_Nx ho
      exact row _ _ _ hI.Sw.tail.head hI.Sw.head hb (kk ad H locs ls (hI.sw (hI.Sw.tail.tail.cons (hf _ _ hI.Sw.tail.head hI.Sw.head))))
  · cases ho
theorem bz_h_dup {pc' q1 : Nat} {q2 : bz_Ls} {q3 : bz_S} {q4 : bz_M} (hI : bz_Inv kd tc nf cA wl w sM sf sc D cl A s nL N0 ad0 L st M ad H locs ls) (row : ∀ (v : Value) rest, v.category = 1 → W p l e R s m args below meth c H locs (bz_Nn M - N0) (bz_sl kd nf (bz_Nn M) - bz_sl kd nf N0) Q (F0 m (pc') ls (v :: v :: rest)) → W p l e R s m args below meth c H locs (bz_Nn M - N0) (bz_sl kd nf (bz_Nn M) - bz_sl kd nf N0) Q (F0 m pc ls (v :: rest))) (ho : bz_dup pc' L st M = some (.inr (.inl (q1, q2, q3, q4)))) (kk : (∀ (ad' : Nat → Nat) (H' : Heap) (locs' : List Loc) (ls' : Array Slot), bz_Inv kd tc nf cA wl w sM sf sc D cl A s nL N0 ad0 q2 q3 q4 ad' H' locs' ls' → W p l e R s m args below meth c H' locs' (bz_Nn q4 - N0) (bz_sl kd nf (bz_Nn q4) - bz_sl kd nf N0) Q (F0 m q1 ls' (q3.map (bz_mv ad'))))) : W p l e R s m args below meth c H locs (bz_Nn M - N0) (bz_sl kd nf (bz_Nn M) - bz_sl kd nf N0) Q (F0 m pc ls (st.map (bz_mv ad))) := by
  unfold bz_dup at ho
  split at ho
  · obtain ⟨rfl, rfl, rfl, rfl⟩ := bz_Nx ho
    exact row _ _ (bz_cat_mv ad _) (kk ad H locs ls (hI.sw (hI.Sw.cons hI.Sw.head)))
  · obtain ⟨rfl, rfl, rfl, rfl⟩ := bz_Nx ho
    exact row _ _ (bz_cat_mv ad _) (kk ad H locs ls (hI.sw (hI.Sw.cons hI.Sw.head)))
  · cases ho
theorem bz_h_dup2 {pc' q1 : Nat} {q2 : bz_Ls} {q3 : bz_S} {q4 : bz_M} (hI : bz_Inv kd tc nf cA wl w sM sf sc D cl A s nL N0 ad0 L st M ad H locs ls) (row : ∀ (u v : Value) rest, u.category = 1 → v.category = 1 → W p l e R s m args below meth c H locs (bz_Nn M - N0) (bz_sl kd nf (bz_Nn M) - bz_sl kd nf N0) Q (F0 m (pc') ls (u :: v :: u :: v :: rest)) → W p l e R s m args below meth c H locs (bz_Nn M - N0) (bz_sl kd nf (bz_Nn M) - bz_sl kd nf N0) Q (F0 m pc ls (u :: v :: rest))) (ho : bz_dup2 pc' L st M = some (.inr (.inl (q1, q2, q3, q4)))) (kk : (∀ (ad' : Nat → Nat) (H' : Heap) (locs' : List Loc) (ls' : Array Slot), bz_Inv kd tc nf cA wl w sM sf sc D cl A s nL N0 ad0 q2 q3 q4 ad' H' locs' ls' → W p l e R s m args below meth c H' locs' (bz_Nn q4 - N0) (bz_sl kd nf (bz_Nn q4) - bz_sl kd nf N0) Q (F0 m q1 ls' (q3.map (bz_mv ad'))))) : W p l e R s m args below meth c H locs (bz_Nn M - N0) (bz_sl kd nf (bz_Nn M) - bz_sl kd nf N0) Q (F0 m pc ls (st.map (bz_mv ad))) := by
  unfold bz_dup2 at ho
  split at ho
  · obtain ⟨rfl, rfl, rfl, rfl⟩ := bz_Nx ho
    exact row _ _ _ (bz_cat_mv ad _) (bz_cat_mv ad _) (kk ad H locs ls (hI.sw ((hI.Sw.cons hI.Sw.tail.head).cons hI.Sw.head)))
  · cases ho
theorem bz_h_pop {pc' q1 : Nat} {q2 : bz_Ls} {q3 : bz_S} {q4 : bz_M} (hI : bz_Inv kd tc nf cA wl w sM sf sc D cl A s nL N0 ad0 L st M ad H locs ls) (row : ∀ (v : Value) rest, v.category = 1 → W p l e R s m args below meth c H locs (bz_Nn M - N0) (bz_sl kd nf (bz_Nn M) - bz_sl kd nf N0) Q (F0 m (pc') ls rest) → W p l e R s m args below meth c H locs (bz_Nn M - N0) (bz_sl kd nf (bz_Nn M) - bz_sl kd nf N0) Q (F0 m pc ls (v :: rest))) (ho : bz_pop pc' L st M = some (.inr (.inl (q1, q2, q3, q4)))) (kk : (∀ (ad' : Nat → Nat) (H' : Heap) (locs' : List Loc) (ls' : Array Slot), bz_Inv kd tc nf cA wl w sM sf sc D cl A s nL N0 ad0 q2 q3 q4 ad' H' locs' ls' → W p l e R s m args below meth c H' locs' (bz_Nn q4 - N0) (bz_sl kd nf (bz_Nn q4) - bz_sl kd nf N0) Q (F0 m q1 ls' (q3.map (bz_mv ad'))))) : W p l e R s m args below meth c H locs (bz_Nn M - N0) (bz_sl kd nf (bz_Nn M) - bz_sl kd nf N0) Q (F0 m pc ls (st.map (bz_mv ad))) := by
  unfold bz_pop at ho
  split at ho
  · obtain ⟨rfl, rfl, rfl, rfl⟩ := bz_Nx ho
    exact row _ _ (bz_cat_mv ad _) (kk ad H locs ls (hI.sw hI.Sw.tail))
  · obtain ⟨rfl, rfl, rfl, rfl⟩ := bz_Nx ho
    exact row _ _ (bz_cat_mv ad _) (kk ad H locs ls (hI.sw hI.Sw.tail))
  · cases ho
def bz_hd (c : ClassFile.Cond) (X Y : Int32) : Prop := match c with
  | .eq => X = Y
  | .ne => ¬ X = Y
  | .lt => X < Y
  | .ge => Y ≤ X
  | .gt => Y < X
  | .le => X ≤ Y
theorem bz_h_br {c0 : ClassFile.Cond} {x y : Int} {t p2 q1 : Nat} {q2 : bz_Ls} {q3 : bz_S} {q4 : bz_M} (hx : bz_in32 x) (hy : bz_in32 y) (hI : bz_Inv kd tc nf cA wl w sM sf sc D cl A s nL N0 ad0 L st M ad H locs ls) (ho : bz_br c0 x y (bz_nx t L st M) (bz_nx p2 L st M) = some (.inr (.inl (q1, q2, q3, q4)))) (kk : (∀ (ad' : Nat → Nat) (H' : Heap) (locs' : List Loc) (ls' : Array Slot), bz_Inv kd tc nf cA wl w sM sf sc D cl A s nL N0 ad0 q2 q3 q4 ad' H' locs' ls' → W p l e R s m args below meth c H' locs' (bz_Nn q4 - N0) (bz_sl kd nf (bz_Nn q4) - bz_sl kd nf N0) Q (F0 m q1 ls' (q3.map (bz_mv ad'))))) : (bz_hd c0 (Int32.ofInt x) (Int32.ofInt y) → W p l e R s m args below meth c H locs (bz_Nn M - N0) (bz_sl kd nf (bz_Nn M) - bz_sl kd nf N0) Q (F0 m t ls (st.map (bz_mv ad)))) ∧ (¬ bz_hd c0 (Int32.ofInt x) (Int32.ofInt y) → W p l e R s m args below meth c H locs (bz_Nn M - N0) (bz_sl kd nf (bz_Nn M) - bz_sl kd nf N0) Q (F0 m p2 ls (st.map (bz_mv ad)))) := by
  have e1 := bz_oinj hx hy
  have e2 := bz_olt hx hy
  have e3 := bz_olt hy hx
  have e4 := bz_ole hx hy
  have e5 := bz_ole hy hx
  have g : ∀ {a : Nat}, bz_nx a L st M = some (.inr (.inl (q1, q2, q3, q4))) → W p l e R s m args below meth c H locs (bz_Nn M - N0) (bz_sl kd nf (bz_Nn M) - bz_sl kd nf N0) Q (F0 m a ls (st.map (bz_mv ad))) := by
    intro a ha
    obtain ⟨rfl, rfl, rfl, rfl⟩ := bz_Nx ha
    exact kk ad H locs ls hI
  cases c0 <;> unfold bz_br at ho <;> unfold bz_hd <;> dsimp only at ho ⊢ <;> split at ho <;> rename_i hc <;> refine ⟨fun hh => ?_, fun hh => ?_⟩
  all_goals first
    | exact g ho
    | exact absurd hh (by rw [e1]; exact hc)
    | exact absurd (e1.mpr hc) hh
    | exact absurd (e1.mp hh) hc
    | exact absurd (e2.mpr hc) hh
    | exact absurd (e2.mp hh) hc
    | exact absurd (e3.mpr hc) hh
    | exact absurd (e3.mp hh) hc
    | (have := e4.mp hh; omega)
    | (have := e5.mp hh; omega)
    | exact absurd (e4.mpr (by omega)) hh
    | exact absurd (e5.mpr (by omega)) hh
    | exact absurd (fun h => hc (e1.mp h)) hh
end SS

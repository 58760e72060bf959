/-! ONE INSTRUCTION (2): the heap, constants, switches -/
/-- what the tables of regions, classes and words have to do with one another -/
def bz_Cok (kd : Nat → Option bz_Kd) (tc : Nat → Nat → Nat) (nf : Nat → Nat) (cl : List vw_C) (Ts : List Cond) (fty : Nat → Nat → FieldType) : Prop :=
  kd 0 = none ∧
  (∀ r ci, kd r = some (.inl ci) → (r ≤ bz_ns ↔ 12 ≤ ci)) ∧
  (∀ r t n, kd r = some (.inr (t, n)) → n < 2147483648 ∧ (bz_ns < r → t < 6 ∧ n * 8 ≤ 536870912) ∧ (r ≤ bz_ns → t = 0 ∨ t = 2 ∨ t = 6)) ∧
  (∀ ci C T n, cl[ci]? = some (C, T, n) → nf ci = n ∧ (∀ w ∈ u_ws C T n, w ∈ Ts) ∧ (∀ k, k < n → parseFieldDescriptor (T k).2.2.1 = some (fty ci k)) ∧ (∀ a, a < n → ∀ b, b < n → a ≠ b → (T a).2.1 ≠ (T b).2.1) ∧ (∀ k, k < n → (tc ci k = 0 ∧ fty ci k = .int) ∨ (tc ci k = 4 ∧ fty ci k = .boolean) ∨ (tc ci k = 1 ∧ fty ci k = .long) ∨ (tc ci k = 2 ∧ ((∃ z, fty ci k = .object z) ∨ ∃ z, fty ci k = .array z)))) ∧
  cl.length = 12 ∧ ∃ T n, cl[7]? = some ("BentRiver$State", T, n)
def bz_okG (cl : List vw_C) (sc : bz_Sc) (tc : Nat → Nat → Nat) (Ts : List Cond) (own : String) (idx : Nat) (i : List Nat) : Prop :=
  ((∃ C T n, cl[i.getD 0 0]? = some (C, T, n) ∧ i.getD 1 0 < n ∧ Cond.fieldLink own idx (T (i.getD 1 0)).1 (T (i.getD 1 0)).2.1 (T (i.getD 1 0)).2.2.1 ∈ Ts) ∨ (12 ≤ i.getD 0 0 ∧ ∃ q, sc (i.getD 0 0) = some q ∧ i.getD 1 0 < q.2.2 ∧ Cond.fieldLink own idx (q.2.1 (i.getD 1 0)).1 (q.2.1 (i.getD 1 0)).2.1 (q.2.1 (i.getD 1 0)).2.2 ∈ Ts)) ∧
  ((i.getD 2 9 = 0 ∧ (tc (i.getD 0 0) (i.getD 1 0) = 0 ∨ tc (i.getD 0 0) (i.getD 1 0) = 4)) ∨ (i.getD 2 9 = 1 ∧ tc (i.getD 0 0) (i.getD 1 0) = 1) ∨ ((i.getD 2 9 = 2 ∨ i.getD 2 9 = 3) ∧ tc (i.getD 0 0) (i.getD 1 0) = 2))
def bz_okP (cl : List vw_C) (tc : Nat → Nat → Nat) (Ts : List Cond) (y : MethodName) (idx : Nat) (i : List Nat) : Prop :=
  (∃ C T n, cl[i.getD 0 0]? = some (C, T, n) ∧ i.getD 1 0 < n ∧ Cond.fieldLink y.cls idx (T (i.getD 1 0)).1 (T (i.getD 1 0)).2.1 (T (i.getD 1 0)).2.2.1 ∈ Ts ∧ ((T (i.getD 1 0)).2.2.2 = false ∨ (y.name = "<init>" ∧ (T (i.getD 1 0)).1 = y.cls))) ∧ i.getD 2 9 = tc (i.getD 0 0) (i.getD 1 0)
section SH
variable {p : Program} {l : Launch} {e : Env} {R : Room} {s : State} {m : MethodId} {args : Array Value} {below : List Frame} {meth : Method} {c : Code} {H : Heap} {locs : List Loc} {Q : State → Prop}
variable {cc : ByteArray} {pc : Nat} {ls : Array Slot} {D : va_G} {cl : List vw_C} {A : Nat → Prop}
variable {kd : Nat → Option bz_Kd} {tc : Nat → Nat → Nat} {nf : Nat → Nat} {cA : Nat → ClassId} {wl : List (Nat × Nat × Nat)} {w : Bool} {sM : bz_M} {sf : List (String × String × String × bz_V)} {sc : bz_Sc} {ad ad0 : Nat → Nat} {M : bz_M} {Ts : List Cond} {nL N0 : Nat} {L : bz_Ls} {st : bz_S}
theorem bz_val_mv0 {t : Nat} {x : Int} (h : t = 0 ∨ t = 4) : bz_val ad t x = bz_mv ad (.inl x) := by
  rcases h with rfl | rfl <;> rfl
theorem bz_val_mv2 {x : Int} : bz_val ad 2 x = bz_mv ad (.inr (.inr x.toNat)) := rfl
theorem bz_rg0 {t N : Nat} {x : Int} (h : t = 0 ∨ t = 4) (hr : bz_rg t N x) : bz_in32 x := by
  rcases h with rfl | rfl <;> exact hr
theorem bz_clt (hC : ∀ {fty : Nat → Nat → FieldType}, bz_Cok kd tc nf cl Ts fty → True) {fty : Nat → Nat → FieldType} (hc : bz_Cok kd tc nf cl Ts fty) {ci : Nat} {q : vw_C} (h : cl[ci]? = some q) : ci < 12 := by
  have h1 := (List.getElem?_eq_some_iff.mp h).1
  rw [hc.2.2.2.2.1] at h1
  exact h1
/-- a field of an object, wherever it lies -/
theorem bz_h_get {y : MethodName} {wr : Nat → Nat → Nat} {fty : Nat → Nat → FieldType} {idx q1 : Nat} {q2 : bz_Ls} {q3 : bz_S} {q4 : bz_M} {i : List Nat} (hx : p.tables.exec = Jvm.exec) (hb : c.code = cc) (hts : ∀ w ∈ Ts, w.before args s = true) (hown : s.vm.findClass y.cls = some m.cls) (hK : va_K D cl (bz_tys cA) s) (hC : bz_Cok kd tc nf cl Ts fty) (hwl : ∀ r k, wr r k ≠ 0 → (r, k, wr r k) ∈ wl) (hok : bz_okG cl sc tc Ts y.cls idx i) (hdg : decode cc pc = .ok (.getfield idx, 3)) (hI : bz_Inv kd tc nf cA wl w sM sf sc D cl A s nL N0 ad0 L st M ad H locs ls) (ho : bz_get kd wr w i (pc + 3) L st M = some (.inr (.inl (q1, q2, q3, q4)))) (kk : (∀ (ad' : Nat → Nat) (H' : Heap) (locs' : List Loc) (ls' : Array Slot), bz_Inv kd tc nf cA wl w sM sf sc D cl A s nL N0 ad0 q2 q3 q4 ad' H' locs' ls' → W p l e R s m args below meth c H' locs' (bz_Nn q4 - N0) (bz_sl kd nf (bz_Nn q4) - bz_sl kd nf N0) Q (F0 m q1 ls' (q3.map (bz_mv ad'))))) : W p l e R s m args below meth c H locs (bz_Nn M - N0) (bz_sl kd nf (bz_Nn M) - bz_sl kd nf N0) Q (F0 m pc ls (st.map (bz_mv ad))) := by
  unfold bz_get at ho
  split at ho
  · rename_i r st'
    split at ho
    · rename_i hkd
      have hr0 : r ≠ 0 := fun e => by rw [e, hC.1] at hkd; cases hkd
      have hrN : r ≤ bz_Nn M := hI.Sw.head
      have e1 : bz_mv ad (.inr (.inr r)) = .ref (ad r) := by unfold bz_mv; dsimp only; rw [if_neg hr0]
      have htr : bz_tr kd tc r (i.getD 1 0) = tc (i.getD 0 0) (i.getD 1 0) := by unfold bz_tr; rw [hkd]
      have hrg := hI.wf.2.1 r (i.getD 1 0) hr0 hrN
      rw [htr] at hrg
      -- the row, at the value as the world has it
      have row : ∀ v : bz_V, bz_val ad (tc (i.getD 0 0) (i.getD 1 0)) (M r (i.getD 1 0)) = bz_mv ad v → W p l e R s m args below meth c H locs (bz_Nn M - N0) (bz_sl kd nf (bz_Nn M) - bz_sl kd nf N0) Q (F0 m (pc + 3) ls (bz_mv ad v :: st'.map (bz_mv ad))) → W p l e R s m args below meth c H locs (bz_Nn M - N0) (bz_sl kd nf (bz_Nn M) - bz_sl kd nf N0) Q (F0 m pc ls ((Sum.inr (Sum.inr r) :: st').map (bz_mv ad))) := by
        intro v hv k
        rw [List.map_cons, e1]
        rcases hok.1 with ⟨C, T, n, h1, h2, h3⟩ | ⟨h1, q, h2, h3, h4⟩
        · have hci : i.getD 0 0 < 12 := bz_clt (fun _ => trivial) hC h1
          have hns : bz_ns < r := by
            have := hC.2.1 r _ hkd
            omega
          have hcc := hC.2.2.2.1 _ C T n h1
          exact bz_Wget hx hb hts hown hK hI.iP hkd hns hrN h1 hcc.2.1 h2 hcc.1 h3 hdg (by rw [hv]; exact k)
        · have hns : r ≤ bz_ns := (hC.2.1 r _ hkd).mpr h1
          obtain ⟨q', g1, g2, g3⟩ := hI.St.2.2.1 r _ hr0 hns hkd
          rw [h2] at g1
          cases g1
          have h5 := g3 _ h3
          rw [← hI.wf.2.2.1 r hr0 hns] at h5
          exact vk_getf hx hb h5 hI.iS hown (hts _ h4) (fun _ h => h) hdg (by rw [hv]; exact k)
      split at ho
      · rename_i ht
        obtain ⟨rfl, rfl, rfl, rfl⟩ := bz_Nx ho
        have ht0 : tc (i.getD 0 0) (i.getD 1 0) = 0 ∨ tc (i.getD 0 0) (i.getD 1 0) = 4 := by
          rcases hok.2 with ⟨-, h⟩ | ⟨h, -⟩ | ⟨h | h, -⟩
          · exact h
          · rw [ht] at h; cases h
          · rw [ht] at h; cases h
          · rw [ht] at h; cases h
        exact row (.inl (M r (i.getD 1 0))) (bz_val_mv0 ht0) (kk ad H locs ls (hI.sw (hI.Sw.tail.cons (bz_rg0 ht0 hrg))))
      · rename_i ht
        obtain ⟨rfl, rfl, rfl, rfl⟩ := bz_Nx ho
        have ht1 : tc (i.getD 0 0) (i.getD 1 0) = 1 := by
          rcases hok.2 with ⟨h, -⟩ | ⟨-, h⟩ | ⟨h | h, -⟩
          · rw [ht] at h; cases h
          · exact h
          · rw [ht] at h; cases h
          · rw [ht] at h; cases h
        rw [ht1] at hrg
        exact row (.inr (.inl (M r (i.getD 1 0)))) (by rw [ht1]; rfl) (kk ad H locs ls (hI.sw (hI.Sw.tail.cons hrg)))
      · rename_i ht
        obtain ⟨rfl, rfl, rfl, rfl⟩ := bz_Nx ho
        have ht2 : tc (i.getD 0 0) (i.getD 1 0) = 2 := by
          rcases hok.2 with ⟨h, -⟩ | ⟨h, -⟩ | ⟨-, h⟩
          · rw [ht] at h; cases h
          · rw [ht] at h; cases h
          · exact h
        rw [ht2] at hrg
        exact row (.inr (.inr (M r (i.getD 1 0)).toNat)) (by rw [ht2]; rfl) (kk ad H locs ls (hI.sw (hI.Sw.tail.cons hrg.2)))
      · rename_i ht
        split at ho
        · rename_i hw
          obtain ⟨rfl, rfl, rfl, rfl⟩ := bz_Nx ho
          have ht2 : tc (i.getD 0 0) (i.getD 1 0) = 2 := by
            rcases hok.2 with ⟨h, -⟩ | ⟨h, -⟩ | ⟨-, h⟩
            · rw [ht] at h; cases h
            · rw [ht] at h; cases h
            · exact h
          have hq := (hI.wf.2.2.2 hw.1 _ (hwl _ _ hw.2)).1
          dsimp only at hq
          rw [ht2] at hrg
          have hq2 : (M r (i.getD 1 0)).toNat = wr r (i.getD 1 0) := by rw [hq]; rfl
          refine row (.inr (.inr (wr r (i.getD 1 0)))) (by rw [ht2, ← hq2]; rfl) (kk ad H locs ls (hI.sw (hI.Sw.tail.cons ?_)))
          rw [← hq2]
          exact hrg.2
        · cases ho
      · cases ho
    · cases ho
  · cases ho
theorem bz_h_put {y : MethodName} {wr : Nat → Nat → Nat} {fty : Nat → Nat → FieldType} {idx q1 : Nat} {q2 : bz_Ls} {q3 : bz_S} {q4 : bz_M} {i : List Nat} (hx : p.tables.exec = Jvm.exec) (hb : c.code = cc) (hts : ∀ w ∈ Ts, w.before args s = true) (hown : s.vm.findClass y.cls = some m.cls) (hnm : y.name = "<init>" → meth.name = "<init>") (hK : va_K D cl (bz_tys cA) s) (hC : bz_Cok kd tc nf cl Ts fty) (hwl : ∀ q ∈ wl, wr q.1 q.2.1 ≠ 0) (hok : bz_okP cl tc Ts y idx i) (hdg : decode cc pc = .ok (.putfield idx, 3)) (hI : bz_Inv kd tc nf cA wl w sM sf sc D cl A s nL N0 ad0 L st M ad H locs ls) (ho : bz_put kd wr w i (pc + 3) L st M = some (.inr (.inl (q1, q2, q3, q4)))) (kk : (∀ (ad' : Nat → Nat) (H' : Heap) (locs' : List Loc) (ls' : Array Slot), bz_Inv kd tc nf cA wl w sM sf sc D cl A s nL N0 ad0 q2 q3 q4 ad' H' locs' ls' → W p l e R s m args below meth c H' locs' (bz_Nn q4 - N0) (bz_sl kd nf (bz_Nn q4) - bz_sl kd nf N0) Q (F0 m q1 ls' (q3.map (bz_mv ad'))))) : W p l e R s m args below meth c H locs (bz_Nn M - N0) (bz_sl kd nf (bz_Nn M) - bz_sl kd nf N0) Q (F0 m pc ls (st.map (bz_mv ad))) := by
  unfold bz_put at ho
  split at ho
  · rename_i v r st'
    split at ho
    · rename_i hkd
      obtain ⟨hkd, hwr⟩ := hkd
      have hr0 : r ≠ 0 := fun e => by rw [e, hC.1] at hkd; cases hkd
      have hrN : r ≤ bz_Nn M := hI.Sw.tail.head
      have e1 : bz_mv ad (.inr (.inr r)) = .ref (ad r) := by unfold bz_mv; dsimp only; rw [if_neg hr0]
      have htr : bz_tr kd tc r (i.getD 1 0) = tc (i.getD 0 0) (i.getD 1 0) := by unfold bz_tr; rw [hkd]
      obtain ⟨⟨C, T, n, h1, h2, h3, h4⟩, h5⟩ := hok
      have hci : i.getD 0 0 < 12 := bz_clt (fun _ => trivial) hC h1
      have hns : bz_ns < r := by
        have := hC.2.1 r _ hkd
        omega
      have hcc := hC.2.2.2.1 _ C T n h1
      have hww : w = true → ∀ q ∈ wl, ¬ (q.1 = r ∧ q.2.1 = i.getD 1 0) := fun hw q hq e => hwl q hq (by rw [e.1, e.2]; exact hwr hw)
      have row : ∀ x : Int, bz_mv ad v = bz_val ad (tc (i.getD 0 0) (i.getD 1 0)) x → bz_rg (tc (i.getD 0 0) (i.getD 1 0)) (bz_Nn M) x → narrow (fty (i.getD 0 0) (i.getD 1 0)) (bz_mv ad v) = bz_mv ad v → fits (fty (i.getD 0 0) (i.getD 1 0)) (bz_mv ad v) = true → bz_nx (pc + 3) L st' (bz_up M r (i.getD 1 0) x) = some (.inr (.inl (q1, q2, q3, q4))) → W p l e R s m args below meth c H locs (bz_Nn M - N0) (bz_sl kd nf (bz_Nn M) - bz_sl kd nf N0) Q (F0 m pc ls ((v :: Sum.inr (Sum.inr r) :: st').map (bz_mv ad))) := by
        intro x hv hrg hn hf ho'
        obtain ⟨rfl, rfl, rfl, rfl⟩ := bz_Nx ho'
        rw [List.map_cons, List.map_cons, e1, hv]
        have hN : bz_Nn (bz_up M r (i.getD 1 0) x) = bz_Nn M := bz_Nn_up hr0
        refine bz_Wput hx hb hts hown hK hI.iP hI.iD hI.iS hkd hns hrN h1 hcc.2.1 _ hcc.2.2.1 hcc.2.2.2.1 h2 hcc.1 h3 (h4.elim Or.inl (fun q => Or.inr ⟨hnm q.1, q.2⟩)) (by rw [← hv]; exact hn) (by rw [← hv]; exact hf) hdg (fun H1 locs1 g1 g2 g3 => ?_)
        have := kk ad H1 locs1 ls (hI.mem hI.Sw.tail.tail hns hrN (by rw [htr]; exact hrg) hww g1 g2 g3)
        rw [hN] at this
        exact this
      have hty := hcc.2.2.2.2 _ h2
      rw [← h5] at hty row
      split at ho
      · rename_i ht
        rw [ht] at hty
        have hf : fty (i.getD 0 0) (i.getD 1 0) = .int := by rcases hty with ⟨-, h⟩ | ⟨h, -⟩ | ⟨h, -⟩ | ⟨h, -⟩ <;> first | exact h | cases h
        exact row _ (by rw [ht]; rfl) (by rw [ht]; exact hI.Sw.head) (by rw [hf]; rfl) (by rw [hf]; rfl) ho
      · rename_i ht
        rw [ht] at hty
        have hf : fty (i.getD 0 0) (i.getD 1 0) = .boolean := by rcases hty with ⟨h, -⟩ | ⟨-, h⟩ | ⟨h, -⟩ | ⟨h, -⟩ <;> first | exact h | cases h
        split at ho
        · rename_i hx01
          refine row _ (by rw [ht]; rfl) (by rw [ht]; exact hI.Sw.head) ?_ ?_ ho
          · rw [hf]; rcases hx01 with rfl | rfl <;> rfl
          · rw [hf]; rcases hx01 with rfl | rfl <;> rfl
        · cases ho
      · rename_i ht
        rw [ht] at hty
        have hf : fty (i.getD 0 0) (i.getD 1 0) = .long := by rcases hty with ⟨h, -⟩ | ⟨h, -⟩ | ⟨-, h⟩ | ⟨h, -⟩ <;> first | exact h | cases h
        exact row _ (by rw [ht]; rfl) (by rw [ht]; exact hI.Sw.head) (by rw [hf]; rfl) (by rw [hf]; rfl) ho
      · rename_i x ht
        rw [ht] at hty
        have hf : (∃ z, fty (i.getD 0 0) (i.getD 1 0) = .object z) ∨ ∃ z, fty (i.getD 0 0) (i.getD 1 0) = .array z := by rcases hty with ⟨h, -⟩ | ⟨h, -⟩ | ⟨h, -⟩ | ⟨-, h⟩ <;> first | exact h | cases h
        have e2 : bz_mv ad (.inr (.inr x)) = .null ∨ ∃ a, bz_mv ad (.inr (.inr x)) = .ref a := by
          unfold bz_mv
          dsimp only
          split
          · exact Or.inl rfl
          · exact Or.inr ⟨_, rfl⟩
        refine row _ (by rw [ht]; show _ = bz_mv ad (.inr (.inr ((x : Int)).toNat)); rw [Int.toNat_natCast]) (by rw [ht]; exact ⟨Int.natCast_nonneg x, by rw [Int.toNat_natCast]; exact hI.Sw.head⟩) ?_ ?_ ho
        · rcases hf with ⟨z, hz⟩ | ⟨z, hz⟩ <;> rw [hz] <;> rcases e2 with e2 | ⟨a, e2⟩ <;> rw [e2] <;> rfl
        · rcases hf with ⟨z, hz⟩ | ⟨z, hz⟩ <;> rw [hz] <;> rcases e2 with e2 | ⟨a, e2⟩ <;> rw [e2] <;> rfl
      · cases ho
    · cases ho
  · cases ho
end SH

/-! ONE INSTRUCTION (3): arrays, references, switches, copies -/
section SA
variable {p : Program} {l : Launch} {e : Env} {R : Room} {s : State} {m : MethodId} {args : Array Value} {below : List Frame} {meth : Method} {c : Code} {H : Heap} {locs : List Loc} {Q : State → Prop}
variable {cc : ByteArray} {pc : Nat} {ls : Array Slot} {D : va_G} {cl : List vw_C} {A : Nat → Prop}
variable {kd : Nat → Option bz_Kd} {tc : Nat → Nat → Nat} {nf : Nat → Nat} {cA : Nat → ClassId} {wl : List (Nat × Nat × Nat)} {w : Bool} {sM : bz_M} {sf : List (String × String × String × bz_V)} {sc : bz_Sc} {ad ad0 : Nat → Nat} {M : bz_M} {Ts : List Cond} {nL N0 : Nat} {L : bz_Ls} {st : bz_S}
theorem bz_mvr {r : Nat} (h : r ≠ 0) : bz_mv ad (.inr (.inr r)) = .ref (ad r) := by unfold bz_mv; dsimp only; rw [if_neg h]
theorem bz_trA {r t n k : Nat} (h : kd r = some (.inr (t, n))) : bz_tr kd tc r k = if t = 1 then 1 else if t = 5 ∨ t = 6 then 2 else 0 := by unfold bz_tr; rw [h]
/-- loads: of rows that come and go, of rows that stand -/
theorem bz_h_ald {fty : Nat → Nat → FieldType} {pc' q1 : Nat} {ts : List Nat} {f : Int → bz_V} {q2 : bz_Ls} {q3 : bz_S} {q4 : bz_M} (hC : bz_Cok kd tc nf cl Ts fty) (hI : bz_Inv kd tc nf cA wl w sM sf sc D cl A s nL N0 ad0 L st M ad H locs ls)
    (hf : ∀ t r x, t ∈ ts → bz_rg (if t = 1 then 1 else if t = 5 ∨ t = 6 then 2 else 0) (bz_Nn M) x → kd r = kd r → bz_vw (bz_Nn M) (f x))
    (rowD : ∀ (r t n : Nat) (j : Int) rest, t ∈ ts → kd r = some (.inr (t, n)) → bz_ns < r → r ≤ bz_Nn M → t < 6 → vp_in (Int32.ofInt j) n → (Int32.ofInt j).toNatClampNeg = j.toNat → W p l e R s m args below meth c H locs (bz_Nn M - N0) (bz_sl kd nf (bz_Nn M) - bz_sl kd nf N0) Q (F0 m (pc') ls (bz_mv ad (f (M r j.toNat)) :: rest)) → W p l e R s m args below meth c H locs (bz_Nn M - N0) (bz_sl kd nf (bz_Nn M) - bz_sl kd nf N0) Q (F0 m pc ls (.int (Int32.ofInt j) :: .ref (ad r) :: rest)))
    (rowS : ∀ (r t n : Nat) (j : Int) rest, t ∈ ts → (t = 0 ∨ t = 2 ∨ t = 6) → va_T (bz_sty t) (ad r) n (fun j => bz_val ad (if t = 6 then 2 else 0) (M r j)) A s s.heap → vp_in (Int32.ofInt j) n → (Int32.ofInt j).toNatClampNeg = j.toNat → W p l e R s m args below meth c H locs (bz_Nn M - N0) (bz_sl kd nf (bz_Nn M) - bz_sl kd nf N0) Q (F0 m (pc') ls (bz_mv ad (f (M r j.toNat)) :: rest)) → W p l e R s m args below meth c H locs (bz_Nn M - N0) (bz_sl kd nf (bz_Nn M) - bz_sl kd nf N0) Q (F0 m pc ls (.int (Int32.ofInt j) :: .ref (ad r) :: rest)))
    (ho : bz_ald kd ts f pc' L st M = some (.inr (.inl (q1, q2, q3, q4)))) (kk : (∀ (ad' : Nat → Nat) (H' : Heap) (locs' : List Loc) (ls' : Array Slot), bz_Inv kd tc nf cA wl w sM sf sc D cl A s nL N0 ad0 q2 q3 q4 ad' H' locs' ls' → W p l e R s m args below meth c H' locs' (bz_Nn q4 - N0) (bz_sl kd nf (bz_Nn q4) - bz_sl kd nf N0) Q (F0 m q1 ls' (q3.map (bz_mv ad'))))) : W p l e R s m args below meth c H locs (bz_Nn M - N0) (bz_sl kd nf (bz_Nn M) - bz_sl kd nf N0) Q (F0 m pc ls (st.map (bz_mv ad))) := by
  unfold bz_ald at ho
  split at ho
  · rename_i j r st'
    split at ho
    · rename_i t n hkd
      split at ho
      · rename_i hts
        split at ho
        · rename_i hj
          obtain ⟨rfl, rfl, rfl, rfl⟩ := bz_Nx ho
          have hr0 : r ≠ 0 := fun e => by rw [e, hC.1] at hkd; cases hkd
          have hrN : r ≤ bz_Nn M := hI.Sw.tail.head
          have hrg := hI.wf.2.1 r j.toNat hr0 hrN
          rw [bz_trA hkd] at hrg
          obtain ⟨g1, g2⟩ := bz_in_arr hI.Sw.head hj.1 hj.2
          have k := kk ad H locs ls (hI.sw (hI.Sw.tail.tail.cons (hf t r _ hts hrg rfl)))
          rw [List.map_cons, List.map_cons, bz_mvr hr0]
          by_cases hns : bz_ns < r
          · exact rowD r t n j _ hts hkd hns hrN ((hC.2.2.1 r t n hkd).2.1 hns).1 g1 g2 k
          · have hT := hI.St.2.1 r t n hr0 (by omega) hkd
            rw [← hI.wf.2.2.1 r hr0 (by omega)] at hT
            exact rowS r t n j _ hts ((hC.2.2.1 r t n hkd).2.2 (by omega)) hT g1 g2 k
        · cases ho
      · cases ho
    · cases ho
  · cases ho
/-- stores -/
theorem bz_h_ast {fty : Nat → Nat → FieldType} {wr : Nat → Nat → Nat} {pc' q1 t0 : Nat} {f : bz_V → Option Int} {q2 : bz_Ls} {q3 : bz_S} {q4 : bz_M} (hC : bz_Cok kd tc nf cl Ts fty) (hwo : ∀ q ∈ wl, ∃ ci, kd q.1 = some (.inl ci)) (hI : bz_Inv kd tc nf cA wl w sM sf sc D cl A s nL N0 ad0 L st M ad H locs ls)
    (hf : ∀ v x, f v = some x → bz_vw (bz_Nn M) v → bz_rg (if t0 = 1 then 1 else if t0 = 5 ∨ t0 = 6 then 2 else 0) (bz_Nn M) x)
    (row : ∀ (r n : Nat) (j x : Int) (v : bz_V) rest, f v = some x → bz_vw (bz_Nn M) v → kd r = some (.inr (t0, n)) → bz_ns < r → r ≤ bz_Nn M → vp_in (Int32.ofInt j) n → (Int32.ofInt j).toNatClampNeg = j.toNat → (∀ (H1 : Heap) (locs1 : List Loc), va_P D cl (bz_ws kd tc nf cA ad (bz_up M r j.toNat x)) H1 → va_D A (bz_ws kd tc nf cA ad (bz_up M r j.toNat x)) → va_S A s.heap H1 locs1 → W p l e R s m args below meth c H1 locs1 (bz_Nn M - N0) (bz_sl kd nf (bz_Nn M) - bz_sl kd nf N0) Q (F0 m (pc') ls rest)) → W p l e R s m args below meth c H locs (bz_Nn M - N0) (bz_sl kd nf (bz_Nn M) - bz_sl kd nf N0) Q (F0 m pc ls (bz_mv ad v :: .int (Int32.ofInt j) :: .ref (ad r) :: rest)))
    (ho : bz_ast kd t0 f pc' L st M = some (.inr (.inl (q1, q2, q3, q4)))) (kk : (∀ (ad' : Nat → Nat) (H' : Heap) (locs' : List Loc) (ls' : Array Slot), bz_Inv kd tc nf cA wl w sM sf sc D cl A s nL N0 ad0 q2 q3 q4 ad' H' locs' ls' → W p l e R s m args below meth c H' locs' (bz_Nn q4 - N0) (bz_sl kd nf (bz_Nn q4) - bz_sl kd nf N0) Q (F0 m q1 ls' (q3.map (bz_mv ad'))))) : W p l e R s m args below meth c H locs (bz_Nn M - N0) (bz_sl kd nf (bz_Nn M) - bz_sl kd nf N0) Q (F0 m pc ls (st.map (bz_mv ad))) := by
  unfold bz_ast at ho
  split at ho
  · rename_i v j r st'
    split at ho
    · rename_i t n x hkd hfv
      split at ho
      · rename_i hts
        obtain ⟨rfl, hns⟩ := hts
        split at ho
        · rename_i hj
          obtain ⟨rfl, rfl, rfl, rfl⟩ := bz_Nx ho
          have hr0 : r ≠ 0 := fun e => by rw [e, hC.1] at hkd; cases hkd
          have hrN : r ≤ bz_Nn M := hI.Sw.tail.tail.head
          obtain ⟨g1, g2⟩ := bz_in_arr hI.Sw.tail.head hj.1 hj.2
          rw [List.map_cons, List.map_cons, List.map_cons, bz_mvr hr0]
          have hN : bz_Nn (bz_up M r j.toNat x) = bz_Nn M := bz_Nn_up hr0
          refine row r n j x v _ hfv hI.Sw.head hkd hns hrN g1 g2 (fun H1 locs1 a1 a2 a3 => ?_)
          have hww : w = true → ∀ q ∈ wl, ¬ (q.1 = r ∧ q.2.1 = j.toNat) := fun _ q hq e => by
            obtain ⟨ci, hci⟩ := hwo q hq
            rw [e.1, hkd] at hci
            cases hci
          have := kk ad H1 locs1 ls (hI.mem hI.Sw.tail.tail.tail hns hrN (by rw [bz_trA hkd]; exact hf v x hfv hI.Sw.head) hww a1 a2 a3)
          rw [hN] at this
          exact this
        · cases ho
      · cases ho
    · cases ho
  · cases ho
theorem bz_h_astA {fty : Nat → Nat → FieldType} {pc' q1 : Nat} {q2 : bz_Ls} {q3 : bz_S} {q4 : bz_M} (hC : bz_Cok kd tc nf cl Ts fty) (hwo : ∀ q ∈ wl, ∃ ci, kd q.1 = some (.inl ci)) (hI : bz_Inv kd tc nf cA wl w sM sf sc D cl A s nL N0 ad0 L st M ad H locs ls)
    (row : ∀ (r n x : Nat) (j : Int) rest, kd x = some (.inl 7) → bz_ns < x → x ≤ bz_Nn M → kd r = some (.inr (5, n)) → bz_ns < r → r ≤ bz_Nn M → vp_in (Int32.ofInt j) n → (Int32.ofInt j).toNatClampNeg = j.toNat → (∀ (H1 : Heap) (locs1 : List Loc), va_P D cl (bz_ws kd tc nf cA ad (bz_up M r j.toNat (x : Int))) H1 → va_D A (bz_ws kd tc nf cA ad (bz_up M r j.toNat (x : Int))) → va_S A s.heap H1 locs1 → W p l e R s m args below meth c H1 locs1 (bz_Nn M - N0) (bz_sl kd nf (bz_Nn M) - bz_sl kd nf N0) Q (F0 m (pc') ls rest)) → W p l e R s m args below meth c H locs (bz_Nn M - N0) (bz_sl kd nf (bz_Nn M) - bz_sl kd nf N0) Q (F0 m pc ls (.ref (ad x) :: .int (Int32.ofInt j) :: .ref (ad r) :: rest)))
    (ho : bz_astA kd pc' L st M = some (.inr (.inl (q1, q2, q3, q4)))) (kk : (∀ (ad' : Nat → Nat) (H' : Heap) (locs' : List Loc) (ls' : Array Slot), bz_Inv kd tc nf cA wl w sM sf sc D cl A s nL N0 ad0 q2 q3 q4 ad' H' locs' ls' → W p l e R s m args below meth c H' locs' (bz_Nn q4 - N0) (bz_sl kd nf (bz_Nn q4) - bz_sl kd nf N0) Q (F0 m q1 ls' (q3.map (bz_mv ad'))))) : W p l e R s m args below meth c H locs (bz_Nn M - N0) (bz_sl kd nf (bz_Nn M) - bz_sl kd nf N0) Q (F0 m pc ls (st.map (bz_mv ad))) := by
  unfold bz_astA at ho
  split at ho
  · rename_i x j r st'
    split at ho
    · rename_i n hkd
      split at ho
      · rename_i hts
        obtain ⟨hns, hnx, hkx⟩ := hts
        split at ho
        · rename_i hj
          obtain ⟨rfl, rfl, rfl, rfl⟩ := bz_Nx ho
          have hr0 : r ≠ 0 := by omega
          have hx0 : x ≠ 0 := by omega
          have hrN : r ≤ bz_Nn M := hI.Sw.tail.tail.head
          have hxN : x ≤ bz_Nn M := hI.Sw.head
          obtain ⟨g1, g2⟩ := bz_in_arr hI.Sw.tail.head hj.1 hj.2
          rw [List.map_cons, List.map_cons, List.map_cons, bz_mvr hr0, bz_mvr hx0]
          have hN : bz_Nn (bz_up M r j.toNat (x : Int)) = bz_Nn M := bz_Nn_up hr0
          refine row r n x j _ hkx hnx hxN hkd hns hrN g1 g2 (fun H1 locs1 a1 a2 a3 => ?_)
          have hww : w = true → ∀ q ∈ wl, ¬ (q.1 = r ∧ q.2.1 = j.toNat) := fun _ q hq e => by
            obtain ⟨ci, hci⟩ := hwo q hq
            rw [e.1, hkd] at hci
            cases hci
          have := kk ad H1 locs1 ls (hI.mem hI.Sw.tail.tail.tail hns hrN (by rw [bz_trA hkd]; exact ⟨Int.natCast_nonneg x, by rw [Int.toNat_natCast]; exact hxN⟩) hww a1 a2 a3)
          rw [hN] at this
          exact this
        · cases ho
      · cases ho
    · cases ho
  · cases ho
theorem bz_h_len {fty : Nat → Nat → FieldType} {pc' q1 : Nat} {q2 : bz_Ls} {q3 : bz_S} {q4 : bz_M} (hC : bz_Cok kd tc nf cl Ts fty) (hI : bz_Inv kd tc nf cA wl w sM sf sc D cl A s nL N0 ad0 L st M ad H locs ls)
    (rowD : ∀ (r t n : Nat) rest, kd r = some (.inr (t, n)) → bz_ns < r → r ≤ bz_Nn M → t < 6 → W p l e R s m args below meth c H locs (bz_Nn M - N0) (bz_sl kd nf (bz_Nn M) - bz_sl kd nf N0) Q (F0 m (pc') ls (.int (Int32.ofInt (n : Int)) :: rest)) → W p l e R s m args below meth c H locs (bz_Nn M - N0) (bz_sl kd nf (bz_Nn M) - bz_sl kd nf N0) Q (F0 m pc ls (.ref (ad r) :: rest)))
    (rowS : ∀ (r t n : Nat) (g : Nat → Value) rest, va_T (bz_sty t) (ad r) n g A s s.heap → W p l e R s m args below meth c H locs (bz_Nn M - N0) (bz_sl kd nf (bz_Nn M) - bz_sl kd nf N0) Q (F0 m (pc') ls (.int (Int32.ofInt (n : Int)) :: rest)) → W p l e R s m args below meth c H locs (bz_Nn M - N0) (bz_sl kd nf (bz_Nn M) - bz_sl kd nf N0) Q (F0 m pc ls (.ref (ad r) :: rest)))
    (ho : bz_len kd pc' L st M = some (.inr (.inl (q1, q2, q3, q4)))) (kk : (∀ (ad' : Nat → Nat) (H' : Heap) (locs' : List Loc) (ls' : Array Slot), bz_Inv kd tc nf cA wl w sM sf sc D cl A s nL N0 ad0 q2 q3 q4 ad' H' locs' ls' → W p l e R s m args below meth c H' locs' (bz_Nn q4 - N0) (bz_sl kd nf (bz_Nn q4) - bz_sl kd nf N0) Q (F0 m q1 ls' (q3.map (bz_mv ad'))))) : W p l e R s m args below meth c H locs (bz_Nn M - N0) (bz_sl kd nf (bz_Nn M) - bz_sl kd nf N0) Q (F0 m pc ls (st.map (bz_mv ad))) := by
  unfold bz_len at ho
  split at ho
  · rename_i r st'
    split at ho
    · rename_i t n hkd
      obtain ⟨rfl, rfl, rfl, rfl⟩ := bz_Nx ho
      have hr0 : r ≠ 0 := fun e => by rw [e, hC.1] at hkd; cases hkd
      have hrN : r ≤ bz_Nn M := hI.Sw.head
      have hn := (hC.2.2.1 r t n hkd).1
      have k := kk ad H locs ls (hI.sw (hI.Sw.tail.cons (show bz_in32 (n : Int) by unfold bz_in32; omega)))
      rw [List.map_cons, bz_mvr hr0]
      by_cases hns : bz_ns < r
      · exact rowD r t n _ hkd hns hrN ((hC.2.2.1 r t n hkd).2.1 hns).1 k
      · exact rowS r t n _ _ (hI.St.2.1 r t n hr0 (by omega) hkd) k
    · cases ho
  · cases ho
def bz_ao (ad : Nat → Nat) (n : Nat) : Option Nat := if n = 0 then none else some (ad n)
theorem bz_mv_ao (n : Nat) : bz_mv ad (.inr (.inr n)) = va_rf (bz_ao ad n) := by
  unfold bz_mv bz_ao
  dsimp only
  split <;> rfl
theorem bz_h_acmp {fty : Nat → Nat → FieldType} {c0 : ACond} {t p2 q1 : Nat} {q2 : bz_Ls} {q3 : bz_S} {q4 : bz_M} (hC : bz_Cok kd tc nf cl Ts fty) (hI : bz_Inv kd tc nf cA wl w sM sf sc D cl A s nL N0 ad0 L st M ad H locs ls)
    (row : ∀ (rx ry : Option Nat) rest, ((c0 = .eq ∧ rx = ry) ∨ (c0 = .ne ∧ ¬ rx = ry) → W p l e R s m args below meth c H locs (bz_Nn M - N0) (bz_sl kd nf (bz_Nn M) - bz_sl kd nf N0) Q (F0 m t ls rest)) → ((c0 = .eq ∧ ¬ rx = ry) ∨ (c0 = .ne ∧ rx = ry) → W p l e R s m args below meth c H locs (bz_Nn M - N0) (bz_sl kd nf (bz_Nn M) - bz_sl kd nf N0) Q (F0 m p2 ls rest)) → W p l e R s m args below meth c H locs (bz_Nn M - N0) (bz_sl kd nf (bz_Nn M) - bz_sl kd nf N0) Q (F0 m pc ls (va_rf ry :: va_rf rx :: rest)))
    (ho : bz_acmp kd c0 t p2 L st M = some (.inr (.inl (q1, q2, q3, q4)))) (kk : (∀ (ad' : Nat → Nat) (H' : Heap) (locs' : List Loc) (ls' : Array Slot), bz_Inv kd tc nf cA wl w sM sf sc D cl A s nL N0 ad0 q2 q3 q4 ad' H' locs' ls' → W p l e R s m args below meth c H' locs' (bz_Nn q4 - N0) (bz_sl kd nf (bz_Nn q4) - bz_sl kd nf N0) Q (F0 m q1 ls' (q3.map (bz_mv ad'))))) : W p l e R s m args below meth c H locs (bz_Nn M - N0) (bz_sl kd nf (bz_Nn M) - bz_sl kd nf N0) Q (F0 m pc ls (st.map (bz_mv ad))) := by
  unfold bz_acmp at ho
  split at ho
  · rename_i y x st'
    split at ho
    · rename_i hg
      have inj : bz_ao ad x = bz_ao ad y ↔ x = y := by
        constructor
        · intro h
          unfold bz_ao at h
          by_cases ex : x = 0
          · by_cases ey : y = 0
            · omega
            · rw [if_pos ex, if_neg ey] at h; cases h
          · by_cases ey : y = 0
            · rw [if_neg ex, if_pos ey] at h; cases h
            · rw [if_neg ex, if_neg ey] at h
              have hx := hg.1.resolve_left ex
              have hy := hg.2.resolve_left ey
              exact hI.St.2.2.2 x y ex ((hC.2.1 x _ hx).mpr (by omega)) hx ey ((hC.2.1 y _ hy).mpr (by omega)) hy (Option.some.inj h)
        · intro h; rw [h]
      rw [List.map_cons, List.map_cons, bz_mv_ao, bz_mv_ao]
      have g : ∀ {a : Nat}, bz_nx a L st' M = some (.inr (.inl (q1, q2, q3, q4))) → W p l e R s m args below meth c H locs (bz_Nn M - N0) (bz_sl kd nf (bz_Nn M) - bz_sl kd nf N0) Q (F0 m a ls (st'.map (bz_mv ad))) := by
        intro a ha
        obtain ⟨rfl, rfl, rfl, rfl⟩ := bz_Nx ha
        exact kk ad H locs ls (hI.sw hI.Sw.tail.tail)
      refine row _ _ _ (fun hh => ?_) (fun hh => ?_)
      · rw [inj] at hh
        rcases hh with ⟨rfl, h⟩ | ⟨rfl, h⟩
        · dsimp only at ho; rw [if_pos h] at ho; exact g ho
        · dsimp only at ho; rw [if_neg h] at ho; exact g ho
      · rw [inj] at hh
        rcases hh with ⟨rfl, h⟩ | ⟨rfl, h⟩
        · dsimp only at ho; rw [if_neg h] at ho; exact g ho
        · dsimp only at ho; rw [if_pos h] at ho; exact g ho
    · cases ho
  · cases ho
theorem bz_h_ifn {t p2 q1 : Nat} {q2 : bz_Ls} {q3 : bz_S} {q4 : bz_M} (hI : bz_Inv kd tc nf cA wl w sM sf sc D cl A s nL N0 ad0 L st M ad H locs ls)
    (row : ∀ (x : Nat) rest, W p l e R s m args below meth c H locs (bz_Nn M - N0) (bz_sl kd nf (bz_Nn M) - bz_sl kd nf N0) Q (F0 m p2 ls rest) → W p l e R s m args below meth c H locs (bz_Nn M - N0) (bz_sl kd nf (bz_Nn M) - bz_sl kd nf N0) Q (F0 m pc ls (.ref x :: rest))) (rowN : ∀ rest, W p l e R s m args below meth c H locs (bz_Nn M - N0) (bz_sl kd nf (bz_Nn M) - bz_sl kd nf N0) Q (F0 m t ls rest) → W p l e R s m args below meth c H locs (bz_Nn M - N0) (bz_sl kd nf (bz_Nn M) - bz_sl kd nf N0) Q (F0 m pc ls (.null :: rest)))
    (ho : bz_ifn t p2 L st M = some (.inr (.inl (q1, q2, q3, q4)))) (kk : (∀ (ad' : Nat → Nat) (H' : Heap) (locs' : List Loc) (ls' : Array Slot), bz_Inv kd tc nf cA wl w sM sf sc D cl A s nL N0 ad0 q2 q3 q4 ad' H' locs' ls' → W p l e R s m args below meth c H' locs' (bz_Nn q4 - N0) (bz_sl kd nf (bz_Nn q4) - bz_sl kd nf N0) Q (F0 m q1 ls' (q3.map (bz_mv ad'))))) : W p l e R s m args below meth c H locs (bz_Nn M - N0) (bz_sl kd nf (bz_Nn M) - bz_sl kd nf N0) Q (F0 m pc ls (st.map (bz_mv ad))) := by
  unfold bz_ifn at ho
  split at ho
  · rename_i x st'
    split at ho
    · rename_i e
      obtain ⟨rfl, rfl, rfl, rfl⟩ := bz_Nx ho
      subst e
      exact rowN _ (kk ad H locs ls (hI.sw hI.Sw.tail))
    · rename_i e
      obtain ⟨rfl, rfl, rfl, rfl⟩ := bz_Nx ho
      rw [List.map_cons, bz_mvr e]
      exact row _ _ (kk ad H locs ls (hI.sw hI.Sw.tail))
  · cases ho
theorem bz_sw_at {ps : List (Int × Nat)} {dflt : Nat} {x : Int} {q1 : Nat} {q2 : bz_Ls} {q3 : bz_S} {q4 : bz_M} (h : bz_sw ps dflt x L st M = some (.inr (.inl (q1, q2, q3, q4)))) : q2 = L ∧ q3 = st ∧ q4 = M ∧ (((∀ q ∈ ps, q.1 ≠ x) ∧ q1 = dflt) ∨ ∃ (i : Nat), ps[i]? = some (x, q1) ∧ ∀ j, j < i → ∀ q, ps[j]? = some q → q.1 ≠ x) := by
  induction ps with
  | nil =>
    obtain ⟨rfl, rfl, rfl, rfl⟩ := bz_Nx h
    exact ⟨rfl, rfl, rfl, Or.inl ⟨fun q hq => absurd hq List.not_mem_nil, rfl⟩⟩
  | cons a ps ih =>
    obtain ⟨v, t⟩ := a
    unfold bz_sw at h
    split at h
    · rename_i e
      obtain ⟨rfl, rfl, rfl, rfl⟩ := bz_Nx h
      exact ⟨rfl, rfl, rfl, Or.inr ⟨0, by rw [List.getElem?_cons_zero, e], fun j hj => absurd hj (Nat.not_lt_zero j)⟩⟩
    · rename_i e
      obtain ⟨h1, h2, h3, h4⟩ := ih h
      refine ⟨h1, h2, h3, ?_⟩
      rcases h4 with ⟨h4, h5⟩ | ⟨i, h4, h5⟩
      · refine Or.inl ⟨fun q hq => ?_, h5⟩
        rcases List.mem_cons.mp hq with rfl | hq
        · exact fun z => e z.symm
        · exact h4 q hq
      · refine Or.inr ⟨i + 1, h4, fun j hj q hq => ?_⟩
        cases j with
        | zero => rw [List.getElem?_cons_zero] at hq; cases hq; exact fun z => e z.symm
        | succ j => exact h5 j (by omega) q hq
theorem bz_h_chk {pc' q1 : Nat} {q2 : bz_Ls} {q3 : bz_S} {q4 : bz_M} (hI : bz_Inv kd tc nf cA wl w sM sf sc D cl A s nL N0 ad0 L st M ad H locs ls)
    (row : ∀ (j n : Int) st', bz_in32 j → bz_in32 n → 0 ≤ j → j < n → bz_cat st' ≤ 8 → (∀ locs1, va_S A s.heap H locs1 → W p l e R s m args below meth c H locs1 (bz_Nn M - N0) (bz_sl kd nf (bz_Nn M) - bz_sl kd nf N0) Q (F0 m (pc') ls (st'.map (bz_mv ad)))) → W p l e R s m args below meth c H locs (bz_Nn M - N0) (bz_sl kd nf (bz_Nn M) - bz_sl kd nf N0) Q (F0 m pc ls (.int (Int32.ofInt n) :: .int (Int32.ofInt j) :: st'.map (bz_mv ad))))
    (ho : bz_chk pc' L st M = some (.inr (.inl (q1, q2, q3, q4)))) (kk : (∀ (ad' : Nat → Nat) (H' : Heap) (locs' : List Loc) (ls' : Array Slot), bz_Inv kd tc nf cA wl w sM sf sc D cl A s nL N0 ad0 q2 q3 q4 ad' H' locs' ls' → W p l e R s m args below meth c H' locs' (bz_Nn q4 - N0) (bz_sl kd nf (bz_Nn q4) - bz_sl kd nf N0) Q (F0 m q1 ls' (q3.map (bz_mv ad'))))) : W p l e R s m args below meth c H locs (bz_Nn M - N0) (bz_sl kd nf (bz_Nn M) - bz_sl kd nf N0) Q (F0 m pc ls (st.map (bz_mv ad))) := by
  unfold bz_chk at ho
  split at ho
  · split at ho
    · rename_i h
      obtain ⟨rfl, rfl, rfl, rfl⟩ := bz_Nx ho
      exact row _ _ _ hI.Sw.tail.head hI.Sw.head h.1 h.2.1 h.2.2 (fun locs1 hS1 => kk ad H locs1 ls ⟨hI.iP, hI.iD, hS1, hI.wf, hI.lr, hI.Lw, hI.Sw.tail.tail, hI.St, hI.ag, hI.iN⟩)
    · cases ho
  · cases ho
theorem bz_chk_M {pc' q1 : Nat} {q2 : bz_Ls} {q3 : bz_S} {q4 : bz_M} (ho : bz_chk pc' L st M = some (.inr (.inl (q1, q2, q3, q4)))) : M = q4 := by
  unfold bz_chk at ho
  split at ho
  · split at ho
    · exact (bz_Nx ho).2.2.2
    · cases ho
  · cases ho
end SA

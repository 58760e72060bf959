/-! ONE INSTRUCTION (4): copies, constants of classes, new cells -/
section SC
variable {p : Program} {l : Launch} {e : Env} {R : Room} {s : State} {m : MethodId} {args : Array Value} {below : List Frame} {meth : Method} {c : Code} {H : Heap} {locs : List Loc} {Q : State → Prop}
variable {cc : ByteArray} {pc : Nat} {ls : Array Slot} {D : va_G} {cl : List vw_C} {A : Nat → Prop}
variable {kd : Nat → Option bz_Kd} {tc : Nat → Nat → Nat} {nf : Nat → Nat} {cA : Nat → ClassId} {wl : List (Nat × Nat × Nat)} {w : Bool} {sM : bz_M} {sf : List (String × String × String × bz_V)} {sc : bz_Sc} {ad ad0 : Nat → Nat} {M : bz_M} {Ts : List Cond} {nL N0 : Nat} {L : bz_Ls} {st : bz_S}
theorem bz_Inv.cpy {st' : bz_S} {a i b j n la lb : Nat} {H1 : Heap} {locs1 : List Loc} (h : bz_Inv kd tc nf cA wl w sM sf sc D cl A s nL N0 ad0 L st M ad H locs ls) (h' : bz_Sw (bz_Nn M) st') (hwo : ∀ q ∈ wl, ∃ ci, kd q.1 = some (.inl ci)) (ha : kd a = some (.inr (0, la))) (ha1 : bz_ns < a) (ha2 : a ≤ bz_Nn M) (hb : kd b = some (.inr (0, lb))) (hb1 : bz_ns < b) (hb2 : b ≤ bz_Nn M) (hP : va_P D cl (bz_ws kd tc nf cA ad (bz_cpy M a i b j n)) H1) (hD : va_D A (bz_ws kd tc nf cA ad (bz_cpy M a i b j n))) (hS : va_S A s.heap H1 locs1) : bz_Inv kd tc nf cA wl w sM sf sc D cl A s nL N0 ad0 L st' (bz_cpy M a i b j n) ad H1 locs1 ls := by
  have hN : bz_Nn (bz_cpy M a i b j n) = bz_Nn M := by unfold bz_Nn; rw [bz_cpy_r M (by omega)]
  refine ⟨hP, hD, hS, ⟨by rw [hN]; exact h.wf.1, fun r k h1 h2 => ?_, fun r h1 h2 => ?_, fun hw q hq => ?_⟩, h.lr, by rw [hN]; exact h.Lw, by rw [hN]; exact h', h.St, h.ag, by rw [hN]; exact h.iN⟩
  · rw [hN] at h2 ⊢
    by_cases e : r = b
    · subst e
      have g1 := h.wf.2.1 r k h1 h2
      have g2 := h.wf.2.1 a (i + (k - j)) (by omega) ha2
      rw [bz_trA hb] at g1 ⊢
      rw [bz_trA ha] at g2
      have e2 : bz_cpy M a i r j n r k = if j ≤ k ∧ k < j + n then M a (i + (k - j)) else M r k := by simp [bz_cpy]
      rw [e2]
      by_cases e3 : j ≤ k ∧ k < j + n
      · rw [if_pos e3]; exact g2
      · rw [if_neg e3]; exact g1
    · rw [bz_cpy_r M e]; exact h.wf.2.1 r k h1 h2
  · rw [bz_cpy_r M (by omega)]; exact h.wf.2.2.1 r h1 h2
  · obtain ⟨g1, g2, g3⟩ := h.wf.2.2.2 hw q hq
    refine ⟨?_, g2, by rw [hN]; exact g3⟩
    rw [bz_cpy_r M (fun e => ?_)]
    · exact g1
    · obtain ⟨ci, hci⟩ := hwo q hq
      rw [e, hb] at hci
      cases hci
theorem bz_catm (st : bz_S) : ((st.map (bz_mv ad)).map fun v => v.category).sum = bz_cat st := by
  unfold bz_cat
  rw [List.map_map]
  congr 1
  apply List.map_congr_left
  intro v _
  exact bz_cat_mv ad v
theorem bz_h_acpy {fty : Nat → Nat → FieldType} {y : MethodName} {idx q1 : Nat} {q2 : bz_Ls} {q3 : bz_S} {q4 : bz_M} (hx : p.tables.exec = Jvm.exec) (hb : c.code = cc) (hml : c.maxLocals = nL) (hts : ∀ w ∈ Ts, w.before args s = true) (hown : s.vm.findClass y.cls = some m.cls) (hK : va_K D cl (bz_tys cA) s) (hC : bz_Cok kd tc nf cl Ts fty) (hwo : ∀ q ∈ wl, ∃ ci, kd q.1 = some (.inl ci)) (hok : Cond.methodLink y.cls idx arraycopyName ∈ Ts ∧ Cond.native arraycopyName ∈ Ts ∧ Cond.static arraycopyName ∈ Ts ∧ Cond.initialized "java/lang/System" ∈ Ts) (hR : 1 ≤ R.frames ∧ 40 ≤ R.locals) (hdg : decode cc pc = .ok (.invokestatic idx, 3)) (hI : bz_Inv kd tc nf cA wl w sM sf sc D cl A s nL N0 ad0 L st M ad H locs ls) (ho : bz_acpy kd (pc + 3) L st M = some (.inr (.inl (q1, q2, q3, q4)))) (kk : (∀ (ad' : Nat → Nat) (H' : Heap) (locs' : List Loc) (ls' : Array Slot), bz_Inv kd tc nf cA wl w sM sf sc D cl A s nL N0 ad0 q2 q3 q4 ad' H' locs' ls' → W p l e R s m args below meth c H' locs' (bz_Nn q4 - N0) (bz_sl kd nf (bz_Nn q4) - bz_sl kd nf N0) Q (F0 m q1 ls' (q3.map (bz_mv ad'))))) : W p l e R s m args below meth c H locs (bz_Nn M - N0) (bz_sl kd nf (bz_Nn M) - bz_sl kd nf N0) Q (F0 m pc ls (st.map (bz_mv ad))) := by
  unfold bz_acpy at ho
  split at ho
  · rename_i n j b i a st'
    split at ho
    · rename_i la lb hka hkb
      split at ho
      · rename_i h
        obtain ⟨hne, ha1, hb1, hi, hj, hn, hia, hjb, hcat⟩ := h
        obtain ⟨rfl, rfl, rfl, rfl⟩ := bz_Nx ho
        have hn32 : bz_in32 n := hI.Sw.head
        have hj32 : bz_in32 j := hI.Sw.tail.head
        have hbN : b ≤ bz_Nn M := hI.Sw.tail.tail.head
        have hi32 : bz_in32 i := hI.Sw.tail.tail.tail.head
        have haN : a ≤ bz_Nn M := hI.Sw.tail.tail.tail.tail.head
        have hc : ∀ {z : Int}, bz_in32 z → 0 ≤ z → (Int32.ofInt z).toNatClampNeg = z.toNat := fun {z} hz _ => Int32.toNatClampNeg_ofInt_of_le (by have := hz.1; omega) (by have := hz.2; omega)
        have hng : ∀ {z : Int}, bz_in32 z → 0 ≤ z → ¬ Int32.ofInt z < 0 := fun {z} hz h0 hl => by
          have := (bz_olt hz bz_i0).mp hl
          omega
        rw [List.map_cons, List.map_cons, List.map_cons, List.map_cons, List.map_cons, bz_mvr (show a ≠ 0 by omega), bz_mvr (show b ≠ 0 by omega)]
        refine va_copyi hx hb (by rw [hml, hI.lr.1]) hown (hts _ hok.1) (hts _ hok.2.1) (hts _ hok.2.2.1) (hts _ hok.2.2.2) hK hI.iP hI.iD hI.iS (a - bz_ns - 1) (b - bz_ns - 1) 0 0 (bz_ws_arrI hka ha1 haN (by decide) (by decide)) (bz_ws_arrI hkb hb1 hbN (by decide) (by decide)) rfl rfl rfl (hng hi32 hi) (hng hj32 hj) (hng hn32 hn) (by rw [hc hi32 hi, hc hn32 hn]; omega) (by rw [hc hj32 hj, hc hn32 hn]; omega) (fun _ _ => rfl) hR.1 ?_ hdg (fun H1 locs1 g1 g2 g3 => ?_)
        · rw [bz_catm]
          show bz_cat st' + 18 ≤ R.locals
          omega
        · rw [hc hi32 hi, hc hj32 hj, hc hn32 hn, ← bz_ws_cpy hka hkb hb1 hbN] at g1 g2
          have hN : bz_Nn (bz_cpy M a i.toNat b j.toNat n.toNat) = bz_Nn M := by unfold bz_Nn; rw [bz_cpy_r M (by omega)]
          have := kk ad H1 locs1 ls (hI.cpy hI.Sw.tail.tail.tail.tail.tail hwo hka ha1 haN hkb hb1 hbN g1 g2 g3)
          rw [hN] at this
          exact this
      · cases ho
    · cases ho
  · cases ho
/-- a new region's address -/
def bz_adn (ad : Nat → Nat) (q a : Nat) : Nat → Nat := fun z => if z = q then a else ad z
theorem bz_adn_lt {q a z : Nat} (h : z < q) : bz_adn ad q a z = ad z := by unfold bz_adn; rw [if_neg (by omega)]
theorem bz_adn_at {q a : Nat} : bz_adn ad q a q = a := by unfold bz_adn; rw [if_pos rfl]
theorem bz_mv_adn {N a : Nat} {v : bz_V} (h : bz_vw N v) : bz_mv (bz_adn ad (N + 1) a) v = bz_mv ad v := by
  rcases v with x | x | x
  · rfl
  · rfl
  · unfold bz_mv
    dsimp only
    split
    · rfl
    · rw [bz_adn_lt (Nat.lt_succ_of_le h)]
theorem bz_val_adn {N a t : Nat} {x : Int} (h : bz_rg t N x) : bz_val (bz_adn ad (N + 1) a) t x = bz_val ad t x := by
  unfold bz_val
  split
  · rfl
  · split
    · rfl
    · rw [bz_adn_lt (Nat.lt_succ_of_le h.2)]
  · rfl
def bz_Mn (M : bz_M) : bz_M := bz_up (bz_zero M ((M 0 0).toNat + 1)) 0 0 (((M 0 0).toNat + 1 : Nat) : Int)
theorem bz_Mn_N : bz_Nn (bz_Mn M) = bz_Nn M + 1 := by
  unfold bz_Nn bz_Mn
  rw [bz_up_same, Int.toNat_natCast]
theorem bz_Mn_old {r : Nat} (h : r ≠ 0) (h2 : r ≤ bz_Nn M) : bz_Mn M r = M r := by
  unfold bz_Mn
  rw [bz_up_r _ _ _ h]
  unfold bz_zero
  unfold bz_Nn at h2
  rw [if_neg (by omega)]
theorem bz_Mn_new : bz_Mn M (bz_Nn M + 1) = fun _ => 0 := by
  unfold bz_Mn
  rw [bz_up_r _ _ _ (by omega)]
  unfold bz_zero bz_Nn
  rw [if_pos rfl]
theorem bz_con_adn {N a t n : Nat} {g : Nat → Int} (h : ∀ j, bz_rg (if t = 1 then 1 else if t = 5 ∨ t = 6 then 2 else 0) N (g j)) : bz_con (bz_adn ad (N + 1) a) t n g = bz_con ad t n g := by
  unfold bz_con
  split
  · rfl
  · congr 5
    funext j
    have h1 := h j
    rw [if_neg (by decide), if_pos (by decide)] at h1
    split
    · rfl
    · rw [bz_adn_lt (Nat.lt_succ_of_le h1.2)]
  · rfl
theorem bz_cell_adn {a r : Nat} (hwf : bz_wfM kd tc sM wl w M) (h : r ≠ 0) (h2 : r ≤ bz_Nn M) : bz_cell kd tc nf cA (bz_adn ad (bz_Nn M + 1) a) (bz_Mn M) r = bz_cell kd tc nf cA ad M r := by
  have hr := fun k => hwf.2.1 r k h h2
  unfold bz_cell
  rw [bz_Mn_old h h2]
  split
  · rename_i ci hk
    congr 2
    apply List.map_congr_left
    intro k _
    have h3 := hr k
    unfold bz_tr at h3
    rw [hk] at h3
    exact bz_val_adn h3
  · rename_i t n hk
    congr 2
    apply bz_con_adn
    intro j
    have h3 := hr j
    rw [bz_trA hk] at h3
    exact h3
  · rfl
theorem bz_ws_new {a : Nat} (hwf : bz_wfM kd tc sM wl w M) : bz_ws kd tc nf cA (bz_adn ad (bz_Nn M + 1) a) (bz_Mn M) = bz_ws kd tc nf cA ad M ++ [(a, bz_cell kd tc nf cA (bz_adn ad (bz_Nn M + 1) a) (bz_Mn M) (bz_Nn M + 1))] := by
  have h0 := hwf.1
  apply List.ext_getElem?
  intro j
  rcases Nat.lt_trichotomy j (bz_Nn M - bz_ns) with hj | hj | hj
  · rw [List.getElem?_append_left (by rw [bz_ws_len]; exact hj)]
    have g1 := bz_ws_get (kd := kd) (tc := tc) (nf := nf) (cA := cA) (ad := bz_adn ad (bz_Nn M + 1) a) (M := bz_Mn M) (r := bz_ns + 1 + j) (by omega) (by rw [bz_Mn_N]; omega)
    have g2 := bz_ws_get (kd := kd) (tc := tc) (nf := nf) (cA := cA) (ad := ad) (M := M) (r := bz_ns + 1 + j) (by omega) (by omega)
    rw [show bz_ns + 1 + j - bz_ns - 1 = j by omega] at g1 g2
    rw [g1, g2, bz_cell_adn hwf (by omega) (by omega), bz_adn_lt (by omega)]
  · subst hj
    rw [List.getElem?_append_right (by rw [bz_ws_len]; omega), bz_ws_len, Nat.sub_self]
    have g1 := bz_ws_get (kd := kd) (tc := tc) (nf := nf) (cA := cA) (ad := bz_adn ad (bz_Nn M + 1) a) (M := bz_Mn M) (r := bz_Nn M + 1) (by omega) (by rw [bz_Mn_N]; omega)
    rw [show bz_Nn M + 1 - bz_ns - 1 = bz_Nn M - bz_ns by omega, bz_adn_at] at g1
    rw [g1]
    rfl
  · rw [List.getElem?_eq_none (by rw [bz_ws_len, bz_Mn_N]; omega), List.getElem?_eq_none (by rw [List.length_append, bz_ws_len]; simp; omega)]
theorem bz_St_adn {N a : Nat} {U : State} {Hx : Heap} (hN : bz_ns ≤ N) (hs : ∀ r k, r ≠ 0 → r ≤ bz_ns → bz_rg (bz_tr kd tc r k) N (sM r k)) (hsf : ∀ q ∈ sf, bz_vw bz_ns q.2.2.2) (h : bz_St A kd tc sM sf sc ad U Hx) : bz_St A kd tc sM sf sc (bz_adn ad (N + 1) a) U Hx := by
  obtain ⟨h1, h2, h3, h4⟩ := h
  refine ⟨fun q hq => ?_, fun r t n e1 e2 e3 => ?_, fun r ci e1 e2 e3 => ?_, fun r r' e1 e2 e3 e4 e5 e6 e7 => ?_⟩
  · rw [bz_mv_adn ((hsf q hq).mono hN)]; exact h1 q hq
  · have g := h2 r t n e1 e2 e3
    rw [bz_adn_lt (show r < N + 1 by omega)]
    have e : (fun j => bz_val (bz_adn ad (N + 1) a) (if t = 6 then 2 else 0) (sM r j)) = (fun j => bz_val ad (if t = 6 then 2 else 0) (sM r j)) := by
      funext j
      by_cases ht : t = 6
      · rw [if_pos ht]
        have g2 := hs r j e1 e2
        rw [bz_trA e3, ht] at g2
        exact bz_val_adn g2
      · rw [if_neg ht]; rfl
    rw [e]; exact g
  · obtain ⟨q, g1, g2, g3⟩ := h3 r ci e1 e2 e3
    rw [bz_adn_lt (show r < N + 1 by omega)]
    refine ⟨q, g1, g2, fun k hk => ?_⟩
    have g4 := hs r k e1 e2
    unfold bz_tr at g4
    rw [e3] at g4
    rw [bz_val_adn g4]
    exact g3 k hk
  · rw [bz_adn_lt (show r < N + 1 by omega), bz_adn_lt (show r' < N + 1 by omega)] at e7
    exact h4 r r' e1 e2 e3 e4 e5 e6 e7
/-- what holds along a run, behind a new region -/
theorem bz_Inv.new {st' : bz_S} {a : Nat} {H1 : Heap} (h : bz_Inv kd tc nf cA wl w sM sf sc D cl A s nL N0 ad0 L st M ad H locs ls) (hw : w = false) (hsf : ∀ q ∈ sf, bz_vw bz_ns q.2.2.2) (h' : bz_Sw (bz_Nn M) st') (hP : va_P D cl (bz_ws kd tc nf cA (bz_adn ad (bz_Nn M + 1) a) (bz_Mn M)) H1) (hD : va_D A (bz_ws kd tc nf cA (bz_adn ad (bz_Nn M + 1) a) (bz_Mn M))) (hS : va_S A s.heap H1 locs) : bz_Inv kd tc nf cA wl w sM sf sc D cl A s nL N0 ad0 L (Sum.inr (Sum.inr (bz_Nn M + 1)) :: st') (bz_Mn M) (bz_adn ad (bz_Nn M + 1) a) H1 locs ls := by
  have h0 := h.wf.1
  refine ⟨hP, hD, hS, ⟨by rw [bz_Mn_N]; omega, fun r k h1 h2 => ?_, fun r h1 h2 => ?_, fun hw' => ?_⟩, ⟨h.lr.1, h.lr.2.1, h.lr.2.2.1, fun i v hv => ?_⟩, fun i v hv => ?_, ?_, bz_St_adn h0 (fun r k h1 h2 => ?_) hsf h.St, fun q hq => ?_, by rw [bz_Mn_N]; have := h.iN; omega⟩
  · rw [bz_Mn_N] at h2 ⊢
    have mono : ∀ {t : Nat} {x : Int}, bz_rg t (bz_Nn M) x → bz_rg t (bz_Nn M + 1) x := by
      intro t x g
      unfold bz_rg at g ⊢
      split at g
      · exact g
      · exact ⟨g.1, by omega⟩
      · exact g
    rcases Nat.lt_or_ge (bz_Nn M) r with e | e
    · have e2 : r = bz_Nn M + 1 := by omega
      subst e2
      rw [bz_Mn_new]
      dsimp only
      unfold bz_rg
      split
      · unfold bz_in64; omega
      · exact ⟨by omega, by show (0 : Int).toNat ≤ _; simp⟩
      · exact bz_i0
    · rw [bz_Mn_old h1 e]; exact mono (h.wf.2.1 r k h1 e)
  · rw [bz_Mn_old h1 (by omega)]; exact h.wf.2.2.1 r h1 h2
  · rw [hw] at hw'; cases hw'
  · rw [bz_mv_adn (h.Lw i v hv)]; exact h.lr.2.2.2 i v hv
  · rw [bz_Mn_N]; exact (h.Lw i v hv).mono (by omega)
  · rw [bz_Mn_N]
    exact bz_Sw.cons (show bz_Nn M + 1 ≤ bz_Nn M + 1 from Nat.le_refl _) (fun v hv => (h' v hv).mono (by omega))
  · have g := h.wf.2.1 r k h1 (by omega)
    rw [h.wf.2.2.1 r h1 h2] at g
    exact g
  · rw [bz_adn_lt (by have := h.iN; omega)]; exact h.ag q hq
theorem bz_map_adn {N a : Nat} {st : bz_S} (h : bz_Sw N st) : st.map (bz_mv (bz_adn ad (N + 1) a)) = st.map (bz_mv ad) := List.map_congr_left fun v hv => bz_mv_adn (h v hv)
theorem bz_sl_succ (N : Nat) : bz_sl kd nf (N + 1) = bz_sl kd nf N + bz_rsz kd nf (N + 1) := by
  unfold bz_sl
  rw [List.range_succ, List.map_append, List.sum_append]
  simp
end SC

/-! SIM: ask, both -/
section TM
variable {Lg d n v u : Nat} {V M M1 M2 : bz_M} {S T : Nat → Int} {cs : List Int} {t : Bool}
/-- what is asked is a code of its kind -/
theorem qAsk_ok {k : Int} (h : qAsk T n = .inr (k, cs)) (hn : n ≤ 1600) : (0 ≤ k ∧ k ≤ 5) ∧ (∀ op ∈ cs, aQ op) ∧ pOK cs [] [decide (k < 3)] ∧ cs.length ≤ 1600 := by
  unfold qAsk at h
  by_cases c : 38 ≤ qW T n ∧ qW T n ≤ 43
  · rw [if_pos c] at h
    have tot := rd_total (T := T) (n := n) (w := 8) (Or.inr (Or.inr rfl)) (12 * n + 60) (qNt T n) 0 (nx T n (q0 T n)) (by unfold qNt; split <;> decide) (by decide) (nx_ok q0_ok) (by unfold qNt; split <;> omega)
    obtain ⟨out, ho⟩ := Option.ne_none_iff_exists'.mp tot
    rw [ho] at h
    cases out with
    | inl e => exact absurd h (fun x => by cases x)
    | inr p =>
      have h : (if n ≤ p.1.1 then .inr (((qW T n : Nat) : Int) - 38, p.2) else .inl (1, p.1.1) : (Int × Nat) ⊕ (Int × List Int)) = .inr (k, cs) := h
      by_cases ce : n ≤ p.1.1
      · rw [if_pos ce] at h
        have hk : ((qW T n : Nat) : Int) - 38 = k ∧ p.2 = cs := by
          injection h with h
          injection h with h1 h2
          exact ⟨h1, h2⟩
        obtain ⟨hk, rfl⟩ := hk
        have hg := rd_good (w := 8) (Or.inr (Or.inr rfl)) (12 * n + 60) (qNt T n) 0 (nx T n (q0 T n)) p.1 p.2 (by unfold qNt; split <;> decide) (by decide) (nx_ok q0_ok) ho
        have hp := hg.2.2.2.2 []
        have hg1 := hg.1.1
        have hg2 := hg.2.1
        refine ⟨by omega, fun op hop => ?_, ?_, by omega⟩
        · have := hg.2.2.2.1 op hop
          unfold aW at this
          rw [if_neg (by decide), if_neg (by decide)] at this
          exact this
        · by_cases ct : qW T n ≤ 40
          · have e9 : qNt T n = 9 := if_pos ct
            rw [e9] at hp
            rw [decide_eq_true (show k < 3 by omega)]
            exact hp (by decide)
          · have e3 : qNt T n = 3 := if_neg ct
            rw [e3] at hp
            rw [decide_eq_false (show ¬ k < 3 by omega)]
            exact hp (by decide)
      · rw [if_neg ce] at h
        exact absurd h (fun x => by cases x)
  · rw [if_neg c] at h
    exact absurd h (fun x => by cases x)
theorem stp_ask (hd : 43 < d) (h : Sim M) : stp (eBr_ask Lg d) (eMo_ask Lg d) M := by
  obtain ⟨V, S, v, u, hS⟩ := h
  have o := hS.1.1
  have hvv := oV_c o
  have h131 := hS.1.2.2.2.1
  have bd := sim_bd hS
  have t1 := hS.2.2.2.1
  have t2 := hS.2.2.2.2.1
  have t3 := hS.2.2.2.2.2.1
  have hsC := hS.2.2.2.2.2.2.2.2.2.2.2.2.1
  have hsM := hS.2.2.2.2.2.2.2.2.2.2.2.2.2
  have hn := tp_n t1
  have hT := tp_tb t1
  have hm := tp_mt t1
  generalize hNn : (M 319 1).toNat = n at hn hT hm
  have h1 : M 123 1 = (n : Int) := t1.1.trans hn
  have hn6 : n ≤ 1600 := hT.1
  by_cases c0 : 0 < M v 0
  · obtain ⟨h60, hv⟩ := bd.2.2.2 (Or.inl c0)
    have hV := hv.1.1
    have hO := hv.1.2.1
    have hL := hV.2.2.2.2.1
    refine T_le (eBr_ask_E (by omega) o) ?_
    rw [if_pos h131, if_neg (fun e => bz_b0.mp e c0)]
    refine T_seq (c_qread (by omega) hsC hT h1) ?_
    rintro ⟨p1, A⟩ ⟨fr, bad, good⟩
    dsimp only at fr bad good ⊢
    -- what the class leaves, in the end
    have fin : ∀ (B N : bz_M), (∀ r, ¬ (cScr r ∨ r = 123 ∨ (125 ≤ r ∧ r ≤ 130)) → B r = M r) → B 123 1 = 0 → (∀ r, r ≠ 319 → r ≠ 408 → r ≠ 409 → r ≠ 366 → r ≠ 410 → N r = B r) → (∀ k, ¬ (aKk k ∨ aGk k) → N 319 k = B 319 k) → N 319 1 = 0 → B 123 6 = N 319 7 → B 123 7 = N 319 8 → Sim N ∧ fO M N := by
      intro B N fB b1 fN fK n1 e6 e7
      have k : ∀ r, ¬ (cScr r ∨ r = 123 ∨ (125 ≤ r ∧ r ≤ 130) ∨ r = 319 ∨ r = 408 ∨ r = 409 ∨ r = 366 ∨ r = 410) → N r = M r := fun r x => by rw [fN r (by omega) (by omega) (by omega) (by omega) (by omega), fB r (by omega)]
      have k9 : ∀ j, ¬ (aKk j ∨ aGk j) → N 319 j = M 319 j := fun j hj => by rw [fK j hj, fB 319 (by omega)]
      have e123 : N 123 = B 123 := fN 123 (by decide) (by decide) (by decide) (by decide) (by decide)
      refine ⟨⟨V, S, v, u, Sim_k hS ⟨fun r hr => k r (by omega), by rw [k 279 (by decide)], fun j hj => k9 j (by omega), fun j _ => by rw [k 355 (by decide)], fun j _ => by rw [k 356 (by decide)], fun j _ => by rw [k 357 (by decide)], fun j _ => by rw [k 358 (by decide)], fun j _ => ⟨by rw [k 361 (by decide)], by rw [k 362 (by decide)]⟩, fun j _ => by rw [k 363 (by decide)]⟩ (tpR_0 ?_ n1) ⟨?_, ?_⟩ (fun j hj => ?_)⟩, fun r hr => k r (by omega)⟩
      · rw [e123]; exact b1
      · rw [e123]; exact e6
      · rw [e123]; exact e7
      · rw [k 302 (by decide), k 321 (by decide)]; exact t3 j hj
    have kA : ∀ r, ¬ (cScr r ∨ r = 123 ∨ (125 ≤ r ∧ r ≤ 130)) → bz_up A 123 1 0 r = M r := fun r x => by rw [bz_up_fn (by omega), fr r (by omega) (by omega) (by omega) (by omega) (by omega)]
    cases hR : qAsk (M 320) n with
    | inl e =>
      obtain ⟨x1, x2, x3⟩ := bad e hR
      rw [if_pos x1]
      refine T_some ?_
      dsimp only
      generalize hB : bz_up A 123 1 0 = B at kA
      have b6 : B 123 6 = e.1 := by rw [← hB, bz_up_nk (by decide)]; exact x2
      have b7 : B 123 7 = (e.2 : Int) := by rw [← hB, bz_up_nk (by decide)]; exact x3
      have b1 : B 123 1 = 0 := by rw [← hB, bz_up_eq]
      refine m_askR (T := M 320) (n := n) (by omega) (by rw [kA 319 (by decide)]; exact h60) (fun r j x y => by rw [kA r (by omega)]; exact hsM r j x y) (mt_co hm (kA 320 (by decide))) (by rw [kA 319 (by decide)]; exact hn) (fun kd N f n1 n61 alt => ?_)
      rcases alt with ⟨e', y1, y2, y3, y4⟩ | ⟨cs, y1, _⟩
      · rw [hR] at y1
        cases y1
        refine T_le eMo_ask_133_E ?_
        rw [if_neg (by rw [y3]; exact y2)]
        refine T_some ⟨rfl, ?_⟩
        dsimp only
        refine fin B _ kA b1 (fun r a b c _ _ => by rw [bz_up_fn a, bz_up_fn a]; exact f.1 r a b c) (fun k hk => ?_) ?_ ?_ ?_
        · rw [bz_up_nk (by omega), bz_up_nk (by omega)]; exact f.2 k (fun x => hk (Or.inl x))
        · rw [bz_up_nk (by decide), bz_up_nk (by decide)]; exact n1
        · rw [b6, bz_up_nk (by decide), bz_up_eq, y3]
        · rw [b7, bz_up_eq, y4]
      · rw [hR] at y1
        cases y1
    | inr q =>
      obtain ⟨k, cs⟩ := q
      obtain ⟨x1, x2, x3, x4, x5⟩ := good k cs hR
      obtain ⟨⟨hk0, hk5⟩, hA, hok, hlen⟩ := qAsk_ok hR hn6
      rw [if_neg (by omega)]
      generalize hB : bz_up A 123 1 0 = B at kA
      have b6 : B 123 6 = 0 := by rw [← hB, bz_up_nk (by decide)]; exact x2
      have b7 : B 123 7 = -1 := by rw [← hB, bz_up_nk (by decide)]; exact x3
      have b1 : B 123 1 = 0 := by rw [← hB, bz_up_eq]
      have b25 : B 125 2 = 38 + k := by rw [← hB, bz_up_nr (by decide)]; exact x4
      have bC : cC 126 cs B := by
        unfold cC at x5 ⊢
        rw [← hB, bz_up_nr (by decide), bz_up_fn (by decide)]
        exact x5
      have cRB : cR V S 131 148 v B := ⟨by rw [kA 131 (by decide)]; exact h131, cV_co hv.2.1.2.1 (kA _ (by omega)) (kA _ (by omega)) (kA _ (by omega)) (kA _ (by omega)) (kA _ (by omega)) (kA _ (by omega)) (kA _ (by omega)) (kA _ (by omega)) (kA _ (by omega)) (kA _ (by omega)), cS_co hv.2.1.2.2 (kA _ (by decide)) (kA _ (by decide)) (kA _ (by decide)) (kA _ (by decide)) (kA _ (by decide)) (kA _ (by decide))⟩
      have a0b : (-(10 + 1000000 * (0 : Int)) ≤ (if k < 2 then (-1 : Int) else 0) ∧ (if k < 2 then (-1 : Int) else 0) ≤ 10 + 1000000 * (0 : Int)) := by
        split <;> omega
      have loop := c_ans (Lg := Lg) (d := d - 1) (by omega) o hV hO hv.1.2.2.1 hk0 hk5 hA hok hlen (vL V).toNat 0 (if k < 2 then -1 else 0) B cRB b25 bC (by omega) (by omega) a0b
      have ans : w_T (eQu_answer Lg (d - 1) B) (fun p => p.1 = qFo V S k cs (vL V).toNat 0 (if k < 2 then -1 else 0) ∧ cFq B p.2) := by
        have kd := kd_word (Lg := Lg) hk0 hk5
        have g38 : ((Int.toNat (B 125 2)) = 0 ∨ bz_kd Lg (Int.toNat (B 125 2)) = some (.inl 12)) ∧ (38 = 0 ∨ bz_kd Lg 38 = some (.inl 12)) := ⟨Or.inr (by rw [b25]; exact kd), Or.inr rfl⟩
        have g39 : ((Int.toNat (B 125 2)) = 0 ∨ bz_kd Lg (Int.toNat (B 125 2)) = some (.inl 12)) ∧ (39 = 0 ∨ bz_kd Lg 39 = some (.inl 12)) := ⟨Or.inr (by rw [b25]; exact kd), Or.inr rfl⟩
        refine T_le eQu_answer_E ?_
        rw [if_pos g38, if_pos g39]
        by_cases c1 : k = 0
        · rw [if_pos (show Int.toNat (B 125 2) = 38 by rw [b25]; omega)]
          rw [if_pos (show k < 2 by omega)] at loop ⊢
          exact loop
        rw [if_neg (show ¬ Int.toNat (B 125 2) = 38 by rw [b25]; omega)]
        by_cases c2 : k = 1
        · rw [if_pos (show Int.toNat (B 125 2) = 39 by rw [b25]; omega)]
          rw [if_pos (show k < 2 by omega)] at loop ⊢
          exact loop
        rw [if_neg (show ¬ Int.toNat (B 125 2) = 39 by rw [b25]; omega)]
        rw [if_neg (show ¬ k < 2 by omega)] at loop ⊢
        exact loop
      refine T_seq ans ?_
      rintro ⟨p2, D⟩ ⟨d1, d2⟩
      dsimp only at d1 d2 ⊢
      refine T_some ?_
      dsimp only
      have kD : ∀ r, ¬ (cScr r ∨ r = 123 ∨ (125 ≤ r ∧ r ≤ 130)) → D r = M r := fun r x => by rw [d2 r (by omega), kA r x]
      have e123 : D 123 = B 123 := d2 123 (by decide)
      refine m_askR (T := M 320) (n := n) (by omega) (by rw [kD 319 (by decide)]; exact h60) (fun r j x y => by rw [kD r (by omega)]; exact hsM r j x y) (mt_co hm (kD 320 (by decide))) (by rw [kD 319 (by decide)]; exact hn) (fun kd N f n1 n61 alt => ?_)
      rcases alt with ⟨e', y1, _⟩ | ⟨cs', y1, y2, y3, y4, y5⟩
      · rw [hR] at y1
        cases y1
      · rw [hR] at y1
        cases y1
        refine T_le eMo_ask_133_E ?_
        rw [if_pos y2]
        have fNM : ∀ r, r = 355 ∨ r = 356 ∨ r = 357 ∨ r = 358 ∨ r = 361 ∨ r = 362 ∨ r = 363 ∨ r = 364 → N r = M r := fun r x => by rw [f.1 r (by omega) (by omega) (by omega), kD r (by omega)]
        have fN9 : ∀ j, ¬ aKk j → N 319 j = M 319 j := fun j hj => by rw [f.2 j hj, kD 319 (by decide)]
        have go : ∀ a : Int, a = (if k < 2 then -1 else 0) → w_T (eMo_ask_183 Lg d k 0 (bz_up (bz_up (bz_up (bz_up N 319 7 (N 319 5)) 319 8 (N 319 6)) 319 128 a) 319 129 1)) (fun p' => p'.1 = p2 ∧ Sim p'.2 ∧ fO M p'.2) := fun a ea => by
          generalize hE : bz_up (bz_up (bz_up (bz_up N 319 7 (N 319 5)) 319 8 (N 319 6)) 319 128 a) 319 129 1 = E
          have kE : ∀ r, r ≠ 319 → E r = N r := fun r hr => by rw [← hE, bz_up_fn hr, bz_up_fn hr, bz_up_fn hr, bz_up_fn hr]
          have kE9 : ∀ j, j ≠ 7 → j ≠ 8 → j ≠ 128 → j ≠ 129 → E 319 j = N 319 j := fun j a b c e => by rw [← hE, bz_up_nk e, bz_up_nk c, bz_up_nk b, bz_up_nk a]
          have E7 : E 319 7 = 0 := by rw [← hE, bz_up_nk (by decide), bz_up_nk (by decide), bz_up_nk (by decide), bz_up_eq]; exact y2
          have E8 : E 319 8 = -1 := by rw [← hE, bz_up_nk (by decide), bz_up_nk (by decide), bz_up_eq]; exact y3
          have E128 : E 319 128 = a := by rw [← hE, bz_up_nk (by decide), bz_up_eq]
          have E129 : E 319 129 = 1 := by rw [← hE, bz_up_eq]
          have mRE : mR V S E := by
            refine ⟨mV_co hv.2.2.1 ?_ ?_ ?_ ?_ ?_ ?_ ?_ ?_, fun i hi => ?_⟩
            · rw [kE 355 (by decide)]; exact fNM 355 (by decide)
            · rw [kE9 47 (by decide) (by decide) (by decide) (by decide)]; exact fN9 47 (by decide)
            · rw [kE9 60 (by decide) (by decide) (by decide) (by decide)]; exact fN9 60 (by decide)
            · rw [kE 358 (by decide)]; exact fNM 358 (by decide)
            · rw [kE 357 (by decide)]; exact fNM 357 (by decide)
            · rw [kE 361 (by decide)]; exact fNM 361 (by decide)
            · rw [kE 362 (by decide)]; exact fNM 362 (by decide)
            · rw [kE 363 (by decide)]; exact fNM 363 (by decide)
            · rw [kE 364 (by decide), fNM 364 (by decide)]; exact hS.2.1 i (by omega)
          refine m_bnd (M0 := E) (by omega) hV hO (fun F g1 g2 g3 g4 g5 => ?_) (vL V).toNat 0 E mRE (aqG_refl E) (fun i' x y => by omega) rfl rfl (by omega) (by omega)
          generalize hG : bz_up F 319 61 2 = G
          have kG : ∀ r, r ≠ 319 → G r = F r := fun r hr => by rw [← hG, bz_up_fn hr]
          have kG9 : ∀ j, j ≠ 61 → G 319 j = F 319 j := fun j hj => by rw [← hG, bz_up_nk hj]
          have mRG : mR V S G := ⟨mV_co g1.1 (kG _ (by decide)) (kG9 _ (by decide)) (kG9 _ (by decide)) (kG _ (by decide)) (kG _ (by decide)) (kG _ (by decide)) (kG _ (by decide)) (kG _ (by decide)), fun i hi => by rw [kG 364 (by decide)]; exact g1.2 i hi⟩
          refine T_mono (m_ans (cs := cs) (t := decide (k < 3)) (by omega) hV hO hk0 hk5 hA hok (fun x => decide_eq_true x) (by omega) (vL V).toNat 0 (if k < 2 then -1 else 0) G mRG (fun i x y => by rw [kG 366 (by decide)]; exact g3 i x y) (by rw [kG 408 (by decide), g2.1 408 (by decide) (by decide) (by decide), kE 408 (by decide)]; exact y5) (by rw [kG9 121 (by decide), g2.2 121 (by decide), kE9 121 (by decide) (by decide) (by decide) (by decide)]; exact y4) (by rw [kG9 128 (by decide), g4, E128, ea]) (by rw [kG9 129 (by decide), g5, E129]; rfl) (by omega) (by omega) a0b) ?_
          rintro ⟨p3, H⟩ ⟨i1, i2⟩
          dsimp only at i1 i2 ⊢
          refine ⟨by rw [i1, d1], ?_⟩
          have h7 : ∀ j, ¬ aGk j → H 319 j = E 319 j := fun j hj => by rw [i2.2 j hj, kG9 j (by omega), g2.2 j hj]
          refine fin D H kD (by rw [e123]; exact b1) (fun r x1 x2 x3 x4 x5 => ?_) (fun j hj => ?_) ?_ ?_ ?_
          · rw [i2.1 r x1 x4 x5, kG r x1, g2.1 r x1 x4 x5, kE r x1]; exact f.1 r x1 x2 x3
          · rw [h7 j (by omega), kE9 j (by omega) (by omega) (by omega) (by omega)]; exact f.2 j (by omega)
          · rw [h7 1 (by decide), kE9 1 (by decide) (by decide) (by decide) (by decide)]; exact n1
          · rw [e123, b6, h7 7 (by decide), E7]
          · rw [e123, b7, h7 8 (by decide), E8]
        by_cases c2 : k < 2
        · rw [if_pos c2]; exact go (-1) (by rw [if_pos c2])
        · rw [if_neg c2]; exact go 0 (by rw [if_neg c2])
  · have h60 : M 319 60 = 0 := by
      rcases hS.2.2.1 with y | y
      · have hC := y.1.1.2.1
        have e := y.2.1.2.1.1.1
        omega
      · exact y.2.1.1
    refine T_le (eBr_ask_E (by omega) o) ?_
    rw [if_pos h131, if_pos (bz_b0.mpr c0)]
    refine T_some ?_
    dsimp only
    refine T_le (eMo_ask_E (by omega)) ?_
    rw [if_pos (by rw [bz_up_nr (by decide)]; exact h60)]
    exact T_some ⟨rfl, ⟨V, S, v, u, Sim_t hS⟩, fO_trans (fO_up (by decide)) (fO_up (by decide))⟩
end TM

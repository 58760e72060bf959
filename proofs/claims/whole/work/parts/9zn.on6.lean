/-! SIM: on, both -/
section TH
variable {Lg d : Nat} {V M M' M1 M2 N1 N2 : bz_M} {S S' B P T : Nat → Int} {v u s j n C R L : Nat} {l : List Int}
/-- what an image tells is a state -/
theorem on_st (hV : vOK V) (eC : vC V = (C : Int)) (eR : vR V = (R : Int)) (eL : vL V = (L : Int)) (hg : gOn T n C R L) (hT : ∀ k, k < n → 0 ≤ T k ∧ T k < 256) (h0 : S' 0 = 256 * T 0 + T 1) (h1 : S' 1 = 65536 * T 2 + (256 * T 3 + T 4)) (hr : ∀ c, c < 10 → S' (2 + c) = onR T C c) (hc : ∀ a b, a < 10 → b < 8 → S' (12 + (8 * a + b)) = onW T C R a b ∧ S' (92 + (8 * a + b)) = onE T C R a b) (hl : ∀ i, i < 5 → S' (172 + 2 * i) = onO T C R L i ∧ S' (173 + 2 * i) = onP T C R L i) : stO V S' := by
  have hC := hV.2.1
  have hR := hV.2.2.1
  have hL := hV.2.2.2.2.1
  obtain ⟨g1, g2, g3, g4, g5, g6, g7⟩ := hg
  have ho : oG C R = 5 + C + 2 * (C * R) := rfl
  have hF : oF C = 5 + C := rfl
  have t0 := hT 0 (by omega)
  have t1 := hT 1 (by omega)
  have t2 := hT 2 (by omega)
  have t3 := hT 3 (by omega)
  have t4 := hT 4 (by omega)
  have bc : ∀ a b, a < 10 → b < 8 → (0 ≤ onW T C R a b ∧ onW T C R a b ≤ 9) ∧ (0 ≤ onE T C R a b ∧ onE T C R a b ≤ 99) := fun a b x y => by
    unfold onW onE
    by_cases c : a < C ∧ b < R
    · have hm : (a + 1) * R = a * R + R := Nat.succ_mul a R
      have hm2 : (a + 1) * R ≤ C * R := Nat.mul_le_mul_right R c.1
      have := g6 (a * R + b) (by omega)
      unfold gC1 at this
      have q0 := hT (oF C + 2 * (a * R + b)) (by omega)
      have q1 := hT (oF C + 2 * (a * R + b) + 1) (by omega)
      rw [if_pos c, if_pos c]; omega
    · rw [if_neg c, if_neg c]; omega
  have wi : ∀ k : Int, 0 ≤ k → k < 80 → sWi S' k = onW T C R (k.toNat / 8) (k.toNat % 8) ∧ sEv S' k = onE T C R (k.toNat / 8) (k.toNat % 8) := fun k x y => by
    have := hc (k.toNat / 8) (k.toNat % 8) (by omega) (by omega)
    unfold sWi sEv
    rw [show Int.toNat (12 + k) = 12 + (8 * (k.toNat / 8) + k.toNat % 8) by omega, show Int.toNat (92 + k) = 92 + (8 * (k.toNat / 8) + k.toNat % 8) by omega]
    exact this
  have ld : ∀ k : Int, 0 ≤ k → k < 5 → sOf S' k = onO T C R L k.toNat ∧ sPu S' k = onP T C R L k.toNat := fun k x y => by
    have := hl k.toNat (by omega)
    unfold sOf sPu
    rw [show Int.toNat (172 + 2 * k) = 172 + 2 * k.toNat by omega, show Int.toNat (173 + 2 * k) = 173 + 2 * k.toNat by omega]
    exact this
  refine ⟨⟨by rw [h0]; omega, by rw [h1]; omega, fun c x y => ?_, fun k x y => ?_, fun k x y => ?_⟩, by rw [h0]; omega, fun k x y => ?_, fun k x y => ?_, fun c x y => ?_, fun a b x y z => ?_⟩
  · have := hr c.toNat (by omega)
    unfold sRow
    rw [show Int.toNat (2 + c) = 2 + c.toNat by omega, this]
    unfold onR
    rw [if_pos (by omega), eR]
    have q := hT (5 + c.toNat) (by omega)
    exact ⟨q.1, g5 c.toNat (by omega)⟩
  · rw [(wi k x y).1, (wi k x y).2]
    have := bc (k.toNat / 8) (k.toNat % 8) (by omega) (by omega)
    omega
  · rw [(ld k x (by omega)).1, (ld k x (by omega)).2]
    unfold onO onP
    rw [if_pos (by omega), if_pos (by omega)]
    have := g7 k.toNat (by omega)
    unfold gL1 at this
    have q0 := hT (oG C R + 3 * k.toNat) (by omega)
    have q1 := hT (oG C R + 3 * k.toNat + 1) (by omega)
    have q2 := hT (oG C R + 3 * k.toNat + 2) (by omega)
    omega
  · rw [(wi k x y).1]
    exact (bc (k.toNat / 8) (k.toNat % 8) (by omega) (by omega)).1.2
  · rw [(ld k (by omega) y).1, (ld k (by omega) y).2]
    unfold onO onP
    rw [if_neg (by omega), if_neg (by omega)]
    exact ⟨rfl, rfl⟩
  · rw [hr c y]
    unfold onR
    rw [if_neg (by omega)]
  · rw [(hc a b x y).1, (hc a b x y).2]
    unfold onW onE
    rw [if_neg (by omega), if_neg (by omega)]
    exact ⟨rfl, rfl⟩
theorem on_cS (hS0 : 0 ≤ S' 0 ∧ S' 0 ≤ 999) (h : oCl T C R L M) (h0 : S' 0 = 256 * T 0 + T 1) (h1 : S' 1 = 65536 * T 2 + (256 * T 3 + T 4)) (hr : ∀ c, c < 10 → S' (2 + c) = onR T C c) (hc : ∀ a b, a < 10 → b < 8 → S' (12 + (8 * a + b)) = onW T C R a b ∧ S' (92 + (8 * a + b)) = onE T C R a b) (hl : ∀ i, i < 5 → S' (172 + 2 * i) = onO T C R L i ∧ S' (173 + 2 * i) = onP T C R L i) : cS 286 S' M := by
  obtain ⟨⟨m0, m1, m2⟩, m3, m4, m5⟩ := h
  refine ⟨⟨by rw [m0, ← h0]; omega, by rw [m1, h1]⟩, fun c x y => ?_, fun k x y => ?_, fun k x y => ?_⟩
  · unfold sRow
    rw [show Int.toNat (2 + c) = 2 + c.toNat by omega, hr c.toNat (by omega)]
    exact m3 c.toNat (by omega)
  · have q := hc (k.toNat / 8) (k.toNat % 8) (by omega) (by omega)
    have p := m4 (k.toNat / 8) (k.toNat % 8) (by omega) (by omega)
    unfold sWi sEv
    rw [show Int.toNat (12 + k) = 12 + (8 * (k.toNat / 8) + k.toNat % 8) by omega, show Int.toNat (92 + k) = 92 + (8 * (k.toNat / 8) + k.toNat % 8) by omega, q.1, q.2]
    rw [show 8 * (k.toNat / 8) + k.toNat % 8 = k.toNat by omega] at p
    exact p
  · have q := hl k.toNat (by omega)
    unfold sOf sPu
    rw [show Int.toNat (172 + 2 * k) = 172 + 2 * k.toNat by omega, show Int.toNat (173 + 2 * k) = 173 + 2 * k.toNat by omega, q.1, q.2]
    exact m5 k.toNat (by omega)
theorem stp_on (hd : 3 < d) (h : Sim M) : stp (eBr_on Lg d) (eMo_on Lg d) M := by
  obtain ⟨V, S, v, u, hS⟩ := h
  have o := hS.1.1
  have hvv := oV_c o
  have h131 := hS.1.2.2.2.1
  have bd := sim_bd hS
  have t1 := hS.2.2.2.1
  have hn := tp_n t1
  have hb := t1.2.1
  generalize hNn : (M 319 1).toNat = n at hn
  have h1 : M 123 1 = (n : Int) := t1.1.trans hn
  have hn6 : n ≤ 1600 := by omega
  have hTc : ∀ k, k < n → M 124 k = bz_w8 (M 320 k) ∧ 0 ≤ M 320 k ∧ M 320 k < 256 := fun k hk => by have := t1.2.2 k (by omega); exact ⟨this.2, this.1.1, this.1.2⟩
  have ev : ∀ k, bz_up M 123 1 0 v k = M v k := fun k => bz_up_nr (by omega) k
  by_cases c0 : 0 < M v 0
  · obtain ⟨h60, hv⟩ := bd.2.2.2 (Or.inl c0)
    have hV := hv.1.1
    have hC := hV.2.1
    have hR := hV.2.2.1
    have hL := hV.2.2.2.2.1
    have eC : vC V = (((vC V).toNat : Nat) : Int) := by omega
    have eR : vR V = (((vR V).toNat : Nat) : Int) := by omega
    have eL : vL V = (((vL V).toNat : Nat) : Int) := by omega
    have e0 : M v 0 = vC V := hv.2.1.2.1.1.1
    have e1 : M v 1 = vR V := hv.2.1.2.1.1.2.1
    have e3 : M v 3 = vL V := hv.2.1.2.1.1.2.2.2.1
    have f0 : M 355 3 = vC V := hv.2.2.1.1.1
    have f1 : M 355 4 = vR V := hv.2.2.1.1.2.1
    have f3 : M 319 47 = vL V := hv.2.2.1.1.2.2.2.1
    generalize hgC : (vC V).toNat = C at eC
    generalize hgR : (vR V).toNat = R at eR
    generalize hgL : (vL V).toNat = L at eL
    have vo := hv.2.2.2.2.2
    have sO := va_stO hv
    have kv : ∀ r, r ≠ 123 → bz_up M 123 1 0 r = M r := fun r hr => bz_up_fn hr
    refine T_le (eBr_on_E (by omega) o) ?_
    rw [if_pos h131, if_neg (fun e => bz_b0.mp e (by rw [ev 0]; exact c0)), h1]
    refine T_seq (c_rd (M := bz_up M 123 1 0) (T := M 320) (n := n) (C := C) (R := R) (L := L) (by omega) o (by rw [ev 0, e0, eC]) (by rw [ev 1, e1, eR]) (by rw [ev 3, e3, eL]) (by omega) (by omega) (by omega) (fun k hk => by have t := hTc k hk; rw [kv 124 (by decide), t.1]; exact ⟨w8_255 t.2.1 t.2.2, t.2⟩) hn6 (fun k x y => by rw [kv _ (by omega)]; exact vo.1 k (by omega) y) (fun a b x y z => by rw [kv _ (by omega)]; exact vo.2.1 a b x y (by omega)) (fun l x y => by rw [kv _ (by omega)]; exact vo.2.2 l (by omega) y)) ?_
    rintro ⟨p1, M1⟩ ⟨fr, alt⟩
    dsimp only at fr alt ⊢
    rcases alt with ⟨a1, hg, hO⟩ | ⟨a1, hg⟩
    · rw [if_neg (by omega)]
      obtain ⟨M2, e2, b0, b1, b2, b4, bf⟩ := st_copy (Lg := Lg) (d := d - 1) (M := M1) (show bz_oS 148 by decide) (show bz_oS 286 by decide) (by decide)
      refine T_run e2 ?_
      refine T_seq (R := fun M3 => M3 = bz_up M2 157 0 0) (T_le ePa_forget_E (T_some rfl)) ?_
      rintro M3 rfl
      refine T_some ?_
      dsimp only
      generalize hZ : bz_up M2 157 0 0 = Z
      have kZ : ∀ r, r ≠ 157 → Z r = M2 r := fun r hr => by rw [← hZ, bz_up_fn hr]
      have kM : ∀ r, r ≠ 157 → ¬ (148 ≤ r ∧ r ≤ 153) → ¬ (286 ≤ r ∧ r ≤ 291) → r ≠ 123 → Z r = M r := fun r x1 x2 x3 x4 => by rw [kZ r x1, bf r (by omega), fr r x3, bz_up_fn x4]
      refine T_le (eMo_on_E (by omega)) ?_
      have e9 : Z 319 = M 319 := kM 319 (by decide) (by decide) (by decide) (by decide)
      rw [e9, hn]
      have kY : ∀ r, r ≠ 319 → bz_up Z 319 1 0 r = Z r := fun r hr => bz_up_fn hr
      have hT2 : ∀ k, k < n → bz_up Z 319 1 0 320 k = M 320 k ∧ 0 ≤ M 320 k ∧ M 320 k < 256 := fun k hk => by
        rw [kY 320 (by decide), kM 320 (by decide) (by decide) (by decide) (by decide)]; exact ⟨rfl, (hTc k hk).2⟩
      have y0 : bz_up Z 319 1 0 355 3 = (C : Int) := by rw [kY 355 (by decide), kM 355 (by decide) (by decide) (by decide) (by decide), f0, eC]
      have y1 : bz_up Z 319 1 0 355 4 = (R : Int) := by rw [kY 355 (by decide), kM 355 (by decide) (by decide) (by decide) (by decide), f1, eR]
      have y3 : bz_up Z 319 1 0 319 47 = (L : Int) := by rw [bz_up_nk (by decide), e9, f3, eL]
      refine T_seq (m_isIm (T := M 320) (n := n) (C := C) (R := R) (L := L) (by omega) (by rw [bz_up_nk (by decide), e9]; exact h60) y0 y1 y3 (by omega) (by omega) (by omega) hn6 hT2) ?_
      rintro ⟨q1, N⟩ ⟨rfl, alt2⟩
      dsimp only at alt2 ⊢
      have q2 : q1 = 1 := by
        rcases alt2 with x | x
        · exact x.1
        · exact absurd hg x.2
      rw [if_neg (by omega)]
      have hgn := hg.1
      have hoG : oG C R = 5 + C + 2 * (C * R) := rfl
      refine T_run (m_tw (T := M 320) (j := 0) (fun k x y => hT2 k (by omega)) (by omega)) ?_
      dsimp only
      refine T_run (m_tw (T := M 320) (j := 3) (fun k x y => by rw [bz_up_nr (by decide)]; exact hT2 k (by omega)) (by omega)) ?_
      dsimp only
      have u2 := hT2 2 (by omega)
      have u3 := hT2 3 (by omega)
      have u4 := hT2 4 (by omega)
      rw [u2.1, show (0 : Nat) + 1 = 1 from rfl, show (3 : Nat) + 1 = 4 from rfl, w32_id (z := 65536 * M 320 2) (by omega) (by omega), w32_id (z := 65536 * M 320 2 + (256 * M 320 3 + M 320 4)) (by omega) (by omega)]
      generalize hX : 256 * M 320 0 + M 320 1 = X
      generalize hY : 65536 * M 320 2 + (256 * M 320 3 + M 320 4) = Y
      generalize hW : bz_up (bz_up (bz_up Z 319 1 0) 364 0 X) 364 1 Y = W
      have kW : ∀ r, r ≠ 364 → W r = bz_up Z 319 1 0 r := fun r hr => by rw [← hW, bz_up_fn hr, bz_up_fn hr]
      refine T_mono (m_onR (M := W) (T := M 320) (n := n) (C := C) (R := R) (L := L) (by omega) (by rw [kW 355 (by decide)]; exact y0) (by rw [kW 355 (by decide)]; exact y1) (by rw [kW 319 (by decide)]; exact y3) (by omega) (by omega) (by omega) (by rw [kW 320 (by decide)]; exact hT2) hn6 (by omega) C 0 W (by omega) (fun j hj => by omega) (fun _ _ => rfl) (fun _ _ => rfl)) ?_
      rintro ⟨p3, F⟩ ⟨c1, d1, d2, d3, d4, d5, d6, d7, d8⟩
      dsimp only at c1 d1 d2 d3 d4 d5 d6 d7 d8 ⊢
      have kF : ∀ r, r ≠ 364 → r ≠ 319 → F r = Z r := fun r x y => by rw [d8 r x y, kW r x, kY r y]
      have kF9 : ∀ i, i ≠ 1 → i ≠ 85 → F 319 i = M 319 i := fun i x y => by rw [d7 i y, kW 319 (by decide), bz_up_nk x, e9]
      have kFM : ∀ r, r ≠ 364 → r ≠ 319 → r ≠ 157 → ¬ (148 ≤ r ∧ r ≤ 153) → ¬ (286 ≤ r ∧ r ≤ 291) → r ≠ 123 → F r = M r := fun r x y a b c e => by rw [kF r x y, kM r a b c e]
      have eW : ∀ i, i ≠ 0 → i ≠ 1 → W 364 i = M 364 i := fun i x y => by rw [← hW, bz_up_nk y, bz_up_nk x, kY 364 (by decide), kM 364 (by decide) (by decide) (by decide) (by decide)]
      have g0 : F 364 0 = X := by rw [d4 0 (by decide) (by omega) (fun a b _ _ => by omega) (by omega), ← hW, bz_up_nk (by decide), bz_up_eq]
      have g1 : F 364 1 = Y := by rw [d4 1 (by decide) (by omega) (fun a b _ _ => by omega) (by omega), ← hW, bz_up_eq]
      have old : ∀ i, i < 303 → M 364 i = S i := hS.2.1
      have gr : ∀ c, c < 10 → F 364 (2 + c) = onR (M 320) C c := fun c hc => by
        unfold onR
        by_cases x : c < C
        · rw [if_pos x]; exact d1 c x
        · rw [if_neg x, d4 (2 + c) (by omega) (by omega) (fun a b _ _ => by omega) (by omega), eW _ (by omega) (by omega), old _ (by omega)]
          exact sO.2.2.2.2.1 c (by omega) hc
      have gc : ∀ a b, a < 10 → b < 8 → F 364 (12 + (8 * a + b)) = onW (M 320) C R a b ∧ F 364 (92 + (8 * a + b)) = onE (M 320) C R a b := fun a b ha hb' => by
        unfold onW onE
        by_cases x : a < C ∧ b < R
        · rw [if_pos x, if_pos x]; exact d2 a b x.1 x.2
        · rw [if_neg x, if_neg x, d4 (12 + (8 * a + b)) (by omega) (by omega) (fun a' b' _ _ => by omega) (by omega), d4 (92 + (8 * a + b)) (by omega) (by omega) (fun a' b' _ _ => by omega) (by omega), eW _ (by omega) (by omega), eW _ (by omega) (by omega), old _ (by omega), old _ (by omega)]
          exact sO.2.2.2.2.2 a b ha hb' (by omega)
      have gl : ∀ i, i < 5 → F 364 (172 + 2 * i) = onO (M 320) C R L i ∧ F 364 (173 + 2 * i) = onP (M 320) C R L i := fun i hi => by
        unfold onO onP
        by_cases x : i < L
        · rw [if_pos x, if_pos x]; exact d3 i x
        · have z := sO.2.2.2.1 (i : Int) (by omega) (by omega)
          unfold sOf sPu at z
          rw [show Int.toNat (172 + 2 * (i : Int)) = 172 + 2 * i by omega, show Int.toNat (173 + 2 * (i : Int)) = 173 + 2 * i by omega] at z
          rw [if_neg x, if_neg x, d4 (172 + 2 * i) (by omega) (by omega) (fun a b _ _ => by omega) (by omega), d4 (173 + 2 * i) (by omega) (by omega) (fun a b _ _ => by omega) (by omega), eW _ (by omega) (by omega), eW _ (by omega) (by omega), old _ (by omega), old _ (by omega)]
          exact z
      have hst : stO V (F 364) := on_st hV eC eR eL hg (fun k hk => (hTc k hk).2) (by rw [g0, ← hX]) (by rw [g1, ← hY]) gr gc gl
      have hcs : cS 286 (F 364) M1 := on_cS ⟨hst.1.1.1, hst.2.1⟩ hO (by rw [g0, ← hX]) (by rw [g1, ← hY]) gr gc gl
      have hcs2 : cS 148 (F 364) M2 := cS_cp hcs b0 b1 b2 b4
      have kF8 : ∀ r, 148 ≤ r → r ≤ 153 → F r = M2 r := fun r x y => by rw [kF r (by omega) (by omega), kZ r (by omega)]
      have pa := hS.2.2.2.2.2.2.2.2.2.2.2.1
      have t4 := hS.2.2.2.2.2.2.1
      have e157 : M2 157 = M 157 := by rw [bf 157 (by decide), fr 157 (by decide), bz_up_fn (by decide)]
      refine ⟨c1, ⟨V, F 364, v, u, Sim_act hS hv ⟨fun r x1 x2 x3 x4 x5 x6 x7 x8 x9 x10 x11 x12 x13 x14 x15 => kFM r (by omega) (by omega) (by omega) (by omega) (by omega) (by omega), by rw [kFM 131 (by decide) (by decide) (by decide) (by decide) (by decide) (by decide)], fun k _ => by rw [kFM 122 (by decide) (by decide) (by decide) (by decide) (by decide) (by decide)], fun k hk => ?_, fun k _ x1 x2 _ _ => kF9 k x1 x2⟩ (tpR_0 ?_ ?_) ?_ hst (cS_co hcs2 (kF8 _ (by decide) (by decide)) (kF8 _ (by decide) (by decide)) (kF8 _ (by decide) (by decide)) (kF8 _ (by decide) (by decide)) (kF8 _ (by decide) (by decide)) (kF8 _ (by decide) (by decide))) (fun _ _ => rfl) ?_ (paR_0 ?_ d6 ⟨?_, ?_⟩ ?_)⟩, fun r hr => kFM r (by omega) (by omega) (by omega) (by omega) (by omega) (by omega)⟩
      · rw [kF 123 (by decide) (by decide), kZ 123 (by decide), bf 123 (by decide), fr 123 (by decide), bz_up_nk hk]
      · rw [kF 123 (by decide) (by decide), kZ 123 (by decide), bf 123 (by decide), fr 123 (by decide), bz_up_eq]
      · rw [d7 1 (by decide), kW 319 (by decide), bz_up_eq]
      · unfold drR at t4 ⊢
        rw [kFM 122 (by decide) (by decide) (by decide) (by decide) (by decide) (by decide), kF9 87 (by decide) (by decide)]
        exact t4
      · have e48 : F 148 2 = 0 := by rw [kF8 148 (by decide) (by decide), b0.2.2]; exact hO.1.2.2
        refine ⟨by rw [e48]; exact ⟨by decide, by decide, hst.1.1.1⟩, by rw [e48, d5]; rfl, fun i hi => ?_⟩
        rw [d5] at hi
        omega
      · rw [kF 157 (by decide) (by decide), ← hZ, bz_up_eq]
      · rw [kF 157 (by decide) (by decide), ← hZ, bz_up_nk (by decide), e157, kF9 86 (by decide) (by decide)]; exact pa.1.2
      · rw [kF 157 (by decide) (by decide), ← hZ, bz_up_nk (by decide), e157]; exact pa.2.2.1
      · intro i hi
        rw [kFM 158 (by decide) (by decide) (by decide) (by decide) (by decide) (by decide)]; exact pa.2.2.2.1 i hi
    · rw [if_pos a1]
      -- the store as if the class had only the state ahead changed
      generalize hA : (fun r => if 286 ≤ r ∧ r ≤ 291 then M1 r else M r : bz_M) = A
      have eA : M1 = bz_up A 123 1 0 := by
        funext r
        rw [← hA]
        by_cases x : 286 ≤ r ∧ r ≤ 291
        · rw [bz_up_fn (by omega)]
          show _ = if _ then _ else _
          rw [if_pos x]
        · rw [fr r x]
          by_cases y : r = 123
          · rw [y]
            funext i
            rw [bz_up_rk, bz_up_rk]
            rfl
          · rw [bz_up_fn y, bz_up_fn y]
            show _ = if _ then _ else _
            rw [if_neg x]
      have qA : sQ M A := by
        rw [← hA]
        refine ⟨fun r x => ?_, ?_, fun k _ => ?_⟩
        · show (if _ then _ else _) = _
          rw [if_neg (by omega)]
        · show (if _ then _ else _ : Nat → Int) 1 = _
          rw [if_neg (by decide)]
        · show (if _ then _ else _ : Nat → Int) k = _
          rw [if_neg (by decide)]
      have hSA := Sim_q hS qA
      have kA : ∀ r, ¬ (286 ≤ r ∧ r ≤ 291) → A r = M r := fun r hr => by
        rw [← hA]
        show (if _ then _ else _) = _
        rw [if_neg hr]
      have stpA : stp (fun N => some (0, bz_up (bz_up N 123 1 0) 302 5 (bz_w32 (N 302 5 + 1)))) (eMo_on Lg d) A := by
        refine ref_tp (a := 5) (x := 0) hSA (by decide) (T_some rfl) (fun N kN => T_le (eMo_on_E (by omega)) ?_)
        have kNM : ∀ r, r ≠ 302 → r ≠ 123 → ¬ (286 ≤ r ∧ r ≤ 291) → N r = M r := fun r x y z => by rw [kN r x y, kA r z]
        have e9 : N 319 = M 319 := kNM 319 (by decide) (by decide) (by decide)
        rw [e9, hn]
        have kY : ∀ r, r ≠ 319 → bz_up N 319 1 0 r = N r := fun r hr => bz_up_fn hr
        refine T_seq (m_isIm (T := M 320) (n := n) (C := C) (R := R) (L := L) (by omega) (by rw [bz_up_nk (by decide), e9]; exact h60) (by rw [kY 355 (by decide), kNM 355 (by decide) (by decide) (by decide), f0, eC]) (by rw [kY 355 (by decide), kNM 355 (by decide) (by decide) (by decide), f1, eR]) (by rw [bz_up_nk (by decide), e9, f3, eL]) (by omega) (by omega) (by omega) hn6 (fun k hk => by rw [kY 320 (by decide), kNM 320 (by decide) (by decide) (by decide)]; exact ⟨rfl, (hTc k hk).2⟩)) ?_
        rintro ⟨q1, N'⟩ ⟨rfl, alt2⟩
        dsimp only at alt2 ⊢
        have q2 : q1 = 0 := by
          rcases alt2 with x | x
          · exact absurd x.2 hg
          · exact x.1
        rw [if_pos q2, bz_up_nr (show 321 ≠ 319 by decide)]
        exact T_some rfl
      obtain ⟨pr, hpr, hpr2⟩ := stpA
      cases hpr
      refine T_seq (br_refuses (a := 5) (by decide)) ?_
      rintro p rfl
      rw [if_pos (Or.inl rfl)]
      refine T_some ?_
      dsimp only at hpr2 ⊢
      rw [eA, bz_up_nr (show 302 ≠ 123 by decide)]
      refine T_mono hpr2 ?_
      rintro p ⟨x1, x2, x3⟩
      refine ⟨x1, x2, fun r hr => ?_⟩
      rw [x3 r hr, kA r (by omega)]
  · refine ref_tp (a := 5) (x := 0) hS (by decide) (T_le (eBr_on_E (by omega) o) ?_) (fun N kN => T_le (eMo_on_E (by omega)) ?_)
    · rw [if_pos h131, if_pos (bz_b0.mpr (by rw [ev 0]; exact c0))]
      refine T_seq (br_refuses (a := 5) (by decide)) ?_
      rintro p rfl
      rw [if_pos (Or.inl rfl), bz_up_nr (show 302 ≠ 123 by decide)]
      exact T_some rfl
    · have h60 : M 319 60 = 0 := by
        rcases hS.2.2.1 with y | y
        · have hC := y.1.1.2.1
          have e := y.2.1.2.1.1.1
          omega
        · exact y.2.1.1
      have e9 : N 319 = M 319 := kN 319 (by decide) (by decide)
      refine T_seq (R := fun p => p = ((0 : Int), bz_up N 319 1 0)) (T_le (eMo_isImage_E (by omega)) ?_) ?_
      · rw [if_pos (by rw [bz_up_nk (by decide), e9]; exact h60)]
        exact T_some rfl
      · rintro p rfl
        dsimp only
        rw [if_pos rfl, bz_up_nr (show 321 ≠ 319 by decide)]
        exact T_some rfl
end TH

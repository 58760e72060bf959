/-! THE REFERENCE'S CODES: a question's -/
section TO
variable {Lg d k : Nat} {i : Int} {M M0 : bz_M} {F : Int → Int} {G : Int → Int → Int}
theorem mo_tstep {op : Int} {st : List Int} {ts t1 : List Bool} (hd : 1 < d) (hFb : ∀ p, -1000000 ≤ F p ∧ F p ≤ 1000000) (hGb : ∀ p x, -1000000 ≤ G p x ∧ G p x ≤ 1000000) (hF : 40 ≤ op → op < 60 → eMo_qPartOf Lg (d - 1) (op - 40) i M = some (F (op - 40), M)) (hG : 60 ≤ op → op < 1000 → ∀ x, -1000000 ≤ x → x ≤ 1000000 → eMo_qOf Lg (d - 1) (op - 60) x i M = some (G (op - 60) x, M)) (ho : pOp op) (ht : pT1 op ts = some t1) (hl0 : st.length ≤ 64) (hv : pV ts st) (hs : mSt M st) (hk : M 408 k = op) (hkb : k < 1700) (hsz : (k : Int) < M 319 121) : ∃ M', mSt M' (pStep F G op st) ∧ mFr M M' ∧ bz_le (eMo_qTold_7 Lg d i ((k : Int) + 1) M') (eMo_qTold_7 Lg d i (k : Int) M) := by
  have wk : bz_w32 ((k : Int) + 1) = (k : Int) + 1 := w32_id (by omega) (by omega)
  have hE := eMo_qTold_7_E (Lg := Lg) (d := d) (x1 := i) (x2 := (k : Int)) (M := M) (by omega)
  rw [if_pos hsz, if_pos (by omega), Int.toNat_natCast, hk, wk] at hE
  unfold pOp at ho
  unfold pStep
  by_cases h1 : 1000 ≤ op
  · rw [if_pos h1]
    rw [if_neg (by omega), w32_id (by omega) (by omega), mo_puts hs.1 (by omega), Option.bind_some] at hE
    exact ⟨_, (mo_push hs).1, (mo_push hs).2, hE⟩
  rw [if_neg h1]
  rw [if_pos (by omega)] at hE
  by_cases h2 : 60 ≤ op
  · rw [if_pos h2]
    rw [if_neg (by omega)] at hE
    obtain ⟨x, r, rfl, _, hx⟩ := pT1_one (show op = 12 ∨ op = 60 ∨ op = 61 by omega) ht hv
    have hx := hx h2
    have hg := hGb (op - 60) x
    simp only [List.length_cons] at hl0
    have w1 : bz_w32 (M 319 127 - 1) = (r.length : Int) := by rw [hs.1]; simp only [List.length_cons]; rw [w32_id (by omega) (by omega)]; omega
    rw [w1, if_pos (by omega), Int.toNat_natCast, hs.2.1, w32_id (z := op - 60) (by omega) (by omega), hG h2 (by omega) x hx.1 hx.2, Option.bind_some, mo_clip, Option.bind_some, pClip_id hg.1 hg.2] at hE
    exact ⟨_, (mo_neg hs _).1, (mo_neg hs _).2, hE⟩
  rw [if_neg h2]
  rw [if_pos (by omega)] at hE
  by_cases h3 : 40 ≤ op
  · rw [if_pos h3]
    have hf := hFb (op - 40)
    rw [if_neg (by omega), w32_id (z := op - 40) (by omega) (by omega), hF h3 (by omega), Option.bind_some, mo_clip, Option.bind_some, pClip_id hf.1 hf.2, mo_puts hs.1 (by omega), Option.bind_some] at hE
    exact ⟨_, (mo_push hs).1, (mo_push hs).2, hE⟩
  rw [if_neg h3]
  rw [if_pos (by omega)] at hE
  by_cases h4 : op = 13
  · rw [if_pos h4]
    rw [if_pos h4, mo_puts hs.1 (by omega), Option.bind_some] at hE
    exact ⟨_, (mo_push hs).1, (mo_push hs).2, hE⟩
  rw [if_neg h4]
  rw [if_neg h4] at hE
  by_cases h5 : op = 12
  · rw [if_pos h5]
    rw [if_pos h5] at hE
    obtain ⟨x, r, rfl, hx, _⟩ := pT1_one (Or.inl h5) ht hv
    have hx := hx h5
    simp only [List.length_cons] at hl0
    have w1 : bz_w32 (M 319 127 - 1) = (r.length : Int) := by rw [hs.1]; simp only [List.length_cons]; rw [w32_id (by omega) (by omega)]; omega
    rw [w1, if_pos (by omega), Int.toNat_natCast, hs.2.1, w64_id (by omega) (by omega)] at hE
    exact ⟨_, (mo_neg hs (1 - x)).1, (mo_neg hs (1 - x)).2, hE⟩
  rw [if_neg h5]
  rw [if_neg h5] at hE
  obtain ⟨b, a, r, rfl, hN, hT⟩ := pT1_two (by omega) (by omega) ht hv
  simp only [List.length_cons] at hl0
  obtain ⟨M', e, hs', hf⟩ := mo_joins2 (Lg := Lg) (d := d - 1) (by omega) hs (by omega) (by omega) (by omega) hN hT
  rw [e, Option.bind_some] at hE
  exact ⟨M', hs', hf, hE⟩
theorem mo_tloop {Ao : Int → Prop} {x : Int} (hd : 1 < d) (hFb : ∀ p, -1000000 ≤ F p ∧ F p ≤ 1000000) (hGb : ∀ p x, -1000000 ≤ G p x ∧ G p x ≤ 1000000) (hF : ∀ p M, mFr M0 M → 0 ≤ p → p ≤ 17 → Ao (40 + p) → eMo_qPartOf Lg (d - 1) p i M = some (F p, M)) (hG : ∀ q M, mFr M0 M → (q = 0 ∨ q = 1) → ∀ x, -1000000 ≤ x → x ≤ 1000000 → eMo_qOf Lg (d - 1) q x i M = some (G q x, M)) : ∀ (ops : List Int) (k : Nat) (st : List Int) (ts ts' : List Bool) (M : bz_M), mFr M0 M → (∀ op ∈ ops, Ao op) → pOK ops ts ts' → pV ts st → st.length ≤ 64 → mSt M st → zSeg (M0 408) k ops → M0 319 121 = (k : Int) + (ops.length : Int) → k + ops.length ≤ 1700 → pEv F G ops st = [x] → w_T (eMo_qTold_7 Lg d i (k : Int) M) (fun p => p.1 = x ∧ mFr M0 p.2)
  | [], k, st, ts, ts', M, hfr, hA, hok, hv, hl, hs, hseg, hsz, hb, hx => by
    unfold pEv at hx
    subst hx
    refine T_le (eMo_qTold_7_E (by omega)) ?_
    rw [hfr.2 121 (by decide), hsz, if_neg (by simp)]
    exact T_some ⟨hs.2.1, hfr⟩
  | op :: ops, k, st, ts, ts', M, hfr, hA, hok, hv, hl, hs, hseg, hsz, hb, hx => by
    obtain ⟨ho, t1, ht, hl1, hok'⟩ := hok
    simp only [List.length_cons] at hsz hb
    have ha := hA op List.mem_cons_self
    obtain ⟨M', hs', hf', hle⟩ := mo_tstep (Lg := Lg) (F := F) (G := G) (d := d) (k := k) (M := M) (i := i) hd hFb hGb (fun h1 h2 => hF _ M hfr (by omega) (by unfold pOp at ho; omega) (by rw [show (40 + (op - 40) : Int) = op by omega]; exact ha)) (fun h1 h2 => hG _ M hfr (by unfold pOp at ho; omega)) ho ht hl hv hs (by rw [hfr.1 408 (by decide) (by decide)]; exact hseg.1) (by omega) (by rw [hfr.2 121 (by decide), hsz]; omega)
    have hv1 := pStep_V hFb hGb ho ht hv
    have hlen := pV_len hv1
    unfold pEv at hx
    have ih := mo_tloop hd hFb hGb hF hG ops (k + 1) _ t1 ts' M' (mFr_trans hfr hf') (fun o ho => hA o (List.mem_cons_of_mem _ ho)) hok' hv1 (by omega) hs' hseg.2 (by rw [hsz]; push_cast; omega) (by omega) hx
    exact T_le hle (by simpa using ih)
theorem mo_told {Ao : Int → Prop} {x : Int} {ops : List Int} {t : Bool} (hd : 1 < d) (hFb : ∀ p, -1000000 ≤ F p ∧ F p ≤ 1000000) (hGb : ∀ p x, -1000000 ≤ G p x ∧ G p x ≤ 1000000) (hF : ∀ p M', mFr (bz_up M 319 127 0) M' → 0 ≤ p → p ≤ 17 → Ao (40 + p) → eMo_qPartOf Lg (d - 1) p i M' = some (F p, M')) (hG : ∀ q M', mFr (bz_up M 319 127 0) M' → (q = 0 ∨ q = 1) → ∀ x, -1000000 ≤ x → x ≤ 1000000 → eMo_qOf Lg (d - 1) q x i M' = some (G q x, M')) (hA : ∀ op ∈ ops, Ao op) (hok : pOK ops [] [t]) (hseg : zSeg (M 408) 0 ops) (hsz : M 319 121 = (ops.length : Int)) (hb : ops.length ≤ 1700) (hx : pEv F G ops [] = [x]) : w_T (eMo_qTold Lg d i M) (fun p => p.1 = x ∧ mFr (bz_up M 319 127 0) p.2) := by
  refine T_le eMo_qTold_E ?_
  exact mo_tloop hd hFb hGb hF hG ops 0 [] [] [t] _ (mFr_refl _) hA hok trivial (by simp) ⟨bz_up_eq _ _ _ _, trivial⟩ (by rw [bz_up_fn (by decide)]; exact hseg) (by rw [bz_up_nk (by decide), hsz]; simp) (by omega) hx
end TO

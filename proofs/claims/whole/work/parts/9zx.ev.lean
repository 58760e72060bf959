/-! THE OBJECTS THAT THE LAW MAKES FIRST: a walk over lists, that is one of the small machine -/
abbrev zW : Type := List (Nat × Nat × Int)
def zg : zW → Nat → Nat → Option Int
  | [], _, _ => none
  | q :: W, r, k => match Nat.beq q.1 r && Nat.beq q.2.1 k with
    | true => some q.2.2
    | false => zg W r k
def mm (B : bz_M) (N : Nat) (W : zW) : bz_M := fun r k => if r = 0 then (if k = 0 then (N : Int) else 0) else (zg W r k).getD (B r k)
def zok (N : Nat) (W : zW) : Prop := bz_ns ≤ N ∧ ∀ q ∈ W, q.1 ≤ N
theorem mm_N {B : bz_M} {N : Nat} {W : zW} : (mm B N W 0 0).toNat = N := by
  show (N : Int).toNat = N
  omega
theorem zg_hi : ∀ {W : zW} {N r k : Nat}, (∀ q ∈ W, q.1 ≤ N) → N < r → zg W r k = none
  | [], _, _, _, _, _ => rfl
  | q :: W, N, r, k, h, hr => by
    unfold zg
    have h1 := h q List.mem_cons_self
    cases hb : Nat.beq q.1 r && Nat.beq q.2.1 k with
    | true =>
      rw [Bool.and_eq_true] at hb
      have := Nat.eq_of_beq_eq_true hb.1
      omega
    | false => exact zg_hi (fun q hq => h q (List.mem_cons_of_mem _ hq)) hr
theorem mm_z {B : bz_M} {N k : Nat} {W : zW} : mm B N W 0 k = (if k = 0 then (N : Int) else 0) := rfl
theorem mm_r {B : bz_M} {N r k : Nat} {W : zW} (h : r ≠ 0) : mm B N W r k = (zg W r k).getD (B r k) := if_neg h
theorem zg_t {W : zW} {r k : Nat} {v : Int} : zg ((r, k, v) :: W) r k = some v := by
  show (match Nat.beq r r && Nat.beq k k with | true => some v | false => zg W r k) = _
  rw [show (Nat.beq r r && Nat.beq k k) = true by simp]
theorem zg_f {W : zW} {r k r' k' : Nat} {v : Int} (h : ¬ (r = r' ∧ k = k')) : zg ((r, k, v) :: W) r' k' = zg W r' k' := by
  show (match Nat.beq r r' && Nat.beq k k' with | true => some v | false => zg W r' k') = _
  cases hb : Nat.beq r r' && Nat.beq k k' with
  | true =>
    rw [Bool.and_eq_true] at hb
    exact absurd ⟨Nat.eq_of_beq_eq_true hb.1, Nat.eq_of_beq_eq_true hb.2⟩ h
  | false => rfl
theorem mm_up {B : bz_M} {N : Nat} {W : zW} {r k : Nat} {v : Int} (h : 0 < r) : bz_up (mm B N W) r k v = mm B N ((r, k, v) :: W) := by
  funext r' k'
  by_cases e : r' = r
  · subst e
    by_cases e2 : k' = k
    · subst e2
      rw [bz_up_same, mm_r (by omega), zg_t]; rfl
    · rw [bz_up_k _ _ _ e2, mm_r (by omega), mm_r (by omega), zg_f (fun q => e2 q.2.symm)]
  · rw [bz_up_r _ _ _ e]
    by_cases e0 : r' = 0
    · subst e0; rw [mm_z, mm_z]
    · rw [mm_r e0, mm_r e0, zg_f (fun q => e q.1.symm)]
theorem mm_new {B : bz_M} {N : Nat} {W : zW} (h : zok N W) (hB : ∀ r k, bz_ns < r → B r k = 0) : bz_up (bz_zero (mm B N W) (N + 1)) 0 0 ((N + 1 : Nat) : Int) = mm B (N + 1) W := by
  funext r k
  by_cases e0 : r = 0
  · subst e0
    by_cases e2 : k = 0
    · subst e2; rw [bz_up_same, mm_z, if_pos rfl]
    · rw [bz_up_k _ _ _ e2, mm_z, if_neg e2]
      unfold bz_zero
      rw [if_neg (by omega), mm_z, if_neg e2]
  · rw [bz_up_r _ _ _ e0]
    unfold bz_zero
    by_cases e1 : r = N + 1
    · rw [if_pos e1, mm_r e0, zg_hi h.2 (by omega)]
      exact (hB r k (by have := h.1; omega)).symm
    · rw [if_neg e1, mm_r e0, mm_r e0]
theorem kd_0 {Lg r : Nat} (h : r ≠ 1) : bz_kd Lg r = bz_kd 0 r := by
  unfold bz_kd
  split
  · rfl
  · exact absurd rfl h
  · rfl
abbrev zNx : Type := Nat × bz_Ls × bz_S × Nat × zW
def zput (r k : Nat) (v : Int) (pc : Nat) (L : bz_Ls) (st : bz_S) (N : Nat) (W : zW) : Option zNx := match Nat.blt 121 r && Nat.ble r N with
  | true => some (pc, L, st, N, (r, k, v) :: W)
  | false => none
def znew (z : bz_Kd) (pc : Nat) (L : bz_Ls) (st : bz_S) (N : Nat) (W : zW) : Option zNx := match decide (bz_kd 0 (N + 1) = some z) with
  | true => some (pc, L, .inr (.inr (N + 1)) :: st, N + 1, W)
  | false => none
def es (e : bz_E) (p : Nat) (L : bz_Ls) (st : bz_S) (N : Nat) (W : zW) : Option zNx := match e.1 with
  | .aload_n k => (match L[k.val]? with
    | some (some (.inr (.inr x))) => some (p + e.2.1, L, .inr (.inr x) :: st, N, W)
    | _ => none)
  | .iload_n k => (match L[k.val]? with
    | some (some (.inl x)) => some (p + e.2.1, L, .inl x :: st, N, W)
    | _ => none)
  | .istore_n k => (match st with
    | .inl x :: st' => if k.val < L.length then some (p + e.2.1, bz_st1 L k.val (.inl x), st', N, W) else none
    | _ => none)
  | .iinc k n => (match L[k]? with
    | some (some (.inl x)) => some (p + e.2.1, bz_st1 L k (.inl (bz_w32 (x + n))), st, N, W)
    | _ => none)
  | .iconst n => some (p + e.2.1, L, .inl n :: st, N, W)
  | .bipush n => some (p + e.2.1, L, .inl n :: st, N, W)
  | .sipush n => some (p + e.2.1, L, .inl n :: st, N, W)
  | .lconst n => some (p + e.2.1, L, .inr (.inl (n.val : Int)) :: st, N, W)
  | .aconst_null => some (p + e.2.1, L, .inr (.inr 0) :: st, N, W)
  | .dup => (match st with
    | .inr (.inr a) :: st' => some (p + e.2.1, L, .inr (.inr a) :: .inr (.inr a) :: st', N, W)
    | _ => none)
  | .getfield _ => (match st with
    | .inr (.inr r) :: st' => if 121 < r ∧ bz_kd 0 r = some (.inl (e.2.2.1.getD 0 0)) ∧ e.2.2.1.getD 2 9 = 2 then (match zg W r (e.2.2.1.getD 1 0) with
      | some v => some (p + e.2.1, L, .inr (.inr v.toNat) :: st', N, W)
      | none => none) else none
    | _ => none)
  | .putfield _ => (match st with
    | v :: .inr (.inr r) :: st' => if bz_kd 0 r = some (.inl (e.2.2.1.getD 0 0)) then (match e.2.2.1.getD 2 9, v with
      | 0, .inl x => zput r (e.2.2.1.getD 1 0) x (p + e.2.1) L st' N W
      | 4, .inl x => if x = 0 ∨ x = 1 then zput r (e.2.2.1.getD 1 0) x (p + e.2.1) L st' N W else none
      | 1, .inr (.inl x) => zput r (e.2.2.1.getD 1 0) x (p + e.2.1) L st' N W
      | 2, .inr (.inr x) => zput r (e.2.2.1.getD 1 0) (x : Int) (p + e.2.1) L st' N W
      | _, _ => none) else none
    | _ => none)
  | .new _ => znew (.inl (e.2.2.1.getD 0 0)) (p + e.2.1) L st N W
  | .newarray _ => (match st with
    | .inl n :: st' => if 0 ≤ n then znew (.inr (e.2.2.1.getD 0 0, n.toNat)) (p + e.2.1) L st' N W else none
    | _ => none)
  | .anewarray _ => (match st with
    | .inl n :: st' => if 0 ≤ n then znew (.inr (e.2.2.1.getD 0 0, n.toNat)) (p + e.2.1) L st' N W else none
    | _ => none)
  | .iastore => (match st with
    | .inl x :: .inl j :: .inr (.inr r) :: st' => (match bz_kd 0 r with
      | some (.inr (t, n)) => if t = 0 ∧ 0 ≤ j ∧ j < (n : Int) then zput r j.toNat x (p + e.2.1) L st' N W else none
      | _ => none)
    | _ => none)
  | .castore => (match st with
    | .inl x :: .inl j :: .inr (.inr r) :: st' => (match bz_kd 0 r with
      | some (.inr (t, n)) => if t = 4 ∧ (0 ≤ x ∧ x < 65536) ∧ 0 ≤ j ∧ j < (n : Int) then zput r j.toNat x (p + e.2.1) L st' N W else none
      | _ => none)
    | _ => none)
  | .aastore => (match st with
    | .inr (.inr x) :: .inl j :: .inr (.inr r) :: st' => (match bz_kd 0 r with
      | some (.inr (t, n)) => if t = 5 ∧ (bz_ns < x ∧ bz_kd 0 x = some (.inl 7)) ∧ 0 ≤ j ∧ j < (n : Int) then zput r j.toNat (x : Int) (p + e.2.1) L st' N W else none
      | _ => none)
    | _ => none)
  | .if_icmp c o => (match c, st with
    | .ge, .inl y :: .inl x :: st' => if x < y then some (p + e.2.1, L, st', N, W) else some (bz_tg p o, L, st', N, W)
    | _, _ => none)
  | .goto o => some (bz_tg p o, L, st, N, W)
  | .invokespecial _ => (match st with
    | .inr (.inr r) :: st' => if e.2.2.1.getD 0 0 = 1 ∧ r ≠ 0 ∧ bz_cat st' ≤ 8 then some (p + e.2.1, L, st', N, W) else none
    | _ => none)
  | _ => none
section ZF
variable {Lg rt : Nat} {B : bz_M} {e : bz_E} {p pc' N N' : Nat} {L L' : bz_Ls} {st st' : bz_S} {W W' : zW}
theorem zput_at {r k : Nat} {v : Int} {pc : Nat} {n : zNx} (h : zput r k v pc L st N W = some n) (ho : zok N W) : 121 < r ∧ n = (pc, L, st, N, (r, k, v) :: W) ∧ zok N ((r, k, v) :: W) := by
  unfold zput at h
  split at h
  · rename_i hb
    rw [Bool.and_eq_true] at hb
    have h1 : 121 < r := Nat.le_of_ble_eq_true hb.1
    have h2 : r ≤ N := Nat.le_of_ble_eq_true hb.2
    cases h
    refine ⟨h1, rfl, ho.1, fun q hq => ?_⟩
    rcases List.mem_cons.mp hq with rfl | hq
    · exact h2
    · exact ho.2 q hq
  · cases h
theorem znew_at {z : bz_Kd} {pc : Nat} {n : zNx} (h : znew z pc L st N W = some n) (ho : zok N W) : bz_kd Lg (N + 1) = some z ∧ n = (pc, L, .inr (.inr (N + 1)) :: st, N + 1, W) ∧ zok (N + 1) W := by
  unfold znew at h
  split at h
  · rename_i hb
    have hb := of_decide_eq_true hb
    cases h
    have := ho.1
    have : bz_ns = 121 := rfl
    exact ⟨by rw [kd_0 (by omega)]; exact hb, rfl, by omega, fun q hq => Nat.le_trans (ho.2 q hq) (by omega)⟩
  · cases h
theorem kd_h {r : Nat} {z : bz_Kd} (h : bz_kd 0 r = some z) (h1 : 121 < r) : bz_kd Lg r = some z := by rw [kd_0 (by omega)]; exact h
end ZF

/-! the reference's carrying of a field: putting -/
def Pt (M0 M : Mem) (k : Nat) : Prop := (∀ i, 5 < i → M i = M0 i) ∧ (∀ j, j ≠ 2 → j ≠ 3 → j ≠ 4 → j ≠ 31 → j ≠ 32 → M 0 j = M0 0 j) ∧ M 0 31 = (k : Int) ∧ M 0 32 = 0
theorem Pt.reg {M0 M : Mem} {k : Nat} (h : Pt M0 M k) {a j : Nat} {v : Int} (ha : a ≤ 5) (hj : a = 0 → j = 2 ∨ j = 3 ∨ j = 4) : Pt M0 (up M a j v) k := by
  obtain ⟨h1, h2, h3, h4⟩ := h
  refine ⟨fun i hi => by rw [up_fr (by omega)]; exact h1 i hi, fun j' j2 j3 j4 j31 j32 => ?_, ?_, ?_⟩
  · by_cases e : a = 0
    · rw [e, up_sl (by have := hj e; omega)]; exact h2 j' j2 j3 j4 j31 j32
    · rw [up_fr (fun z => e z.symm)]; exact h2 j' j2 j3 j4 j31 j32
  · by_cases e : a = 0
    · rw [e, up_sl (by have := hj e; omega)]; exact h3
    · rw [up_fr (fun z => e z.symm)]; exact h3
  · by_cases e : a = 0
    · rw [e, up_sl (by have := hj e; omega)]; exact h4
    · rw [up_fr (fun z => e z.symm)]; exact h4
theorem C_put_12 {M0 M : Mem} {k : Nat} (h : Pt M0 M k) (hk : k < 101) {x : Int} {K : Int → Mem → Prop} (h2 : ∀ M', (∀ i, i ≠ 0 → M' i = M i) → (∀ j, j ≠ 31 → M' 0 j = M 0 j) → Pt M0 M' (k + 1) → K (M0 12 k) M') : TI i10_carry 2 [vr 0, vi x] (LM (some 12), M) K := by
  obtain ⟨h1, h0, h3, h4⟩ := id h
  have e1 : wr ((k : Int) + 1 - 1) = (k : Int) := by rw [wr_id (by omega) (by omega)]; omega
  have e2 : wr (k : Int) = (k : Int) := wr_id (by omega) (by omega)
  refine E10_carry_12 (by rw [h3, e1]; omega) (by rw [h3, e2]; omega) ?_
  unfold f10_carry_12 g10_carry_12
  rw [h4, h3, e1, if_pos wr0, if_pos wr0, show ((k : Int)).toNat = k by omega, h1 12 (by omega)]
  refine h2 _ (fun i hi => up_fr hi) (fun j hj => up_sl hj) ⟨fun i hi => by rw [up_fr (by omega)]; exact h1 i hi, fun j j2 j3 j4 j31 j32 => by rw [up_sl j31]; exact h0 j j2 j3 j4 j31 j32, by rw [up_eq]; omega, by rw [up_sl (by omega)]; exact h4⟩
theorem L_put99_12 {M0 : Mem} {K : Mem → Prop} {f1 f2 : Nat → Int} {y l n : Int} (h2 : ∀ M', Pt M0 M' 101 → M' 1 = f1 → M' 2 = f2 → M' 0 2 = y → M' 0 3 = l → M' 0 4 = n → (∀ p, p < 6 → M' 3 p = M0 12 (83 + 3 * p) ∧ M' 4 p = M0 12 (84 + 3 * p) ∧ M' 5 p = M0 12 (85 + 3 * p)) → K M') : ∀ (k p : Nat) (M : Mem), p + k = 6 → Pt M0 M (83 + 3 * p) → M 1 = f1 → M 2 = f2 → M 0 2 = y → M 0 3 = l → M 0 4 = n → (∀ j, j < p → M 3 j = M0 12 (83 + 3 * j) ∧ M 4 j = M0 12 (84 + 3 * j) ∧ M 5 j = M0 12 (85 + 3 * j)) →
    TA i10_carryAll 99 [some (vr 0), none, none, some (vi (p : Int))] [] (LM (some 12), M) (fun rv G' => rv = none ∧ ∃ M', G' = (LM (some 12), M') ∧ K M')
  | 0, p, M, hp, h, g1, g2, gy, gl, gn, hd => by
    have e : p = 6 := by omega
    subst e
    exact W10_carryAll_99_12 ⟨fun z => absurd z (by decide), fun _ => ⟨rfl, M, rfl, h2 M h g1 g2 gy gl gn hd⟩⟩
  | k + 1, p, M, hp, h, g1, g2, gy, gl, gn, hd => by
    have ew : wr (p : Int) = (p : Int) := wr_id (by omega) (by omega)
    have ep : ((p : Int)).toNat = p := by omega
    have e1 : ((p + 1 : Nat) : Int) = (p : Int) + 1 := by omega
    refine W10_carryAll_99_12 ⟨fun _ => ?_, fun z => ?_⟩
    · rw [ew, ep]
      refine ⟨by omega, C_put_12 h (by omega) (fun M1 a1 b1 q1 => ⟨by omega, by omega, ?_⟩)⟩
      refine C_put_12 (q1.reg (a := 3) (by omega) (fun z => by omega)) (by omega) (fun M2 a2 b2 q2 => ⟨by omega, by omega, ?_⟩)
      refine C_put_12 (q2.reg (a := 4) (by omega) (fun z => by omega)) (by omega) (fun M3 a3 b3 q3 => ⟨by omega, ?_⟩)
      have s : ∀ j, j ≠ 31 → up M3 5 p (M0 12 (83 + 3 * p + 1 + 1)) 0 j = M 0 j := fun j hj => by rw [up_fr (by omega), b3 j hj, up_fr (by omega), b2 j hj, up_fr (by omega), b1 j hj]
      have c : ∀ i, i ≠ 0 → i ≠ 3 → i ≠ 4 → i ≠ 5 → up M3 5 p (M0 12 (83 + 3 * p + 1 + 1)) i = M i := fun i i0 i3 i4 i5 => by rw [up_fr i5, a3 i i0, up_fr i4, a2 i i0, up_fr i3, a1 i i0]
      have ih := L_put99_12 h2 k (p + 1) (up M3 5 p (M0 12 (83 + 3 * p + 1 + 1))) (by omega) (by rw [show 83 + 3 * (p + 1) = 83 + 3 * p + 1 + 1 + 1 by omega]; exact q3.reg (by omega) (fun z => by omega)) (by rw [c 1 (by omega) (by omega) (by omega) (by omega)]; exact g1) (by rw [c 2 (by omega) (by omega) (by omega) (by omega)]; exact g2) (by rw [s 2 (by omega)]; exact gy) (by rw [s 3 (by omega)]; exact gl) (by rw [s 4 (by omega)]; exact gn) (fun j hj => by
        rw [up_fr (i := 3) (by omega), a3 3 (by omega), up_fr (i := 3) (by omega), a2 3 (by omega), up_fr (i := 4) (by omega), a3 4 (by omega)]
        by_cases e : j = p
        · rw [e, up_eq, up_eq, up_eq, show 83 + 3 * p + 1 + 1 = 85 + 3 * p by omega, show 83 + 3 * p + 1 = 84 + 3 * p by omega]; exact ⟨rfl, rfl, rfl⟩
        · rw [up_sl e, up_sl e, up_sl e, a1 3 (by omega), a2 4 (by omega), up_fr (i := 4) (by omega), a1 4 (by omega), a3 5 (by omega), up_fr (i := 5) (by omega), a2 5 (by omega), up_fr (i := 5) (by omega), a1 5 (by omega)]; exact hd j (by omega))
      rw [e1] at ih
      exact ih
    · rw [ew, wr_id (by omega) (by omega)] at z; omega
theorem L_put53_12 {M0 : Mem} {K : Mem → Prop} {y l n : Int} (h2 : ∀ M', Pt M0 M' 101 → (∀ p, p < 40 → M' 1 p = M0 12 (3 + 2 * p) ∧ M' 2 p = M0 12 (4 + 2 * p)) → M' 0 2 = y → M' 0 3 = l → M' 0 4 = n → (∀ p, p < 6 → M' 3 p = M0 12 (83 + 3 * p) ∧ M' 4 p = M0 12 (84 + 3 * p) ∧ M' 5 p = M0 12 (85 + 3 * p)) → K M') : ∀ (k p : Nat) (M : Mem), p + k = 40 → Pt M0 M (3 + 2 * p) → M 0 2 = y → M 0 3 = l → M 0 4 = n → (∀ j, j < p → M 1 j = M0 12 (3 + 2 * j) ∧ M 2 j = M0 12 (4 + 2 * j)) →
    TA i10_carryAll 53 [some (vr 0), none, none, some (vi (p : Int))] [] (LM (some 12), M) (fun rv G' => rv = none ∧ ∃ M', G' = (LM (some 12), M') ∧ K M')
  | 0, p, M, hp, h, gy, gl, gn, hd => by
    have e : p = 40 := by omega
    subst e
    exact W10_carryAll_53_12 ⟨fun z => absurd z (by decide), fun _ => L_put99_12 (fun M' q a b c d e f => h2 M' q (fun p hp => by rw [a, b]; exact hd p hp) c d e f) 6 0 M rfl h rfl rfl gy gl gn (fun j hj => absurd hj (by omega))⟩
  | k + 1, p, M, hp, h, gy, gl, gn, hd => by
    have ew : wr (p : Int) = (p : Int) := wr_id (by omega) (by omega)
    have ep : ((p : Int)).toNat = p := by omega
    have e1 : ((p + 1 : Nat) : Int) = (p : Int) + 1 := by omega
    refine W10_carryAll_53_12 ⟨fun _ => ?_, fun z => ?_⟩
    · rw [ew, ep]
      refine ⟨by omega, C_put_12 h (by omega) (fun M1 a1 b1 q1 => ⟨by omega, by omega, ?_⟩)⟩
      refine C_put_12 (q1.reg (a := 1) (by omega) (fun z => by omega)) (by omega) (fun M2 a2 b2 q2 => ⟨by omega, ?_⟩)
      have s : ∀ j, j ≠ 31 → up M2 2 p (M0 12 (3 + 2 * p + 1)) 0 j = M 0 j := fun j hj => by rw [up_fr (by omega), b2 j hj, up_fr (by omega), b1 j hj]
      have ih := L_put53_12 h2 k (p + 1) (up M2 2 p (M0 12 (3 + 2 * p + 1))) (by omega) (by rw [show 3 + 2 * (p + 1) = 3 + 2 * p + 1 + 1 by omega]; exact q2.reg (by omega) (fun z => by omega)) (by rw [s 2 (by omega)]; exact gy) (by rw [s 3 (by omega)]; exact gl) (by rw [s 4 (by omega)]; exact gn) (fun j hj => by
        rw [up_fr (i := 1) (by omega), a2 1 (by omega)]
        by_cases e : j = p
        · rw [e, up_eq, up_eq, show 3 + 2 * p + 1 = 4 + 2 * p by omega]; exact ⟨rfl, rfl⟩
        · rw [up_sl e, up_sl e, a1 1 (by omega), a2 2 (by omega), up_fr (i := 2) (by omega), a1 2 (by omega)]; exact hd j (by omega))
      rw [e1] at ih
      exact ih
    · rw [ew, wr_id (by omega) (by omega)] at z; omega
theorem T_put_12 {q : Option Nat} {G : FS} {M : Mem} (hS : Snap G (M 12) 0) {K : Mem → Prop} (h2 : ∀ M', (∀ i, 5 < i → M' i = M i) → (∀ j, j ≠ 2 → j ≠ 3 → j ≠ 4 → j ≠ 31 → j ≠ 32 → M' 0 j = M 0 j) → RMf G M' → K M') : TQ i10_carryAll 4 [vr 0, vr 12, vi 0] 12 (LM q, M) K := by
  obtain ⟨s0, s1, s2, s3, s4⟩ := hS
  refine W10_carryAll_0_12 ⟨Or.inl rfl, ?_⟩
  have h0 : Pt M (up (up M 0 32 0) 0 31 0) 0 := ⟨fun i a => by rw [up_fr (by omega), up_fr (by omega)], fun j j2 j3 j4 j31 j32 => by rw [up_sl j31, up_sl j32], up_eq, by rw [up_sl (by omega), up_eq]⟩
  refine C_put_12 h0 (by omega) (fun M1 a1 b1 q1 => ?_)
  refine C_put_12 (q1.reg (a := 0) (by omega) (fun z => by omega)) (by omega) (fun M2 a2 b2 q2 => ?_)
  refine C_put_12 (q2.reg (a := 0) (by omega) (fun z => by omega)) (by omega) (fun M3 a3 b3 q3 => ?_)
  refine L_put53_12 (y := yd G) (l := ln G) (n := pn G) (fun M' p c1 c2 c3 c4 c5 => h2 M' p.1 p.2.1 ⟨c2, c3, c4, fun i hi => ?_, fun i hi => ?_, fun i hi => ?_⟩) 40 0 _ rfl (q3.reg (by omega) (fun z => by omega)) ?_ ?_ ?_ (fun j hj => absurd hj (by omega))
  · rw [(c1 i hi).1, ← (s3 i hi).1]
  · rw [(c1 i hi).2, ← (s3 i hi).2]
  · obtain ⟨d1, d2, d3⟩ := c5 i hi
    obtain ⟨t1, t2, t3⟩ := s4 i hi
    rw [d1, d2, d3, ← t1, ← t2, ← t3]
    exact ⟨by congr 1 <;> omega, by congr 1 <;> omega, by congr 1 <;> omega⟩
  · rw [up_sl (by omega), b3 2 (by omega), up_sl (by omega), b2 2 (by omega), up_eq]; exact s0
  · rw [up_sl (by omega), b3 3 (by omega), up_eq]; exact s1
  · rw [up_eq]; exact s2
theorem C_put_13 {M0 M : Mem} {k : Nat} (h : Pt M0 M k) (hk : k < 101) {x : Int} {K : Int → Mem → Prop} (h2 : ∀ M', (∀ i, i ≠ 0 → M' i = M i) → (∀ j, j ≠ 31 → M' 0 j = M 0 j) → Pt M0 M' (k + 1) → K (M0 13 k) M') : TI i10_carry 2 [vr 0, vi x] (LM (some 13), M) K := by
  obtain ⟨h1, h0, h3, h4⟩ := id h
  have e1 : wr ((k : Int) + 1 - 1) = (k : Int) := by rw [wr_id (by omega) (by omega)]; omega
  have e2 : wr (k : Int) = (k : Int) := wr_id (by omega) (by omega)
  refine E10_carry_13 (by rw [h3, e1]; omega) (by rw [h3, e2]; omega) ?_
  unfold f10_carry_13 g10_carry_13
  rw [h4, h3, e1, if_pos wr0, if_pos wr0, show ((k : Int)).toNat = k by omega, h1 13 (by omega)]
  refine h2 _ (fun i hi => up_fr hi) (fun j hj => up_sl hj) ⟨fun i hi => by rw [up_fr (by omega)]; exact h1 i hi, fun j j2 j3 j4 j31 j32 => by rw [up_sl j31]; exact h0 j j2 j3 j4 j31 j32, by rw [up_eq]; omega, by rw [up_sl (by omega)]; exact h4⟩
theorem L_put99_13 {M0 : Mem} {K : Mem → Prop} {f1 f2 : Nat → Int} {y l n : Int} (h2 : ∀ M', Pt M0 M' 101 → M' 1 = f1 → M' 2 = f2 → M' 0 2 = y → M' 0 3 = l → M' 0 4 = n → (∀ p, p < 6 → M' 3 p = M0 13 (83 + 3 * p) ∧ M' 4 p = M0 13 (84 + 3 * p) ∧ M' 5 p = M0 13 (85 + 3 * p)) → K M') : ∀ (k p : Nat) (M : Mem), p + k = 6 → Pt M0 M (83 + 3 * p) → M 1 = f1 → M 2 = f2 → M 0 2 = y → M 0 3 = l → M 0 4 = n → (∀ j, j < p → M 3 j = M0 13 (83 + 3 * j) ∧ M 4 j = M0 13 (84 + 3 * j) ∧ M 5 j = M0 13 (85 + 3 * j)) →
    TA i10_carryAll 99 [some (vr 0), none, none, some (vi (p : Int))] [] (LM (some 13), M) (fun rv G' => rv = none ∧ ∃ M', G' = (LM (some 13), M') ∧ K M')
  | 0, p, M, hp, h, g1, g2, gy, gl, gn, hd => by
    have e : p = 6 := by omega
    subst e
    exact W10_carryAll_99_13 ⟨fun z => absurd z (by decide), fun _ => ⟨rfl, M, rfl, h2 M h g1 g2 gy gl gn hd⟩⟩
  | k + 1, p, M, hp, h, g1, g2, gy, gl, gn, hd => by
    have ew : wr (p : Int) = (p : Int) := wr_id (by omega) (by omega)
    have ep : ((p : Int)).toNat = p := by omega
    have e1 : ((p + 1 : Nat) : Int) = (p : Int) + 1 := by omega
    refine W10_carryAll_99_13 ⟨fun _ => ?_, fun z => ?_⟩
    · rw [ew, ep]
      refine ⟨by omega, C_put_13 h (by omega) (fun M1 a1 b1 q1 => ⟨by omega, by omega, ?_⟩)⟩
      refine C_put_13 (q1.reg (a := 3) (by omega) (fun z => by omega)) (by omega) (fun M2 a2 b2 q2 => ⟨by omega, by omega, ?_⟩)
      refine C_put_13 (q2.reg (a := 4) (by omega) (fun z => by omega)) (by omega) (fun M3 a3 b3 q3 => ⟨by omega, ?_⟩)
      have s : ∀ j, j ≠ 31 → up M3 5 p (M0 13 (83 + 3 * p + 1 + 1)) 0 j = M 0 j := fun j hj => by rw [up_fr (by omega), b3 j hj, up_fr (by omega), b2 j hj, up_fr (by omega), b1 j hj]
      have c : ∀ i, i ≠ 0 → i ≠ 3 → i ≠ 4 → i ≠ 5 → up M3 5 p (M0 13 (83 + 3 * p + 1 + 1)) i = M i := fun i i0 i3 i4 i5 => by rw [up_fr i5, a3 i i0, up_fr i4, a2 i i0, up_fr i3, a1 i i0]
      have ih := L_put99_13 h2 k (p + 1) (up M3 5 p (M0 13 (83 + 3 * p + 1 + 1))) (by omega) (by rw [show 83 + 3 * (p + 1) = 83 + 3 * p + 1 + 1 + 1 by omega]; exact q3.reg (by omega) (fun z => by omega)) (by rw [c 1 (by omega) (by omega) (by omega) (by omega)]; exact g1) (by rw [c 2 (by omega) (by omega) (by omega) (by omega)]; exact g2) (by rw [s 2 (by omega)]; exact gy) (by rw [s 3 (by omega)]; exact gl) (by rw [s 4 (by omega)]; exact gn) (fun j hj => by
        rw [up_fr (i := 3) (by omega), a3 3 (by omega), up_fr (i := 3) (by omega), a2 3 (by omega), up_fr (i := 4) (by omega), a3 4 (by omega)]
        by_cases e : j = p
        · rw [e, up_eq, up_eq, up_eq, show 83 + 3 * p + 1 + 1 = 85 + 3 * p by omega, show 83 + 3 * p + 1 = 84 + 3 * p by omega]; exact ⟨rfl, rfl, rfl⟩
        · rw [up_sl e, up_sl e, up_sl e, a1 3 (by omega), a2 4 (by omega), up_fr (i := 4) (by omega), a1 4 (by omega), a3 5 (by omega), up_fr (i := 5) (by omega), a2 5 (by omega), up_fr (i := 5) (by omega), a1 5 (by omega)]; exact hd j (by omega))
      rw [e1] at ih
      exact ih
    · rw [ew, wr_id (by omega) (by omega)] at z; omega
theorem L_put53_13 {M0 : Mem} {K : Mem → Prop} {y l n : Int} (h2 : ∀ M', Pt M0 M' 101 → (∀ p, p < 40 → M' 1 p = M0 13 (3 + 2 * p) ∧ M' 2 p = M0 13 (4 + 2 * p)) → M' 0 2 = y → M' 0 3 = l → M' 0 4 = n → (∀ p, p < 6 → M' 3 p = M0 13 (83 + 3 * p) ∧ M' 4 p = M0 13 (84 + 3 * p) ∧ M' 5 p = M0 13 (85 + 3 * p)) → K M') : ∀ (k p : Nat) (M : Mem), p + k = 40 → Pt M0 M (3 + 2 * p) → M 0 2 = y → M 0 3 = l → M 0 4 = n → (∀ j, j < p → M 1 j = M0 13 (3 + 2 * j) ∧ M 2 j = M0 13 (4 + 2 * j)) →
    TA i10_carryAll 53 [some (vr 0), none, none, some (vi (p : Int))] [] (LM (some 13), M) (fun rv G' => rv = none ∧ ∃ M', G' = (LM (some 13), M') ∧ K M')
  | 0, p, M, hp, h, gy, gl, gn, hd => by
    have e : p = 40 := by omega
    subst e
    exact W10_carryAll_53_13 ⟨fun z => absurd z (by decide), fun _ => L_put99_13 (fun M' q a b c d e f => h2 M' q (fun p hp => by rw [a, b]; exact hd p hp) c d e f) 6 0 M rfl h rfl rfl gy gl gn (fun j hj => absurd hj (by omega))⟩
  | k + 1, p, M, hp, h, gy, gl, gn, hd => by
    have ew : wr (p : Int) = (p : Int) := wr_id (by omega) (by omega)
    have ep : ((p : Int)).toNat = p := by omega
    have e1 : ((p + 1 : Nat) : Int) = (p : Int) + 1 := by omega
    refine W10_carryAll_53_13 ⟨fun _ => ?_, fun z => ?_⟩
    · rw [ew, ep]
      refine ⟨by omega, C_put_13 h (by omega) (fun M1 a1 b1 q1 => ⟨by omega, by omega, ?_⟩)⟩
      refine C_put_13 (q1.reg (a := 1) (by omega) (fun z => by omega)) (by omega) (fun M2 a2 b2 q2 => ⟨by omega, ?_⟩)
      have s : ∀ j, j ≠ 31 → up M2 2 p (M0 13 (3 + 2 * p + 1)) 0 j = M 0 j := fun j hj => by rw [up_fr (by omega), b2 j hj, up_fr (by omega), b1 j hj]
      have ih := L_put53_13 h2 k (p + 1) (up M2 2 p (M0 13 (3 + 2 * p + 1))) (by omega) (by rw [show 3 + 2 * (p + 1) = 3 + 2 * p + 1 + 1 by omega]; exact q2.reg (by omega) (fun z => by omega)) (by rw [s 2 (by omega)]; exact gy) (by rw [s 3 (by omega)]; exact gl) (by rw [s 4 (by omega)]; exact gn) (fun j hj => by
        rw [up_fr (i := 1) (by omega), a2 1 (by omega)]
        by_cases e : j = p
        · rw [e, up_eq, up_eq, show 3 + 2 * p + 1 = 4 + 2 * p by omega]; exact ⟨rfl, rfl⟩
        · rw [up_sl e, up_sl e, a1 1 (by omega), a2 2 (by omega), up_fr (i := 2) (by omega), a1 2 (by omega)]; exact hd j (by omega))
      rw [e1] at ih
      exact ih
    · rw [ew, wr_id (by omega) (by omega)] at z; omega
theorem T_put_13 {q : Option Nat} {G : FS} {M : Mem} (hS : Snap G (M 13) 0) {K : Mem → Prop} (h2 : ∀ M', (∀ i, 5 < i → M' i = M i) → (∀ j, j ≠ 2 → j ≠ 3 → j ≠ 4 → j ≠ 31 → j ≠ 32 → M' 0 j = M 0 j) → RMf G M' → K M') : TQ i10_carryAll 4 [vr 0, vr 13, vi 0] 13 (LM q, M) K := by
  obtain ⟨s0, s1, s2, s3, s4⟩ := hS
  refine W10_carryAll_0_13 ⟨Or.inl rfl, ?_⟩
  have h0 : Pt M (up (up M 0 32 0) 0 31 0) 0 := ⟨fun i a => by rw [up_fr (by omega), up_fr (by omega)], fun j j2 j3 j4 j31 j32 => by rw [up_sl j31, up_sl j32], up_eq, by rw [up_sl (by omega), up_eq]⟩
  refine C_put_13 h0 (by omega) (fun M1 a1 b1 q1 => ?_)
  refine C_put_13 (q1.reg (a := 0) (by omega) (fun z => by omega)) (by omega) (fun M2 a2 b2 q2 => ?_)
  refine C_put_13 (q2.reg (a := 0) (by omega) (fun z => by omega)) (by omega) (fun M3 a3 b3 q3 => ?_)
  refine L_put53_13 (y := yd G) (l := ln G) (n := pn G) (fun M' p c1 c2 c3 c4 c5 => h2 M' p.1 p.2.1 ⟨c2, c3, c4, fun i hi => ?_, fun i hi => ?_, fun i hi => ?_⟩) 40 0 _ rfl (q3.reg (by omega) (fun z => by omega)) ?_ ?_ ?_ (fun j hj => absurd hj (by omega))
  · rw [(c1 i hi).1, ← (s3 i hi).1]
  · rw [(c1 i hi).2, ← (s3 i hi).2]
  · obtain ⟨d1, d2, d3⟩ := c5 i hi
    obtain ⟨t1, t2, t3⟩ := s4 i hi
    rw [d1, d2, d3, ← t1, ← t2, ← t3]
    exact ⟨by congr 1 <;> omega, by congr 1 <;> omega, by congr 1 <;> omega⟩
  · rw [up_sl (by omega), b3 2 (by omega), up_sl (by omega), b2 2 (by omega), up_eq]; exact s0
  · rw [up_sl (by omega), b3 3 (by omega), up_eq]; exact s1
  · rw [up_eq]; exact s2
theorem C_put_15 {M0 M : Mem} {k : Nat} (h : Pt M0 M k) (hk : k < 101) {x : Int} {K : Int → Mem → Prop} (h2 : ∀ M', (∀ i, i ≠ 0 → M' i = M i) → (∀ j, j ≠ 31 → M' 0 j = M 0 j) → Pt M0 M' (k + 1) → K (M0 15 k) M') : TI i10_carry 2 [vr 0, vi x] (LM (some 15), M) K := by
  obtain ⟨h1, h0, h3, h4⟩ := id h
  have e1 : wr ((k : Int) + 1 - 1) = (k : Int) := by rw [wr_id (by omega) (by omega)]; omega
  have e2 : wr (k : Int) = (k : Int) := wr_id (by omega) (by omega)
  refine E10_carry_15 (by rw [h3, e1]; omega) (by rw [h3, e2]; omega) ?_
  unfold f10_carry_15 g10_carry_15
  rw [h4, h3, e1, if_pos wr0, if_pos wr0, show ((k : Int)).toNat = k by omega, h1 15 (by omega)]
  refine h2 _ (fun i hi => up_fr hi) (fun j hj => up_sl hj) ⟨fun i hi => by rw [up_fr (by omega)]; exact h1 i hi, fun j j2 j3 j4 j31 j32 => by rw [up_sl j31]; exact h0 j j2 j3 j4 j31 j32, by rw [up_eq]; omega, by rw [up_sl (by omega)]; exact h4⟩
theorem L_put99_15 {M0 : Mem} {K : Mem → Prop} {f1 f2 : Nat → Int} {y l n : Int} (h2 : ∀ M', Pt M0 M' 101 → M' 1 = f1 → M' 2 = f2 → M' 0 2 = y → M' 0 3 = l → M' 0 4 = n → (∀ p, p < 6 → M' 3 p = M0 15 (83 + 3 * p) ∧ M' 4 p = M0 15 (84 + 3 * p) ∧ M' 5 p = M0 15 (85 + 3 * p)) → K M') : ∀ (k p : Nat) (M : Mem), p + k = 6 → Pt M0 M (83 + 3 * p) → M 1 = f1 → M 2 = f2 → M 0 2 = y → M 0 3 = l → M 0 4 = n → (∀ j, j < p → M 3 j = M0 15 (83 + 3 * j) ∧ M 4 j = M0 15 (84 + 3 * j) ∧ M 5 j = M0 15 (85 + 3 * j)) →
    TA i10_carryAll 99 [some (vr 0), none, none, some (vi (p : Int))] [] (LM (some 15), M) (fun rv G' => rv = none ∧ ∃ M', G' = (LM (some 15), M') ∧ K M')
  | 0, p, M, hp, h, g1, g2, gy, gl, gn, hd => by
    have e : p = 6 := by omega
    subst e
    exact W10_carryAll_99_15 ⟨fun z => absurd z (by decide), fun _ => ⟨rfl, M, rfl, h2 M h g1 g2 gy gl gn hd⟩⟩
  | k + 1, p, M, hp, h, g1, g2, gy, gl, gn, hd => by
    have ew : wr (p : Int) = (p : Int) := wr_id (by omega) (by omega)
    have ep : ((p : Int)).toNat = p := by omega
    have e1 : ((p + 1 : Nat) : Int) = (p : Int) + 1 := by omega
    refine W10_carryAll_99_15 ⟨fun _ => ?_, fun z => ?_⟩
    · rw [ew, ep]
      refine ⟨by omega, C_put_15 h (by omega) (fun M1 a1 b1 q1 => ⟨by omega, by omega, ?_⟩)⟩
      refine C_put_15 (q1.reg (a := 3) (by omega) (fun z => by omega)) (by omega) (fun M2 a2 b2 q2 => ⟨by omega, by omega, ?_⟩)
      refine C_put_15 (q2.reg (a := 4) (by omega) (fun z => by omega)) (by omega) (fun M3 a3 b3 q3 => ⟨by omega, ?_⟩)
      have s : ∀ j, j ≠ 31 → up M3 5 p (M0 15 (83 + 3 * p + 1 + 1)) 0 j = M 0 j := fun j hj => by rw [up_fr (by omega), b3 j hj, up_fr (by omega), b2 j hj, up_fr (by omega), b1 j hj]
      have c : ∀ i, i ≠ 0 → i ≠ 3 → i ≠ 4 → i ≠ 5 → up M3 5 p (M0 15 (83 + 3 * p + 1 + 1)) i = M i := fun i i0 i3 i4 i5 => by rw [up_fr i5, a3 i i0, up_fr i4, a2 i i0, up_fr i3, a1 i i0]
      have ih := L_put99_15 h2 k (p + 1) (up M3 5 p (M0 15 (83 + 3 * p + 1 + 1))) (by omega) (by rw [show 83 + 3 * (p + 1) = 83 + 3 * p + 1 + 1 + 1 by omega]; exact q3.reg (by omega) (fun z => by omega)) (by rw [c 1 (by omega) (by omega) (by omega) (by omega)]; exact g1) (by rw [c 2 (by omega) (by omega) (by omega) (by omega)]; exact g2) (by rw [s 2 (by omega)]; exact gy) (by rw [s 3 (by omega)]; exact gl) (by rw [s 4 (by omega)]; exact gn) (fun j hj => by
        rw [up_fr (i := 3) (by omega), a3 3 (by omega), up_fr (i := 3) (by omega), a2 3 (by omega), up_fr (i := 4) (by omega), a3 4 (by omega)]
        by_cases e : j = p
        · rw [e, up_eq, up_eq, up_eq, show 83 + 3 * p + 1 + 1 = 85 + 3 * p by omega, show 83 + 3 * p + 1 = 84 + 3 * p by omega]; exact ⟨rfl, rfl, rfl⟩
        · rw [up_sl e, up_sl e, up_sl e, a1 3 (by omega), a2 4 (by omega), up_fr (i := 4) (by omega), a1 4 (by omega), a3 5 (by omega), up_fr (i := 5) (by omega), a2 5 (by omega), up_fr (i := 5) (by omega), a1 5 (by omega)]; exact hd j (by omega))
      rw [e1] at ih
      exact ih
    · rw [ew, wr_id (by omega) (by omega)] at z; omega
theorem L_put53_15 {M0 : Mem} {K : Mem → Prop} {y l n : Int} (h2 : ∀ M', Pt M0 M' 101 → (∀ p, p < 40 → M' 1 p = M0 15 (3 + 2 * p) ∧ M' 2 p = M0 15 (4 + 2 * p)) → M' 0 2 = y → M' 0 3 = l → M' 0 4 = n → (∀ p, p < 6 → M' 3 p = M0 15 (83 + 3 * p) ∧ M' 4 p = M0 15 (84 + 3 * p) ∧ M' 5 p = M0 15 (85 + 3 * p)) → K M') : ∀ (k p : Nat) (M : Mem), p + k = 40 → Pt M0 M (3 + 2 * p) → M 0 2 = y → M 0 3 = l → M 0 4 = n → (∀ j, j < p → M 1 j = M0 15 (3 + 2 * j) ∧ M 2 j = M0 15 (4 + 2 * j)) →
    TA i10_carryAll 53 [some (vr 0), none, none, some (vi (p : Int))] [] (LM (some 15), M) (fun rv G' => rv = none ∧ ∃ M', G' = (LM (some 15), M') ∧ K M')
  | 0, p, M, hp, h, gy, gl, gn, hd => by
    have e : p = 40 := by omega
    subst e
    exact W10_carryAll_53_15 ⟨fun z => absurd z (by decide), fun _ => L_put99_15 (fun M' q a b c d e f => h2 M' q (fun p hp => by rw [a, b]; exact hd p hp) c d e f) 6 0 M rfl h rfl rfl gy gl gn (fun j hj => absurd hj (by omega))⟩
  | k + 1, p, M, hp, h, gy, gl, gn, hd => by
    have ew : wr (p : Int) = (p : Int) := wr_id (by omega) (by omega)
    have ep : ((p : Int)).toNat = p := by omega
    have e1 : ((p + 1 : Nat) : Int) = (p : Int) + 1 := by omega
    refine W10_carryAll_53_15 ⟨fun _ => ?_, fun z => ?_⟩
    · rw [ew, ep]
      refine ⟨by omega, C_put_15 h (by omega) (fun M1 a1 b1 q1 => ⟨by omega, by omega, ?_⟩)⟩
      refine C_put_15 (q1.reg (a := 1) (by omega) (fun z => by omega)) (by omega) (fun M2 a2 b2 q2 => ⟨by omega, ?_⟩)
      have s : ∀ j, j ≠ 31 → up M2 2 p (M0 15 (3 + 2 * p + 1)) 0 j = M 0 j := fun j hj => by rw [up_fr (by omega), b2 j hj, up_fr (by omega), b1 j hj]
      have ih := L_put53_15 h2 k (p + 1) (up M2 2 p (M0 15 (3 + 2 * p + 1))) (by omega) (by rw [show 3 + 2 * (p + 1) = 3 + 2 * p + 1 + 1 by omega]; exact q2.reg (by omega) (fun z => by omega)) (by rw [s 2 (by omega)]; exact gy) (by rw [s 3 (by omega)]; exact gl) (by rw [s 4 (by omega)]; exact gn) (fun j hj => by
        rw [up_fr (i := 1) (by omega), a2 1 (by omega)]
        by_cases e : j = p
        · rw [e, up_eq, up_eq, show 3 + 2 * p + 1 = 4 + 2 * p by omega]; exact ⟨rfl, rfl⟩
        · rw [up_sl e, up_sl e, a1 1 (by omega), a2 2 (by omega), up_fr (i := 2) (by omega), a1 2 (by omega)]; exact hd j (by omega))
      rw [e1] at ih
      exact ih
    · rw [ew, wr_id (by omega) (by omega)] at z; omega
theorem T_put_15 {q : Option Nat} {G : FS} {M : Mem} (hS : Snap G (M 15) 0) {K : Mem → Prop} (h2 : ∀ M', (∀ i, 5 < i → M' i = M i) → (∀ j, j ≠ 2 → j ≠ 3 → j ≠ 4 → j ≠ 31 → j ≠ 32 → M' 0 j = M 0 j) → RMf G M' → K M') : TQ i10_carryAll 4 [vr 0, vr 15, vi 0] 15 (LM q, M) K := by
  obtain ⟨s0, s1, s2, s3, s4⟩ := hS
  refine W10_carryAll_0_15 ⟨Or.inl rfl, ?_⟩
  have h0 : Pt M (up (up M 0 32 0) 0 31 0) 0 := ⟨fun i a => by rw [up_fr (by omega), up_fr (by omega)], fun j j2 j3 j4 j31 j32 => by rw [up_sl j31, up_sl j32], up_eq, by rw [up_sl (by omega), up_eq]⟩
  refine C_put_15 h0 (by omega) (fun M1 a1 b1 q1 => ?_)
  refine C_put_15 (q1.reg (a := 0) (by omega) (fun z => by omega)) (by omega) (fun M2 a2 b2 q2 => ?_)
  refine C_put_15 (q2.reg (a := 0) (by omega) (fun z => by omega)) (by omega) (fun M3 a3 b3 q3 => ?_)
  refine L_put53_15 (y := yd G) (l := ln G) (n := pn G) (fun M' p c1 c2 c3 c4 c5 => h2 M' p.1 p.2.1 ⟨c2, c3, c4, fun i hi => ?_, fun i hi => ?_, fun i hi => ?_⟩) 40 0 _ rfl (q3.reg (by omega) (fun z => by omega)) ?_ ?_ ?_ (fun j hj => absurd hj (by omega))
  · rw [(c1 i hi).1, ← (s3 i hi).1]
  · rw [(c1 i hi).2, ← (s3 i hi).2]
  · obtain ⟨d1, d2, d3⟩ := c5 i hi
    obtain ⟨t1, t2, t3⟩ := s4 i hi
    rw [d1, d2, d3, ← t1, ← t2, ← t3]
    exact ⟨by congr 1 <;> omega, by congr 1 <;> omega, by congr 1 <;> omega⟩
  · rw [up_sl (by omega), b3 2 (by omega), up_sl (by omega), b2 2 (by omega), up_eq]; exact s0
  · rw [up_sl (by omega), b3 3 (by omega), up_eq]; exact s1
  · rw [up_eq]; exact s2

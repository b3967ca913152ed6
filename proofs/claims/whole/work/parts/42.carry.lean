/-! the reference's carrying of a field: taking -/
theorem up_id (M : Mem) (a k : Nat) : up M a k (M a k) = M := by
  funext i j
  rw [up_ap]
  by_cases e : i = a ∧ j = k
  · rw [if_pos e, e.1, e.2]
  · rw [if_neg e]
theorem up_idv {M : Mem} {a k : Nat} {v : Int} (h : M a k = v) : up M a k v = M := by rw [← h]; exact up_id M a k
/-- the numbers of a field, in their order -/
def regM (M : Mem) (j : Nat) : Int := if j = 0 then M 0 2 else if j = 1 then M 0 3 else if j = 2 then M 0 4 else if j < 83 then (if (j - 3) % 2 = 0 then M 1 ((j - 3) / 2) else M 2 ((j - 3) / 2)) else if (j - 83) % 3 = 0 then M 3 ((j - 83) / 3) else if (j - 83) % 3 = 1 then M 4 ((j - 83) / 3) else M 5 ((j - 83) / 3)
theorem regM_1 (M : Mem) {i : Nat} (hi : i < 40) : regM M (3 + 2 * i) = M 1 i ∧ regM M (4 + 2 * i) = M 2 i := by
  unfold regM
  rw [if_neg (by omega), if_neg (by omega), if_neg (by omega), if_pos (by omega), if_pos (by omega), show (3 + 2 * i - 3) / 2 = i by omega, if_neg (by omega), if_neg (by omega), if_neg (by omega), if_pos (by omega), if_neg (by omega), show (4 + 2 * i - 3) / 2 = i by omega]
  exact ⟨rfl, rfl⟩
theorem regM_3 (M : Mem) {p : Nat} : regM M (83 + 3 * p) = M 3 p ∧ regM M (84 + 3 * p) = M 4 p ∧ regM M (85 + 3 * p) = M 5 p := by
  unfold regM
  rw [if_neg (by omega), if_neg (by omega), if_neg (by omega), if_neg (by omega), if_pos (by omega), show (83 + 3 * p - 83) / 3 = p by omega, if_neg (by omega), if_neg (by omega), if_neg (by omega), if_neg (by omega), if_neg (by omega), if_pos (by omega), show (84 + 3 * p - 83) / 3 = p by omega, if_neg (by omega), if_neg (by omega), if_neg (by omega), if_neg (by omega), if_neg (by omega), if_neg (by omega), show (85 + 3 * p - 83) / 3 = p by omega]
  exact ⟨rfl, rfl, rfl⟩
/-- taking: A holds the first k numbers of M0; nothing else but slots 31, 32 differs -/
def Tk (A : Nat) (M0 M : Mem) (k : Nat) : Prop := (∀ i, i ≠ 0 → i ≠ A → M i = M0 i) ∧ (∀ j, j ≠ 31 → j ≠ 32 → M 0 j = M0 0 j) ∧ M 0 31 = (k : Int) ∧ M 0 32 = 1 ∧ ∀ j, j < k → M A j = regM M0 j
theorem Tk.next {A : Nat} (hA : A ≠ 0) {M0 M : Mem} {k : Nat} (h : Tk A M0 M k) {x : Int} (hx : x = regM M0 k) : Tk A M0 (up (up M A k x) 0 31 ((k : Int) + 1)) (k + 1) := by
  obtain ⟨h1, h2, h3, h4, h5⟩ := h
  refine ⟨fun i i0 iA => by rw [up_fr i0, up_fr iA]; exact h1 i i0 iA, fun j j1 j2 => by rw [up_sl j1, up_fr (fun z => hA z.symm)]; exact h2 j j1 j2, by rw [up_eq]; omega, by rw [up_sl (by omega), up_fr (fun z => hA z.symm)]; exact h4, fun j hj => ?_⟩
  rw [up_fr hA]
  by_cases e : j = k
  · rw [e, up_eq]; exact hx
  · rw [up_sl e]; exact h5 j (by omega)
theorem C_take_12 {M0 M : Mem} {k : Nat} (h : Tk 12 M0 M k) (hk : k < 101) {x : Int} (hx : x = regM M0 k) {K : Int → Mem → Prop} (h2 : ∀ M', Tk 12 M0 M' (k + 1) → K x M') : TI i10_carry 2 [vr 0, vi x] (LM (some 12), M) K := by
  obtain ⟨-, -, h3, h4, -⟩ := id h
  have e1 : wr ((k : Int) + 1 - 1) = (k : Int) := by rw [wr_id (by omega) (by omega)]; omega
  have e2 : wr (k : Int) = (k : Int) := wr_id (by omega) (by omega)
  refine E10_carry_12 (by rw [h3, e1]; omega) (by rw [h3, e2]; omega) ?_
  unfold f10_carry_12 g10_carry_12
  rw [h4, h3, e1, e2, if_neg (by rw [wr1]; omega), if_neg (by rw [wr1]; omega), show ((k : Int)).toNat = k by omega, up_eq]
  exact h2 _ (h.next (by omega) hx)
theorem L_take99_12 {M0 : Mem} {K : Mem → Prop} (h2 : ∀ M', Tk 12 M0 M' 101 → K M') : ∀ (k p : Nat) (M : Mem), p + k = 6 → Tk 12 M0 M (83 + 3 * p) →
    TA i10_carryAll 99 [some (vr 0), none, none, some (vi (p : Int))] [] (LM (some 12), M) (fun rv G' => rv = none ∧ ∃ M', G' = (LM (some 12), M') ∧ K M')
  | 0, p, M, hp, h => by
    have e : p = 6 := by omega
    subst e
    refine W10_carryAll_99_12 ⟨fun z => absurd z (by decide), fun _ => ⟨rfl, M, rfl, h2 M h⟩⟩
  | k + 1, p, M, hp, h => by
    have ew : wr (p : Int) = (p : Int) := wr_id (by omega) (by omega)
    have ep : ((p : Int)).toNat = p := by omega
    obtain ⟨r1, r2, r3⟩ := regM_3 M0 (p := p)
    have e1 : ((p + 1 : Nat) : Int) = (p : Int) + 1 := by omega
    refine W10_carryAll_99_12 ⟨fun _ => ?_, fun z => ?_⟩
    · rw [ew, ep]
      refine ⟨by omega, C_take_12 h (by omega) (by rw [h.1 3 (by omega) (by omega), r1]) (fun M1 q1 => ⟨by omega, by omega, ?_⟩)⟩
      rw [up_idv (show M1 3 p = M 3 p by rw [q1.1 3 (by omega) (by omega), h.1 3 (by omega) (by omega)])]
      refine C_take_12 q1 (by omega) (by rw [q1.1 4 (by omega) (by omega), show 83 + 3 * p + 1 = 84 + 3 * p by omega, r2]) (fun M2 q2 => ⟨by omega, by omega, ?_⟩)
      rw [up_idv (show M2 4 p = M1 4 p by rw [q2.1 4 (by omega) (by omega), q1.1 4 (by omega) (by omega)])]
      refine C_take_12 q2 (by omega) (by rw [q2.1 5 (by omega) (by omega), show 83 + 3 * p + 1 + 1 = 85 + 3 * p by omega, r3]) (fun M3 q3 => ⟨by omega, ?_⟩)
      rw [up_idv (show M3 5 p = M2 5 p by rw [q3.1 5 (by omega) (by omega), q2.1 5 (by omega) (by omega)])]
      have ih := L_take99_12 h2 k (p + 1) M3 (by omega) (by rw [show 83 + 3 * (p + 1) = 83 + 3 * p + 1 + 1 + 1 by omega]; exact q3)
      rw [e1] at ih
      exact ih
    · rw [ew, wr_id (by omega) (by omega)] at z; omega
theorem L_take53_12 {M0 : Mem} {K : Mem → Prop} (h2 : ∀ M', Tk 12 M0 M' 101 → K M') : ∀ (k p : Nat) (M : Mem), p + k = 40 → Tk 12 M0 M (3 + 2 * p) →
    TA i10_carryAll 53 [some (vr 0), none, none, some (vi (p : Int))] [] (LM (some 12), M) (fun rv G' => rv = none ∧ ∃ M', G' = (LM (some 12), M') ∧ K M')
  | 0, p, M, hp, h => by
    have e : p = 40 := by omega
    subst e
    refine W10_carryAll_53_12 ⟨fun z => absurd z (by decide), fun _ => L_take99_12 h2 6 0 M rfl h⟩
  | k + 1, p, M, hp, h => by
    have ew : wr (p : Int) = (p : Int) := wr_id (by omega) (by omega)
    have ep : ((p : Int)).toNat = p := by omega
    obtain ⟨r1, r2⟩ := regM_1 M0 (i := p) (by omega)
    have e1 : ((p + 1 : Nat) : Int) = (p : Int) + 1 := by omega
    refine W10_carryAll_53_12 ⟨fun _ => ?_, fun z => ?_⟩
    · rw [ew, ep]
      refine ⟨by omega, C_take_12 h (by omega) (by rw [h.1 1 (by omega) (by omega), r1]) (fun M1 q1 => ⟨by omega, by omega, ?_⟩)⟩
      rw [up_idv (show M1 1 p = M 1 p by rw [q1.1 1 (by omega) (by omega), h.1 1 (by omega) (by omega)])]
      refine C_take_12 q1 (by omega) (by rw [q1.1 2 (by omega) (by omega), show 3 + 2 * p + 1 = 4 + 2 * p by omega, r2]) (fun M2 q2 => ⟨by omega, ?_⟩)
      rw [up_idv (show M2 2 p = M1 2 p by rw [q2.1 2 (by omega) (by omega), q1.1 2 (by omega) (by omega)])]
      have ih := L_take53_12 h2 k (p + 1) M2 (by omega) (by rw [show 3 + 2 * (p + 1) = 3 + 2 * p + 1 + 1 by omega]; exact q2)
      rw [e1] at ih
      exact ih
    · rw [ew, wr_id (by omega) (by omega)] at z; omega
theorem T_take_12 {q : Option Nat} {M : Mem} {K : Mem → Prop} (h2 : ∀ M', Tk 12 M M' 101 → K M') : TQ i10_carryAll 4 [vr 0, vr 12, vi 1] 12 (LM q, M) K := by
  refine W10_carryAll_0_12 ⟨Or.inr rfl, ?_⟩
  have h0 : Tk 12 M (up (up M 0 32 1) 0 31 0) 0 := ⟨fun i a b => by rw [up_fr a, up_fr a], fun j a b => by rw [up_sl a, up_sl b], up_eq, by rw [up_sl (by omega), up_eq], fun j hj => absurd hj (by omega)⟩
  refine C_take_12 (x := M 0 2) h0 (by omega) rfl (fun M1 q1 => ?_)
  rw [up_idv (show M1 0 2 = M 0 2 from q1.2.1 2 (by omega) (by omega)), q1.2.1 3 (by omega) (by omega)]
  refine C_take_12 (x := M 0 3) q1 (by omega) rfl (fun M2 q2 => ?_)
  rw [up_idv (show M2 0 3 = M 0 3 from q2.2.1 3 (by omega) (by omega)), q2.2.1 4 (by omega) (by omega)]
  refine C_take_12 (x := M 0 4) q2 (by omega) rfl (fun M3 q3 => ?_)
  rw [up_idv (show M3 0 4 = M 0 4 from q3.2.1 4 (by omega) (by omega))]
  exact L_take53_12 h2 40 0 M3 rfl q3
theorem C_take_13 {M0 M : Mem} {k : Nat} (h : Tk 13 M0 M k) (hk : k < 101) {x : Int} (hx : x = regM M0 k) {K : Int → Mem → Prop} (h2 : ∀ M', Tk 13 M0 M' (k + 1) → K x M') : TI i10_carry 2 [vr 0, vi x] (LM (some 13), M) K := by
  obtain ⟨-, -, h3, h4, -⟩ := id h
  have e1 : wr ((k : Int) + 1 - 1) = (k : Int) := by rw [wr_id (by omega) (by omega)]; omega
  have e2 : wr (k : Int) = (k : Int) := wr_id (by omega) (by omega)
  refine E10_carry_13 (by rw [h3, e1]; omega) (by rw [h3, e2]; omega) ?_
  unfold f10_carry_13 g10_carry_13
  rw [h4, h3, e1, e2, if_neg (by rw [wr1]; omega), if_neg (by rw [wr1]; omega), show ((k : Int)).toNat = k by omega, up_eq]
  exact h2 _ (h.next (by omega) hx)
theorem L_take99_13 {M0 : Mem} {K : Mem → Prop} (h2 : ∀ M', Tk 13 M0 M' 101 → K M') : ∀ (k p : Nat) (M : Mem), p + k = 6 → Tk 13 M0 M (83 + 3 * p) →
    TA i10_carryAll 99 [some (vr 0), none, none, some (vi (p : Int))] [] (LM (some 13), M) (fun rv G' => rv = none ∧ ∃ M', G' = (LM (some 13), M') ∧ K M')
  | 0, p, M, hp, h => by
    have e : p = 6 := by omega
    subst e
    refine W10_carryAll_99_13 ⟨fun z => absurd z (by decide), fun _ => ⟨rfl, M, rfl, h2 M h⟩⟩
  | k + 1, p, M, hp, h => by
    have ew : wr (p : Int) = (p : Int) := wr_id (by omega) (by omega)
    have ep : ((p : Int)).toNat = p := by omega
    obtain ⟨r1, r2, r3⟩ := regM_3 M0 (p := p)
    have e1 : ((p + 1 : Nat) : Int) = (p : Int) + 1 := by omega
    refine W10_carryAll_99_13 ⟨fun _ => ?_, fun z => ?_⟩
    · rw [ew, ep]
      refine ⟨by omega, C_take_13 h (by omega) (by rw [h.1 3 (by omega) (by omega), r1]) (fun M1 q1 => ⟨by omega, by omega, ?_⟩)⟩
      rw [up_idv (show M1 3 p = M 3 p by rw [q1.1 3 (by omega) (by omega), h.1 3 (by omega) (by omega)])]
      refine C_take_13 q1 (by omega) (by rw [q1.1 4 (by omega) (by omega), show 83 + 3 * p + 1 = 84 + 3 * p by omega, r2]) (fun M2 q2 => ⟨by omega, by omega, ?_⟩)
      rw [up_idv (show M2 4 p = M1 4 p by rw [q2.1 4 (by omega) (by omega), q1.1 4 (by omega) (by omega)])]
      refine C_take_13 q2 (by omega) (by rw [q2.1 5 (by omega) (by omega), show 83 + 3 * p + 1 + 1 = 85 + 3 * p by omega, r3]) (fun M3 q3 => ⟨by omega, ?_⟩)
      rw [up_idv (show M3 5 p = M2 5 p by rw [q3.1 5 (by omega) (by omega), q2.1 5 (by omega) (by omega)])]
      have ih := L_take99_13 h2 k (p + 1) M3 (by omega) (by rw [show 83 + 3 * (p + 1) = 83 + 3 * p + 1 + 1 + 1 by omega]; exact q3)
      rw [e1] at ih
      exact ih
    · rw [ew, wr_id (by omega) (by omega)] at z; omega
theorem L_take53_13 {M0 : Mem} {K : Mem → Prop} (h2 : ∀ M', Tk 13 M0 M' 101 → K M') : ∀ (k p : Nat) (M : Mem), p + k = 40 → Tk 13 M0 M (3 + 2 * p) →
    TA i10_carryAll 53 [some (vr 0), none, none, some (vi (p : Int))] [] (LM (some 13), M) (fun rv G' => rv = none ∧ ∃ M', G' = (LM (some 13), M') ∧ K M')
  | 0, p, M, hp, h => by
    have e : p = 40 := by omega
    subst e
    refine W10_carryAll_53_13 ⟨fun z => absurd z (by decide), fun _ => L_take99_13 h2 6 0 M rfl h⟩
  | k + 1, p, M, hp, h => by
    have ew : wr (p : Int) = (p : Int) := wr_id (by omega) (by omega)
    have ep : ((p : Int)).toNat = p := by omega
    obtain ⟨r1, r2⟩ := regM_1 M0 (i := p) (by omega)
    have e1 : ((p + 1 : Nat) : Int) = (p : Int) + 1 := by omega
    refine W10_carryAll_53_13 ⟨fun _ => ?_, fun z => ?_⟩
    · rw [ew, ep]
      refine ⟨by omega, C_take_13 h (by omega) (by rw [h.1 1 (by omega) (by omega), r1]) (fun M1 q1 => ⟨by omega, by omega, ?_⟩)⟩
      rw [up_idv (show M1 1 p = M 1 p by rw [q1.1 1 (by omega) (by omega), h.1 1 (by omega) (by omega)])]
      refine C_take_13 q1 (by omega) (by rw [q1.1 2 (by omega) (by omega), show 3 + 2 * p + 1 = 4 + 2 * p by omega, r2]) (fun M2 q2 => ⟨by omega, ?_⟩)
      rw [up_idv (show M2 2 p = M1 2 p by rw [q2.1 2 (by omega) (by omega), q1.1 2 (by omega) (by omega)])]
      have ih := L_take53_13 h2 k (p + 1) M2 (by omega) (by rw [show 3 + 2 * (p + 1) = 3 + 2 * p + 1 + 1 by omega]; exact q2)
      rw [e1] at ih
      exact ih
    · rw [ew, wr_id (by omega) (by omega)] at z; omega
theorem T_take_13 {q : Option Nat} {M : Mem} {K : Mem → Prop} (h2 : ∀ M', Tk 13 M M' 101 → K M') : TQ i10_carryAll 4 [vr 0, vr 13, vi 1] 13 (LM q, M) K := by
  refine W10_carryAll_0_13 ⟨Or.inr rfl, ?_⟩
  have h0 : Tk 13 M (up (up M 0 32 1) 0 31 0) 0 := ⟨fun i a b => by rw [up_fr a, up_fr a], fun j a b => by rw [up_sl a, up_sl b], up_eq, by rw [up_sl (by omega), up_eq], fun j hj => absurd hj (by omega)⟩
  refine C_take_13 (x := M 0 2) h0 (by omega) rfl (fun M1 q1 => ?_)
  rw [up_idv (show M1 0 2 = M 0 2 from q1.2.1 2 (by omega) (by omega)), q1.2.1 3 (by omega) (by omega)]
  refine C_take_13 (x := M 0 3) q1 (by omega) rfl (fun M2 q2 => ?_)
  rw [up_idv (show M2 0 3 = M 0 3 from q2.2.1 3 (by omega) (by omega)), q2.2.1 4 (by omega) (by omega)]
  refine C_take_13 (x := M 0 4) q2 (by omega) rfl (fun M3 q3 => ?_)
  rw [up_idv (show M3 0 4 = M 0 4 from q3.2.1 4 (by omega) (by omega))]
  exact L_take53_13 h2 40 0 M3 rfl q3
theorem C_take_15 {M0 M : Mem} {k : Nat} (h : Tk 15 M0 M k) (hk : k < 101) {x : Int} (hx : x = regM M0 k) {K : Int → Mem → Prop} (h2 : ∀ M', Tk 15 M0 M' (k + 1) → K x M') : TI i10_carry 2 [vr 0, vi x] (LM (some 15), M) K := by
  obtain ⟨-, -, h3, h4, -⟩ := id h
  have e1 : wr ((k : Int) + 1 - 1) = (k : Int) := by rw [wr_id (by omega) (by omega)]; omega
  have e2 : wr (k : Int) = (k : Int) := wr_id (by omega) (by omega)
  refine E10_carry_15 (by rw [h3, e1]; omega) (by rw [h3, e2]; omega) ?_
  unfold f10_carry_15 g10_carry_15
  rw [h4, h3, e1, e2, if_neg (by rw [wr1]; omega), if_neg (by rw [wr1]; omega), show ((k : Int)).toNat = k by omega, up_eq]
  exact h2 _ (h.next (by omega) hx)
theorem L_take99_15 {M0 : Mem} {K : Mem → Prop} (h2 : ∀ M', Tk 15 M0 M' 101 → K M') : ∀ (k p : Nat) (M : Mem), p + k = 6 → Tk 15 M0 M (83 + 3 * p) →
    TA i10_carryAll 99 [some (vr 0), none, none, some (vi (p : Int))] [] (LM (some 15), M) (fun rv G' => rv = none ∧ ∃ M', G' = (LM (some 15), M') ∧ K M')
  | 0, p, M, hp, h => by
    have e : p = 6 := by omega
    subst e
    refine W10_carryAll_99_15 ⟨fun z => absurd z (by decide), fun _ => ⟨rfl, M, rfl, h2 M h⟩⟩
  | k + 1, p, M, hp, h => by
    have ew : wr (p : Int) = (p : Int) := wr_id (by omega) (by omega)
    have ep : ((p : Int)).toNat = p := by omega
    obtain ⟨r1, r2, r3⟩ := regM_3 M0 (p := p)
    have e1 : ((p + 1 : Nat) : Int) = (p : Int) + 1 := by omega
    refine W10_carryAll_99_15 ⟨fun _ => ?_, fun z => ?_⟩
    · rw [ew, ep]
      refine ⟨by omega, C_take_15 h (by omega) (by rw [h.1 3 (by omega) (by omega), r1]) (fun M1 q1 => ⟨by omega, by omega, ?_⟩)⟩
      rw [up_idv (show M1 3 p = M 3 p by rw [q1.1 3 (by omega) (by omega), h.1 3 (by omega) (by omega)])]
      refine C_take_15 q1 (by omega) (by rw [q1.1 4 (by omega) (by omega), show 83 + 3 * p + 1 = 84 + 3 * p by omega, r2]) (fun M2 q2 => ⟨by omega, by omega, ?_⟩)
      rw [up_idv (show M2 4 p = M1 4 p by rw [q2.1 4 (by omega) (by omega), q1.1 4 (by omega) (by omega)])]
      refine C_take_15 q2 (by omega) (by rw [q2.1 5 (by omega) (by omega), show 83 + 3 * p + 1 + 1 = 85 + 3 * p by omega, r3]) (fun M3 q3 => ⟨by omega, ?_⟩)
      rw [up_idv (show M3 5 p = M2 5 p by rw [q3.1 5 (by omega) (by omega), q2.1 5 (by omega) (by omega)])]
      have ih := L_take99_15 h2 k (p + 1) M3 (by omega) (by rw [show 83 + 3 * (p + 1) = 83 + 3 * p + 1 + 1 + 1 by omega]; exact q3)
      rw [e1] at ih
      exact ih
    · rw [ew, wr_id (by omega) (by omega)] at z; omega
theorem L_take53_15 {M0 : Mem} {K : Mem → Prop} (h2 : ∀ M', Tk 15 M0 M' 101 → K M') : ∀ (k p : Nat) (M : Mem), p + k = 40 → Tk 15 M0 M (3 + 2 * p) →
    TA i10_carryAll 53 [some (vr 0), none, none, some (vi (p : Int))] [] (LM (some 15), M) (fun rv G' => rv = none ∧ ∃ M', G' = (LM (some 15), M') ∧ K M')
  | 0, p, M, hp, h => by
    have e : p = 40 := by omega
    subst e
    refine W10_carryAll_53_15 ⟨fun z => absurd z (by decide), fun _ => L_take99_15 h2 6 0 M rfl h⟩
  | k + 1, p, M, hp, h => by
    have ew : wr (p : Int) = (p : Int) := wr_id (by omega) (by omega)
    have ep : ((p : Int)).toNat = p := by omega
    obtain ⟨r1, r2⟩ := regM_1 M0 (i := p) (by omega)
    have e1 : ((p + 1 : Nat) : Int) = (p : Int) + 1 := by omega
    refine W10_carryAll_53_15 ⟨fun _ => ?_, fun z => ?_⟩
    · rw [ew, ep]
      refine ⟨by omega, C_take_15 h (by omega) (by rw [h.1 1 (by omega) (by omega), r1]) (fun M1 q1 => ⟨by omega, by omega, ?_⟩)⟩
      rw [up_idv (show M1 1 p = M 1 p by rw [q1.1 1 (by omega) (by omega), h.1 1 (by omega) (by omega)])]
      refine C_take_15 q1 (by omega) (by rw [q1.1 2 (by omega) (by omega), show 3 + 2 * p + 1 = 4 + 2 * p by omega, r2]) (fun M2 q2 => ⟨by omega, ?_⟩)
      rw [up_idv (show M2 2 p = M1 2 p by rw [q2.1 2 (by omega) (by omega), q1.1 2 (by omega) (by omega)])]
      have ih := L_take53_15 h2 k (p + 1) M2 (by omega) (by rw [show 3 + 2 * (p + 1) = 3 + 2 * p + 1 + 1 by omega]; exact q2)
      rw [e1] at ih
      exact ih
    · rw [ew, wr_id (by omega) (by omega)] at z; omega
theorem T_take_15 {q : Option Nat} {M : Mem} {K : Mem → Prop} (h2 : ∀ M', Tk 15 M M' 101 → K M') : TQ i10_carryAll 4 [vr 0, vr 15, vi 1] 15 (LM q, M) K := by
  refine W10_carryAll_0_15 ⟨Or.inr rfl, ?_⟩
  have h0 : Tk 15 M (up (up M 0 32 1) 0 31 0) 0 := ⟨fun i a b => by rw [up_fr a, up_fr a], fun j a b => by rw [up_sl a, up_sl b], up_eq, by rw [up_sl (by omega), up_eq], fun j hj => absurd hj (by omega)⟩
  refine C_take_15 (x := M 0 2) h0 (by omega) rfl (fun M1 q1 => ?_)
  rw [up_idv (show M1 0 2 = M 0 2 from q1.2.1 2 (by omega) (by omega)), q1.2.1 3 (by omega) (by omega)]
  refine C_take_15 (x := M 0 3) q1 (by omega) rfl (fun M2 q2 => ?_)
  rw [up_idv (show M2 0 3 = M 0 3 from q2.2.1 3 (by omega) (by omega)), q2.2.1 4 (by omega) (by omega)]
  refine C_take_15 (x := M 0 4) q2 (by omega) rfl (fun M3 q3 => ?_)
  rw [up_idv (show M3 0 4 = M 0 4 from q3.2.1 4 (by omega) (by omega))]
  exact L_take53_15 h2 40 0 M3 rfl q3

/-! the reference's carrying of a field: taking -/
theorem up_id (M : Mem) (a k : Nat) : up M a k (M a k) = M := by
  funext i j
  rw [up_ap]
  by_cases e : i = a ∧ j = k
  · rw [if_pos e, e.1, e.2]
  · rw [if_neg e]
theorem up_idv {M : Mem} {a k : Nat} {v : Int} (h : M a k = v) : up M a k v = M := by rw [← h]; exact up_id M a k
/-- the numbers of a field, in their order -/
def regM (M : Mem) (j : Nat) : Int := if j = 0 then M 0 2 else if j = 1 then M 0 3 else if j = 2 then M 0 4 else if j < 83 then (if (j - 3) % 2 = 0 then M 1 ((j - 3) / 2) else M 2 ((j - 3) / 2)) else if (j - 83) % 3 = 0 then M 3 ((j - 83) / 3) else if (j - 83) % 3 = 1 then M 4 ((j - 83) / 3) else M 5 ((j - 83) / 3)
theorem regM_1 (M : Mem) {i : Nat} (hi : i < 40) : regM M (3 + 2 * i) = M 1 i ∧ regM M (4 + 2 * i) = M 2 i := by
  unfold regM
  rw [if_neg (by omega), if_neg (by omega), if_neg (by omega), if_pos (by omega), if_pos (by omega), show (3 + 2 * i - 3) / 2 = i by omega, if_neg (by omega), if_neg (by omega), if_neg (by omega), if_pos (by omega), if_neg (by omega), show (4 + 2 * i - 3) / 2 = i by omega]
  exact ⟨rfl, rfl⟩
theorem regM_3 (M : Mem) {p : Nat} : regM M (83 + 3 * p) = M 3 p ∧ regM M (84 + 3 * p) = M 4 p ∧ regM M (85 + 3 * p) = M 5 p := by
  unfold regM
  rw [if_neg (by omega), if_neg (by omega), if_neg (by omega), if_neg (by omega), if_pos (by omega), show (83 + 3 * p - 83) / 3 = p by omega, if_neg (by omega), if_neg (by omega), if_neg (by omega), if_neg (by omega), if_neg (by omega), if_pos (by omega), show (84 + 3 * p - 83) / 3 = p by omega, if_neg (by omega), if_neg (by omega), if_neg (by omega), if_neg (by omega), if_neg (by omega), if_neg (by omega), show (85 + 3 * p - 83) / 3 = p by omega]
  exact ⟨rfl, rfl, rfl⟩
/-- taking: A holds the first k numbers of M0; nothing else but slots 31, 32 differs -/
def Tk (A : Nat) (M0 M : Mem) (k : Nat) : Prop := (∀ i, i ≠ 0 → i ≠ A → M i = M0 i) ∧ (∀ j, j ≠ 31 → j ≠ 32 → M 0 j = M0 0 j) ∧ M 0 31 = (k : Int) ∧ M 0 32 = 1 ∧ ∀ j, j < k → M A j = regM M0 j
theorem Tk.next {A : Nat} (hA : A ≠ 0) {M0 M : Mem} {k : Nat} (h : Tk A M0 M k) {x : Int} (hx : x = regM M0 k) : Tk A M0 (up (up M A k x) 0 31 ((k : Int) + 1)) (k + 1) := by
  obtain ⟨h1, h2, h3, h4, h5⟩ := h
  refine ⟨fun i i0 iA => by rw [up_fr i0, up_fr iA]; exact h1 i i0 iA, fun j j1 j2 => by rw [up_sl j1, up_fr (fun z => hA z.symm)]; exact h2 j j1 j2, by rw [up_eq]; omega, by rw [up_sl (by omega), up_fr (fun z => hA z.symm)]; exact h4, fun j hj => ?_⟩
  rw [up_fr hA]
  by_cases e : j = k
  · rw [e, up_eq]; exact hx
  · rw [up_sl e]; exact h5 j (by omega)
theorem C_take_12 {M0 M : Mem} {k : Nat} (h : Tk 12 M0 M k) (hk : k < 101) {x : Int} (hx : x = regM M0 k) {K : Int → Mem → Prop} (h2 : ∀ M', Tk 12 M0 M' (k + 1) → K x M') : TI i10_carry 2 [vr 0, vi x] (LM (some 12), M) K := by
  obtain ⟨-, -, h3, h4, -⟩ := id h
  have e1 : wr ((k : Int) + 1 - 1) = (k : Int) := by rw [wr_id (by omega) (by omega)]; omega
  have e2 : wr (k : Int) = (k : Int) := wr_id (by omega) (by omega)
  refine E10_carry_12 (by rw [h3, e1]; omega) (by rw [h3, e2]; omega) ?_
  unfold f10_carry_12 g10_carry_12
  rw [h4, h3, e1, e2, if_neg (by rw [wr1]; omega), if_neg (by rw [wr1]; omega), show ((k : Int)).toNat = k by omega, up_eq]
  exact h2 _ (h.next (by omega) hx)
theorem C_take_13 {M0 M : Mem} {k : Nat} (h : Tk 13 M0 M k) (hk : k < 101) {x : Int} (hx : x = regM M0 k) {K : Int → Mem → Prop} (h2 : ∀ M', Tk 13 M0 M' (k + 1) → K x M') : TI i10_carry 2 [vr 0, vi x] (LM (some 13), M) K := by
  obtain ⟨-, -, h3, h4, -⟩ := id h
  have e1 : wr ((k : Int) + 1 - 1) = (k : Int) := by rw [wr_id (by omega) (by omega)]; omega
  have e2 : wr (k : Int) = (k : Int) := wr_id (by omega) (by omega)
  refine E10_carry_13 (by rw [h3, e1]; omega) (by rw [h3, e2]; omega) ?_
  unfold f10_carry_13 g10_carry_13
  rw [h4, h3, e1, e2, if_neg (by rw [wr1]; omega), if_neg (by rw [wr1]; omega), show ((k : Int)).toNat = k by omega, up_eq]
  exact h2 _ (h.next (by omega) hx)
theorem C_take_15 {M0 M : Mem} {k : Nat} (h : Tk 15 M0 M k) (hk : k < 101) {x : Int} (hx : x = regM M0 k) {K : Int → Mem → Prop} (h2 : ∀ M', Tk 15 M0 M' (k + 1) → K x M') : TI i10_carry 2 [vr 0, vi x] (LM (some 15), M) K := by
  obtain ⟨-, -, h3, h4, -⟩ := id h
  have e1 : wr ((k : Int) + 1 - 1) = (k : Int) := by rw [wr_id (by omega) (by omega)]; omega
  have e2 : wr (k : Int) = (k : Int) := wr_id (by omega) (by omega)
  refine E10_carry_15 (by rw [h3, e1]; omega) (by rw [h3, e2]; omega) ?_
  unfold f10_carry_15 g10_carry_15
  rw [h4, h3, e1, e2, if_neg (by rw [wr1]; omega), if_neg (by rw [wr1]; omega), show ((k : Int)).toNat = k by omega, up_eq]
  exact h2 _ (h.next (by omega) hx)

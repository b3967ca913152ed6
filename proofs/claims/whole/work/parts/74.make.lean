/-! the makers: a run of each, by the kernel -/
abbrev G9 : GM := ([.inr (8, kDef 8)], fun _ _ => 0)
abbrev G10 : GM := ([.inr (9, kDef 9)], fun _ _ => 0)
def all0 (M : Mem) (a n : Nat) : Bool := (List.range n).all (fun i => decide (M a i = 0))
theorem all0_at {M : Mem} {a n : Nat} (h : all0 M a n = true) {i : Nat} (hi : i < n) : M a i = 0 := of_decide_eq_true (List.all_eq_true.mp h i (List.mem_range.mpr hi))
def S0 : ST := ((10, 0, 0, fun _ => 0, fun _ => 0, fun _ => 0, fun _ => 0, fun _ => 0), (0, fun _ => 0), (0, fun _ => 0), fun _ => 0, none, [])
theorem S0_ok : SOK S0 := by
  refine ⟨⟨?_, ?_, ?_, fun i _ => ?_, fun i _ => ?_, fun p _ => ?_, fun p hp => ?_⟩, ⟨Nat.zero_le _, fun j hj => absurd hj (Nat.not_lt_zero _)⟩, ⟨Nat.zero_le _, fun j hj => absurd hj (Nat.not_lt_zero _)⟩, fun G h => (by cases h), fun G h => (by cases h), Nat.zero_le _⟩
  · exact ⟨by decide, by decide⟩
  · exact ⟨by decide, by decide⟩
  · exact ⟨by decide, by decide⟩
  · exact ⟨by show (0 : Int) ≤ 0; omega, by show (0 : Int) ≤ 5; omega⟩
  · exact ⟨by show (0 : Int) ≤ 0; omega, by show (0 : Int) ≤ 9; omega⟩
  · exact ⟨by show (0 : Int) ≤ 0; omega, by show (0 : Int) ≤ 60; omega, by show (0 : Int) ≤ 0; omega, by show (0 : Int) ≤ 9; omega, by show (0 : Int) ≤ 0; omega, by show (0 : Int) ≤ 9; omega⟩
  · have : (p : Int) < 0 := hp
    omega
def mkC : Bool := match exec 4000 i9_init 0 (alocs 1 [vr 0]) [] G9 with
  | some (none, (L, M)) => decide (L = LC) && (decide (M 1 0 = 10) && (decide (M 1 1 = 0) && (decide (M 1 2 = 0) && (all0 M 3 40 && (all0 M 5 40 && (all0 M 7 18 && (decide (M 29 0 = 0) && (decide (M 0 7 = 0) && (all0 M 35 7 && (decide (M 0 3 = 0) && decide (M 22 0 = 0)))))))))))
  | _ => false
set_option maxRecDepth 100000 in
theorem mkC_ok : mkC = true := by decide +kernel
def mkM : Bool := match exec 4000 i10_init 0 (alocs 1 [vr 0]) [] G10 with
  | some (none, (L, M)) => decide (L = LM none) && (decide (M 0 2 = 10) && (decide (M 0 3 = 0) && (decide (M 0 4 = 0) && (all0 M 1 40 && (all0 M 2 40 && (all0 M 3 6 && (all0 M 4 6 && (all0 M 5 6 && (decide (M 0 21 = 0) && (decide (M 0 48 = 0) && (all0 M 6 7 && (decide (M 0 30 = 0) && decide (M 0 36 = 0)))))))))))))
  | _ => false
set_option maxRecDepth 100000 in
theorem mkM_ok : mkM = true := by decide +kernel
theorem mk9 : ∃ M, exec 4000 i9_init 0 (alocs 1 [vr 0]) [] G9 = some (none, (LC, M)) ∧ RC S0 M := by
  have h := mkC_ok
  unfold mkC at h
  cases hz : exec 4000 i9_init 0 (alocs 1 [vr 0]) [] G9 with
  | none => rw [hz] at h; cases h
  | some o =>
    obtain ⟨rv, L, M⟩ := o
    rw [hz] at h
    cases rv with
    | some v => cases h
    | none =>
      have h' : (decide (L = LC) && (decide (M 1 0 = 10) && (decide (M 1 1 = 0) && (decide (M 1 2 = 0) && (all0 M 3 40 && (all0 M 5 40 && (all0 M 7 18 && (decide (M 29 0 = 0) && (decide (M 0 7 = 0) && (all0 M 35 7 && (decide (M 0 3 = 0) && decide (M 22 0 = 0)))))))))))) = true := h
      simp only [Bool.and_eq_true, decide_eq_true_eq] at h'
      obtain ⟨e, a1, a2, a3, a4, a5, a6, a7, a8, a9, a10, a11⟩ := h'
      refine ⟨M, by rw [e], ⟨a1, a2, a3, fun i hi => all0_at a4 hi, fun i hi => all0_at a5 hi, fun p hp => ⟨all0_at a6 (by omega), all0_at a6 (by omega), all0_at a6 (by omega)⟩⟩, ⟨a7, fun j hj => absurd hj (Nat.not_lt_zero _)⟩, ⟨a8, fun j hj => absurd hj (Nat.not_lt_zero _)⟩, fun j hj => all0_at a9 hj, a10, a11, trivial⟩
theorem mk10 : ∃ M, exec 4000 i10_init 0 (alocs 1 [vr 0]) [] G10 = some (none, (LM none, M)) ∧ RM S0 M := by
  have h := mkM_ok
  unfold mkM at h
  cases hz : exec 4000 i10_init 0 (alocs 1 [vr 0]) [] G10 with
  | none => rw [hz] at h; cases h
  | some o =>
    obtain ⟨rv, L, M⟩ := o
    rw [hz] at h
    cases rv with
    | some v => cases h
    | none =>
      have h' : (decide (L = LM none) && (decide (M 0 2 = 10) && (decide (M 0 3 = 0) && (decide (M 0 4 = 0) && (all0 M 1 40 && (all0 M 2 40 && (all0 M 3 6 && (all0 M 4 6 && (all0 M 5 6 && (decide (M 0 21 = 0) && (decide (M 0 48 = 0) && (all0 M 6 7 && (decide (M 0 30 = 0) && decide (M 0 36 = 0)))))))))))))) = true := h
      simp only [Bool.and_eq_true, decide_eq_true_eq] at h'
      obtain ⟨e, a1, a2, a3, a4, a5, a6, a7, a8, a9, a10, a11, a12, a13⟩ := h'
      refine ⟨M, by rw [e], ⟨a1, a2, a3, fun i hi => all0_at a4 hi, fun i hi => all0_at a5 hi, fun p hp => ⟨all0_at a6 hp, all0_at a7 hp, all0_at a8 hp⟩⟩, ⟨a9, fun j hj => absurd hj (Nat.not_lt_zero _)⟩, ⟨a10, fun j hj => absurd hj (Nat.not_lt_zero _)⟩, fun j hj => all0_at a11 hj, a12, a13, trivial⟩

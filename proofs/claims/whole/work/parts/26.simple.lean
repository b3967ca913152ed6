/-! feed, row, clear, ground, one, feels, yards: both sides answer alike -/
theorem RC.lt {S : ST} {M M' : Mem} (h : RC S M) {L : Nat × (Nat → Int)} (f : ∀ i, i < 36 → i ≠ 29 → i ≠ 31 → M' i = M i) (hL : M' 29 0 = (L.1 : Int) ∧ ∀ j, j < L.1 → M' 31 j = L.2 j) : RC (sF S, L, sR S, sC S, sI S, sT S) M' := by
  obtain ⟨h1, -, ⟨h4, h5⟩, h6, h7, h8, h9⟩ := h
  refine ⟨h1.frb (f 1 (by omega) (by omega) (by omega)) (f (1 + 2) (by omega) (by omega) (by omega)) (f (1 + 4) (by omega) (by omega) (by omega)) (f (1 + 6) (by omega) (by omega) (by omega)), hL, ⟨by rw [f 0 (by omega) (by omega) (by omega)]; exact h4, by rw [f 33 (by omega) (by omega) (by omega)]; exact h5⟩, by rw [f 35 (by omega) (by omega) (by omega)]; exact h6, ?_, by rw [f 22 (by omega) (by omega) (by omega)]; exact h8, by rw [f 24 (by omega) (by omega) (by omega), f 26 (by omega) (by omega) (by omega), f 28 (by omega) (by omega) (by omega)]; exact h9⟩
  show Im1 (sI S) M'
  unfold Im1 at *
  split at h7
  · rw [f 0 (by omega) (by omega) (by omega)]; exact h7
  · exact ⟨by rw [f 0 (by omega) (by omega) (by omega)]; exact h7.1, h7.2.frb (f 8 (by omega) (by omega) (by omega)) (f (8 + 2) (by omega) (by omega) (by omega)) (f (8 + 4) (by omega) (by omega) (by omega)) (f (8 + 6) (by omega) (by omega) (by omega))⟩
theorem RC.rw {S : ST} {M M' : Mem} (h : RC S M) {R : Nat × (Nat → Int)} (f : ∀ i, i < 36 → i ≠ 0 → i ≠ 33 → M' i = M i) (f0 : M' 0 3 = M 0 3) (hR : M' 0 7 = (R.1 : Int) ∧ ∀ j, j < R.1 → M' 33 j = R.2 j) : RC (sF S, sL S, R, sC S, sI S, sT S) M' := by
  obtain ⟨h1, ⟨h2, h3⟩, -, h6, h7, h8, h9⟩ := h
  refine ⟨h1.frb (f 1 (by omega) (by omega) (by omega)) (f (1 + 2) (by omega) (by omega) (by omega)) (f (1 + 4) (by omega) (by omega) (by omega)) (f (1 + 6) (by omega) (by omega) (by omega)), ⟨by rw [f 29 (by omega) (by omega) (by omega)]; exact h2, by rw [f 31 (by omega) (by omega) (by omega)]; exact h3⟩, hR, by rw [f 35 (by omega) (by omega) (by omega)]; exact h6, ?_, by rw [f 22 (by omega) (by omega) (by omega)]; exact h8, by rw [f 24 (by omega) (by omega) (by omega), f 26 (by omega) (by omega) (by omega), f 28 (by omega) (by omega) (by omega)]; exact h9⟩
  show Im1 (sI S) M'
  unfold Im1 at *
  split at h7
  · rw [f0]; exact h7
  · exact ⟨by rw [f0]; exact h7.1, h7.2.frb (f 8 (by omega) (by omega) (by omega)) (f (8 + 2) (by omega) (by omega) (by omega)) (f (8 + 4) (by omega) (by omega) (by omega)) (f (8 + 6) (by omega) (by omega) (by omega))⟩
theorem RM.lt {S : ST} {M M' : Mem} (h : RM S M) {L : Nat × (Nat → Int)} (f1 : ∀ i, 1 ≤ i → (i ≤ 6 ∨ i = 13 ∨ i = 14 ∨ i = 24) → M' i = M i) (f2 : ∀ j, (j < 8 ∨ j = 30 ∨ j = 36 ∨ j = 48) → M' 0 j = M 0 j) (hL : M' 0 21 = (L.1 : Int) ∧ ∀ j, j < L.1 → M' 8 j = L.2 j) : RM (sF S, L, sR S, sC S, sI S, sT S) M' := by
  obtain ⟨h1, -, ⟨h4, h5⟩, h6, h7, h8, h9⟩ := h
  refine ⟨h1.fr (fun i a b => f1 i a (by omega)) (fun j a b => f2 j (by omega)), hL, ⟨by rw [f2 48 (by omega)]; exact h4, by rw [f1 24 (by omega) (by omega)]; exact h5⟩, by rw [f1 6 (by omega) (by omega)]; exact h6, ?_, by rw [f2 36 (by omega)]; exact h8, by rw [f1 14 (by omega) (by omega)]; exact h9⟩
  show Im2 (sI S) M'
  unfold Im2 at *
  split at h7
  · rw [f2 30 (by omega)]; exact h7
  · exact ⟨by rw [f2 30 (by omega)]; exact h7.1, by rw [f1 13 (by omega) (by omega)]; exact h7.2⟩
theorem RM.rw {S : ST} {M M' : Mem} (h : RM S M) {R : Nat × (Nat → Int)} (f1 : ∀ i, 1 ≤ i → (i ≤ 6 ∨ i = 8 ∨ i = 13 ∨ i = 14) → M' i = M i) (f2 : ∀ j, (j < 8 ∨ j = 21 ∨ j = 30 ∨ j = 36) → M' 0 j = M 0 j) (hR : M' 0 48 = (R.1 : Int) ∧ ∀ j, j < R.1 → M' 24 j = R.2 j) : RM (sF S, sL S, R, sC S, sI S, sT S) M' := by
  obtain ⟨h1, ⟨h2, h3⟩, -, h6, h7, h8, h9⟩ := h
  refine ⟨h1.fr (fun i a b => f1 i a (by omega)) (fun j a b => f2 j (by omega)), ⟨by rw [f2 21 (by omega)]; exact h2, by rw [f1 8 (by omega) (by omega)]; exact h3⟩, hR, by rw [f1 6 (by omega) (by omega)]; exact h6, ?_, by rw [f2 36 (by omega)]; exact h8, by rw [f1 14 (by omega) (by omega)]; exact h9⟩
  show Im2 (sI S) M'
  unfold Im2 at *
  split at h7
  · rw [f2 30 (by omega)]; exact h7
  · exact ⟨by rw [f2 30 (by omega)]; exact h7.1, by rw [f1 13 (by omega) (by omega)]; exact h7.2⟩
theorem SIM_clear : SIM i9_clear 2 i10_clear 2 [] := by
  intro S hS
  refine ⟨((sR S).1 : Int), (sF S, sL S, (0, (sR S).2), sC S, sI S, sT S), ⟨hS.1, hS.2.1, ⟨Nat.zero_le _, fun j hj => absurd hj (Nat.not_lt_zero _)⟩, hS.2.2.2⟩, fun M hM => W9_clear_0 ⟨_, by rw [hM.2.2.1.1], rfl, ?_⟩, fun q M hM => W10_clear_0 ⟨q, _, by rw [hM.2.2.1.1], rfl, ?_⟩⟩
  · exact hM.rw (fun i _ a b => up_fr a) (up_sl (by omega)) ⟨up_eq, fun j hj => absurd hj (Nat.not_lt_zero _)⟩
  · refine hM.rw (fun i a b => by rw [up_fr (by omega), up_fr (by omega)]) (fun j hj => by rw [up_sl (by omega), up_sl (by omega)]) ⟨up_eq, fun j hj => absurd hj (Nat.not_lt_zero _)⟩
/-- one number more, in a row of numbers -/
def sAdd (L : Nat × (Nat → Int)) (x : Int) : Nat × (Nat → Int) := (L.1 + 1, upn L.2 L.1 x)
theorem sAdd_ok {L : Nat × (Nat → Int)} {x lo hi : Int} {m : Nat} (h : L.1 ≤ m ∧ ∀ j, j < L.1 → lo ≤ L.2 j ∧ L.2 j ≤ hi) (h1 : L.1 < m) (hx : lo ≤ x ∧ x ≤ hi) : (sAdd L x).1 ≤ m ∧ ∀ j, j < (sAdd L x).1 → lo ≤ (sAdd L x).2 j ∧ (sAdd L x).2 j ≤ hi := by
  refine ⟨h1, fun j hj => ?_⟩
  show lo ≤ upn L.2 L.1 x j ∧ upn L.2 L.1 x j ≤ hi
  have hj2 : j < L.1 + 1 := hj
  unfold upn
  by_cases e : j = L.1
  · rw [if_pos e]; exact hx
  · rw [if_neg e]; exact h.2 j (by omega)
theorem sAdd_mem {L : Nat × (Nat → Int)} {x : Int} {f f' : Nat → Int} (h : ∀ j, j < L.1 → f j = L.2 j) (h1 : f' L.1 = x) (h2 : ∀ j, j ≠ L.1 → f' j = f j) : ∀ j, j < (sAdd L x).1 → f' j = (sAdd L x).2 j := by
  intro j hj
  have hj2 : j < L.1 + 1 := hj
  show f' j = upn L.2 L.1 x j
  unfold upn
  by_cases e : j = L.1
  · rw [if_pos e, e]; exact h1
  · rw [if_neg e, h2 j e]; exact h j (by omega)
theorem SIM_row {x : Int} (ix : IR x) : SIM i9_row 3 i10_row 2 [vi x] := by
  intro S hS
  obtain ⟨hn, hv⟩ := hS.2.2.1
  have c1 : ∀ M, RC S M → ∀ Post, ((s3w False (x < 0) (99 < x ∨ 12 ≤ (sR S).1) = 0 → Post (some (vi (((sR S).1 : Int) + 1))) (LC, up (up M 33 (sR S).1 x) 0 7 (((sR S).1 : Int) + 1))) ∧ (s3w False (x < 0) (99 < x ∨ 12 ≤ (sR S).1) ≠ 0 → Post (some (vi (f9_refuse (s3w False (x < 0) (99 < x ∨ 12 ≤ (sR S).1))))) (LC, g9_refuse M (s3w False (x < 0) (99 < x ∨ 12 ≤ (sR S).1))))) → TC i9_row 3 [vr 0, vi x] (LC, M) Post := by
    intro M hM Post h
    have e7 : M 0 7 = ((sR S).1 : Int) := hM.2.2.1.1
    refine W9_row_0 (W9_row_10 (W9_row_30 ?_))
    have e0 : (if wr 99 < wr x then (1 : Int) else if wr (M 0 7) < wr 12 then 0 else 1) = if 99 < x ∨ 12 ≤ (sR S).1 then 1 else 0 := by
      rw [e7, ix.w, wr_id (x := 99) (by omega) (by omega), wr_id (x := 12) (by omega) (by omega), wr_id (x := ((sR S).1 : Int)) (by omega) (by omega)]
      (repeat' split) <;> omega
    have e1 : (if wr x < 0 then (1 : Int) else 0) = if x < 0 then 1 else 0 := by rw [ix.w]
    have e2 := first_eq (a := False) (b := x < 0) (c := 99 < x ∨ 12 ≤ (sR S).1)
    rw [if_neg (c := False) (fun z => z)] at e2
    rw [e0, e1, e2]
    have hb : -6 ≤ s3w False (x < 0) (99 < x ∨ 12 ≤ (sR S).1) ∧ s3w False (x < 0) (99 < x ∨ 12 ≤ (sR S).1) ≤ 0 := by unfold s3w; (repeat' split) <;> omega
    rw [wr_id (by omega) (by omega)]
    refine ⟨fun z => ?_, fun z => h.2 z⟩
    have hlt : (sR S).1 < 12 := by unfold s3w at z; (repeat' split at z) <;> omega
    have ew : wt M 33 12 (M 0 7) x = up M 33 (sR S).1 x := by rw [e7, wt_in (by omega) (by omega) (by omega)]; rfl
    rw [ew, up_fr (by omega), e7]
    exact h.1 z
  by_cases e : s3w False (x < 0) (99 < x ∨ 12 ≤ (sR S).1) = 0
  · have hx : 0 ≤ x ∧ x ≤ 99 ∧ (sR S).1 < 12 := by unfold s3w at e; (repeat' split at e) <;> omega
    refine ⟨((sR S).1 : Int) + 1, (sF S, sL S, sAdd (sR S) x, sC S, sI S, sT S), ⟨hS.1, hS.2.1, sAdd_ok ⟨hn, hv⟩ hx.2.2 ⟨hx.1, hx.2.1⟩, hS.2.2.2⟩, fun M hM => c1 M hM _ ⟨fun _ => ⟨_, rfl, rfl, ?_⟩, fun z => absurd e z⟩, fun q M hM => W10_row_0 ⟨fun z => ?_, fun _ => ⟨fun z => ?_, fun _ => ⟨fun z => ?_, fun _ => ⟨?_, q, _, by rw [hM.2.2.1.1], rfl, ?_⟩⟩⟩⟩⟩
    · refine hM.rw (fun i _ a b => by rw [up_fr a, up_fr b]) (by rw [up_sl (by omega), up_fr (by omega)]) ⟨up_eq, sAdd_mem hM.2.2.1.2 (by rw [up_fr (by omega), up_eq]) (fun j hj => by rw [up_fr (by omega), up_sl hj])⟩
    · rw [ix.w] at z; omega
    · rw [ix.w, wr_id (by omega) (by omega)] at z; omega
    · rw [hM.2.2.1.1, weq (by omega) (by omega) (by omega) (by omega)] at z; omega
    · rw [hM.2.2.1.1, wr_id (by omega) (by omega)]; omega
    · rw [hM.2.2.1.1, wr_id (x := ((sR S).1 : Int)) (by omega) (by omega)]
      refine hM.rw (fun i a b => by rw [up_fr (by omega), up_fr (by omega), up_fr (by omega)]) (fun j hj => by rw [up_sl (by omega), up_fr (by omega), up_sl (by omega)]) ⟨up_eq, sAdd_mem hM.2.2.1.2 (by rw [up_fr (by omega)]; exact up_eq) (fun j hj => by rw [up_fr (by omega), up_sl (by omega), up_fr (by omega)])⟩
  · have hb : -6 ≤ s3w False (x < 0) (99 < x ∨ 12 ≤ (sR S).1) ∧ s3w False (x < 0) (99 < x ∨ 12 ≤ (sR S).1) ≤ 0 := by unfold s3w; (repeat' split) <;> omega
    refine ⟨_, sRef S (s3w False (x < 0) (99 < x ∨ 12 ≤ (sR S).1)), hS.ref _, fun M hM => c1 M hM _ ⟨fun z => absurd z e, fun _ => C_ref hM (by omega)⟩, fun q M hM => W10_row_0 ⟨fun z => ?_, fun z1 => ⟨fun z => ?_, fun z2 => ⟨fun z => ?_, fun z3 => ?_⟩⟩⟩⟩
    · rw [ix.w] at z
      rw [show s3w False (x < 0) (99 < x ∨ 12 ≤ (sR S).1) = -4 by unfold s3w; rw [if_neg (fun z => z), if_pos z]]
      exact ⟨by decide, M_ref hM.thr (by omega)⟩
    · rw [ix.w] at z1
      rw [ix.w, wr_id (by omega) (by omega)] at z
      rw [show s3w False (x < 0) (99 < x ∨ 12 ≤ (sR S).1) = -6 by unfold s3w; rw [if_neg (fun z => z), if_neg z1, if_pos (by omega)]]
      exact ⟨by decide, M_ref hM.thr (by omega)⟩
    · rw [ix.w] at z1
      rw [hM.2.2.1.1, weq (by omega) (by omega) (by omega) (by omega)] at z
      rw [show s3w False (x < 0) (99 < x ∨ 12 ≤ (sR S).1) = -6 by unfold s3w; rw [if_neg (fun z => z), if_neg z1, if_pos (by omega)]]
      exact ⟨by decide, M_ref hM.thr (by omega)⟩
    · rw [ix.w] at z1
      rw [ix.w, wr_id (by omega) (by omega)] at z2
      rw [hM.2.2.1.1, weq (by omega) (by omega) (by omega) (by omega)] at z3
      refine absurd ?_ e
      unfold s3w
      rw [if_neg (fun z => z), if_neg z1, if_neg (by omega)]

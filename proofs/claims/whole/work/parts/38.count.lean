/-! count: both sides answer alike -/
def sArms (F : FS) : Nat → Int
  | 0 => 0
  | n + 1 => sArms F n + ar F n
theorem L_armsC {F : FS} (hF : FOK F) {M : Mem} (hM : RCf F M 1) {K : Int → Mem → Prop} (h : K (sArms F (pn F).toNat) M) : ∀ (k n : Nat), n + k = (pn F).toNat →
    TA i3_allArms 4 [some (vr 1), some (vi (sArms F n)), some (vi (n : Int))] [] (LC, M) (fun rv G' => ∃ r M', rv = some (vi r) ∧ G' = (LC, M') ∧ K r M')
  | 0, n, hn => by
    have hp := hF.2.2.1
    have e : n = (pn F).toNat := by omega
    subst e
    refine W3_allArms_4_1 ⟨fun z => ?_, fun _ => ⟨_, M, rfl, rfl, h⟩⟩
    rw [hM.2.2.1, wlt (by omega) (by omega) (by omega) (by omega)] at z; omega
  | k + 1, n, hn => by
    have hp := hF.2.2.1
    refine W3_allArms_4_1 ⟨fun _ => ?_, fun z => ?_⟩
    · rw [(ofP_eq hM (by omega)).1]
      have ih := L_armsC hF hM h k (n + 1) (by omega)
      have en : ((n + 1 : Nat) : Int) = (n : Int) + 1 := by omega
      rw [en] at ih
      exact ih
    · rw [hM.2.2.1, wlt (by omega) (by omega) (by omega) (by omega)] at z; omega
theorem L_armsM {S : ST} (hF : FOK (sF S)) {q : Option Nat} {M : Mem} (hM : RM S M) : ∀ (k n : Nat), n + k = (pn (sF S)).toNat →
    TA i10_count 69 [some (vr 0), none, some (vi (sArms (sF S) n)), some (vi (n : Int))] [] (LM q, M) (MP S (sArms (sF S) (pn (sF S)).toNat))
  | 0, n, hn => by
    have hp := hF.2.2.1
    have e : n = (pn (sF S)).toNat := by omega
    subst e
    refine W10_count_69 ⟨fun z => ?_, fun _ => ⟨q, M, rfl, rfl, hM⟩⟩
    rw [hM.1.2.2.1, wlt (by omega) (by omega) (by omega) (by omega)] at z; omega
  | k + 1, n, hn => by
    have hp := hF.2.2.1
    refine W10_count_69 ⟨fun _ => ?_, fun z => ?_⟩
    · have ew : wr (n : Int) = (n : Int) := wr_id (by omega) (by omega)
      rw [ew, show ((n : Int)).toNat = n by omega, (hM.1.2.2.2.2.2 n (by omega)).1]
      have ih := L_armsM hF (q := q) hM k (n + 1) (by omega)
      have en : ((n + 1 : Nat) : Int) = (n : Int) + 1 := by omega
      rw [en] at ih
      exact ⟨by omega, ih⟩
    · rw [hM.1.2.2.1, wlt (by omega) (by omega) (by omega) (by omega)] at z; omega
def sCnt (S : ST) (w : Int) : Int := if w = 0 then pn (sF S) else if w = 1 then yd (sF S) else if w = 2 then ln (sF S) else if w = 3 then sArms (sF S) (pn (sF S)).toNat else if w = 4 then ((sL S).1 : Int) else if w = 5 then ((sR S).1 : Int) else if w = 6 then ((sT S).length : Int) else if 11 ≤ w ∧ w ≤ 16 then sC S (w - 10).toNat else -9
theorem SIM_count {w : Int} (iw : IR w) : SIM i9_count 2 i10_count 4 [vi w] := by
  intro S hS
  have hF := hS.1
  have i11 : IR 11 := by unfold IR; omega
  have i16 : IR 16 := by unfold IR; omega
  have e11 : wr 11 = 11 := wr_id (by omega) (by omega)
  have e16 : wr 16 = 16 := wr_id (by omega) (by omega)
  have hlast : ∀ f : Nat → Int, (∀ j, j < 7 → f j = sC S j) → ∀ M : Mem, M 35 = f → ¬ w = 0 → ¬ w = 1 → ¬ w = 2 → ¬ w = 3 → ¬ w = 4 → ¬ w = 5 → ¬ w = 6 → (if w < 11 then (-9) else if 16 < w then (-9) else rd M 35 7 (w - 10)) = sCnt S w := by
    intro f hf M hM z0 z1 z2 z3 z4 z5 z6
    unfold sCnt
    rw [if_neg z0, if_neg z1, if_neg z2, if_neg z3, if_neg z4, if_neg z5, if_neg z6]
    by_cases g : 11 ≤ w ∧ w ≤ 16
    · rw [if_neg (by omega), if_neg (by omega), if_pos g, rd_in (by omega) (by omega) (by omega), hM, hf _ (by omega)]
    · rw [if_neg g]
      (repeat' split) <;> omega
  refine ⟨sCnt S w, S, hS, fun M hM => W9_count_0 ?_, fun q M hM => W10_count_0 ?_⟩
  · rw [iw.w, e11, e16]
    refine ⟨fun z => ⟨M, ?_, rfl, hM⟩, fun z0 => ⟨fun z => ⟨M, ?_, rfl, hM⟩, fun z1 => ⟨fun z => ⟨M, ?_, rfl, hM⟩, fun z2 => ⟨fun z => W3_allArms_0_1 (L_armsC hF hM.1 ⟨M, by unfold sCnt; rw [if_neg z0, if_neg z1, if_neg z2, if_pos z], rfl, hM⟩ (pn (sF S)).toNat 0 (by omega)), fun z3 => ⟨fun z => ⟨M, ?_, rfl, hM⟩, fun z4 => ⟨fun z => ⟨M, ?_, rfl, hM⟩, fun z5 => ⟨fun z => ⟨M, ?_, rfl, hM⟩, fun z6 => W9_count_125 ⟨M, ?_, rfl, hM⟩⟩⟩⟩⟩⟩⟩⟩
    · rw [hM.1.2.2.1]; unfold sCnt; rw [if_pos z]
    · rw [hM.1.1]; unfold sCnt; rw [if_neg z0, if_pos z]
    · rw [hM.1.2.1]; unfold sCnt; rw [if_neg z0, if_neg z1, if_pos z]
    · rw [hM.2.1.1]; unfold sCnt; rw [if_neg z0, if_neg z1, if_neg z2, if_neg z3, if_pos z]
    · rw [hM.2.2.1.1]; unfold sCnt; rw [if_neg z0, if_neg z1, if_neg z2, if_neg z3, if_neg z4, if_pos z]
    · rw [hM.2.2.2.2.2.1]; unfold sCnt; rw [if_neg z0, if_neg z1, if_neg z2, if_neg z3, if_neg z4, if_neg z5, if_pos z]
    · rw [hlast (M 35) hM.2.2.2.1 M rfl z0 z1 z2 z3 z4 z5 z6]
  · have hT := hM.thr
    rw [iw.w, in_eq iw i11 i16]
    refine ⟨fun z => ⟨q, _, ?_, rfl, hT⟩, fun z0 => ⟨fun z => ⟨q, _, ?_, rfl, hT⟩, fun z1 => ⟨fun z => ⟨q, _, ?_, rfl, hT⟩, fun z2 => ⟨fun z => ?_, fun z3 => ⟨fun z => ⟨q, _, ?_, rfl, hT⟩, fun z4 => ⟨fun z => ⟨q, _, ?_, rfl, hT⟩, fun z5 => ⟨fun z => ⟨q, _, ?_, rfl, hT⟩, fun z6 => ⟨fun z => ⟨q, _, ?_, rfl, hT⟩, fun z => ?_⟩⟩⟩⟩⟩⟩⟩⟩
    · rw [hM.1.2.2.1]; unfold sCnt; rw [if_pos z]
    · rw [hM.1.1]; unfold sCnt; rw [if_neg z0, if_pos z]
    · rw [hM.1.2.1]; unfold sCnt; rw [if_neg z0, if_neg z1, if_pos z]
    · have := L_armsM hF (q := q) hT (pn (sF S)).toNat 0 (by omega)
      unfold sCnt; rw [if_neg z0, if_neg z1, if_neg z2, if_pos z]
      exact this
    · rw [hM.2.1.1]; unfold sCnt; rw [if_neg z0, if_neg z1, if_neg z2, if_neg z3, if_pos z]
    · rw [hM.2.2.1.1]; unfold sCnt; rw [if_neg z0, if_neg z1, if_neg z2, if_neg z3, if_neg z4, if_pos z]
    · rw [hM.2.2.2.2.2.1]; unfold sCnt; rw [if_neg z0, if_neg z1, if_neg z2, if_neg z3, if_neg z4, if_neg z5, if_pos z]
    · have g : ¬ (11 ≤ w ∧ w ≤ 16) := by intro g; rw [if_pos g, wr1] at z; omega
      unfold sCnt; rw [if_neg z0, if_neg z1, if_neg z2, if_neg z3, if_neg z4, if_neg z5, if_neg z6, if_neg g]
    · have g : 11 ≤ w ∧ w ≤ 16 := by
        apply Classical.byContradiction
        intro g; rw [if_neg g] at z; exact z wr0
      rw [wr_id (x := w - 10) (by omega) (by omega)]
      refine ⟨by omega, q, _, ?_, rfl, hT⟩
      rw [hM.2.2.2.1 _ (by omega)]
      unfold sCnt; rw [if_neg z0, if_neg z1, if_neg z2, if_neg z3, if_neg z4, if_neg z5, if_neg z6, if_pos g]

/-! bestLane: both sides answer alike -/
def setLn (F : FS) (l : Int) : FS := (yd F, l, pn F, kd F, fg F, ar F, hv F, hd F)
theorem FOK.setLn {F : FS} (h : FOK F) {l : Int} (hl : 0 ≤ l ∧ l ≤ 1) : FOK (setLn F l) := ⟨h.1, hl, h.2.2⟩
theorem RMf.setLn {F : FS} {M : Mem} (h : RMf F M) (l : Int) : RMf (setLn F l) (up M 0 3 l) := by
  obtain ⟨h1, h2, h3, h4, h5, h6⟩ := h
  refine ⟨by rw [up_sl (by omega)]; exact h1, up_eq, by rw [up_sl (by omega)]; exact h3, by rw [up_fr (by omega)]; exact h4, by rw [up_fr (by omega)]; exact h5, by rw [up_fr (by omega), up_fr (by omega), up_fr (by omega)]; exact h6⟩
/-- a race in a lane that is set first -/
theorem T_plainIn {q : Option Nat} {F : FS} (hF : FOK F) {l : Int} (hl : 0 ≤ l ∧ l ≤ 1) {hold pace : Int} (hb : BOK hold pace) {p : Nat} (hp : p < 6) {M : Mem} {l0 : Int} (hR : RMf (setLn F l0) M) {K : Int → Mem → Prop}
    (h : ∀ M', FrR (up M 0 3 l) M' → K (tvM (sRace F l.toNat p hold pace)) M') : TI i10_plainRun 4 [vr 0, vi (p : Int), vi hold, vi pace] (LM q, up M 0 3 l) K := by
  have hR2 : RMf (setLn F l) (up M 0 3 l) := hR.setLn l
  refine T_plainRun (hF.setLn hl) hb hp hR2 (fun M' hL => ?_)
  exact h M' hL.1
theorem SIM_bestLane {a h p : Int} (ia : IR a) (ih : IR h) (ip : IR p) : SIM i9_bestLane 7 i10_bestLane 8 [vi a, vi h, vi p] := by
  intro S hS
  have hF := hS.1
  have c1 := sOne_le (sF S) a h p
  have k1 : ∀ M, RC S M → f9_badOne M a h p = sOne (sF S) a h p := fun M hM => badOne_eq hF hM.1 ia ih ip
  have k2 : ∀ M, RM S M → (if wr (f10_isOne (up M 0 8 0) a) = 0 then (-1) else f10_wrongBy h p) = sOne (sF S) a h p := fun M hM => one_eq hF hM.thr.1 ia ih ip
  by_cases e : sOne (sF S) a h p = 0
  · obtain ⟨ha, hB⟩ := sOne_ok e
    obtain ⟨n, hn6, rfl, -⟩ := ha.n hF
    obtain ⟨A, hA⟩ : ∃ A, A = sRace (sF S) 0 n h p := ⟨_, rfl⟩
    obtain ⟨B, hBB⟩ : ∃ B, B = sRace (sF S) 1 n h p := ⟨_, rfl⟩
    have t0 : TB A := by rw [hA]; exact TB_race hF (by omega) hn6 hB
    have t1 : TB B := by rw [hBB]; exact TB_race hF (by omega) hn6 hB
    have lA := tvM_le t0
    have lB := tvM_le t1
    have lA' := tvC_le t0
    have lB' := tvC_le t1
    have nv : ∀ s : RS, TB s → (tvC s < 10000000 ↔ ¬ tvM s = 9999999) := by
      intro s hs
      cases s with
      | none => exact ⟨fun z => absurd z (by decide), fun z => absurd rfl z⟩
      | some z => obtain ⟨l, t, x, y⟩ := z; have h2 : 0 ≤ t ∧ t ≤ 9000 := hs; show t < 10000000 ↔ ¬ t = 9999999; omega
    refine ⟨if tvM A = 9999999 ∧ tvM B = 9999999 then -9 else if tvM B < tvM A then 1 else 0, S, hS, fun M hM => W9_bestLane_0 ⟨fun _ => ?_, fun z => ?_⟩, fun q M hM => W10_bestLane_0 ⟨isOne_01 hF hM.1 ia, ?_⟩⟩
    · refine T_timeIn hF hM.1 (l := 0) (by omega) hn6 hB (fun M1 hL1 => ?_)
      refine T_timeIn hF (hM.fr hL1.C).1 (l := 1) (by omega) hn6 hB (fun M2 hL2 => ?_)
      have hM2 := hM.fr (hL1.C.tr hL2.C)
      have e0 : sRace (sF S) (0 : Int).toNat n h p = A := hA.symm
      have e1 : sRace (sF S) (1 : Int).toNat n h p = B := hBB.symm
      rw [e0, e1]
      have hlt : (if wr (tvC B) < wr (tvC A) then (1 : Int) else 0) = if tvM B < tvM A then 1 else 0 := by simp only [tlC t1 t0]
      rw [hlt, wr_id (x := tvC A) (by omega) (by omega), wr_id (x := tvC B) (by omega) (by omega), wr_id (x := 10000000) (by omega) (by omega), nv A t0, nv B t1]
      refine ⟨fun z => W9_bestLane_70 ⟨M2, ?_, rfl, hM2⟩, fun z => ⟨fun z2 => W9_bestLane_70 ⟨M2, ?_, rfl, hM2⟩, fun z2 => ⟨M2, ?_, rfl, hM2⟩⟩⟩
      · rw [if_neg (c := tvM A = 9999999 ∧ tvM B = 9999999) (fun y => z y.1)]
      · rw [if_neg (c := tvM A = 9999999 ∧ tvM B = 9999999) (fun y => z2 y.2)]
      · rw [if_pos (c := tvM A = 9999999 ∧ tvM B = 9999999) (by omega)]
    · rw [k1 M hM, e] at z; exact absurd wr0 z
    · rw [k2 M hM, e]
      have hT := hM.thr
      refine W10_bestLane_22 ⟨fun z => ?_, fun _ => ?_⟩
      · rw [wr0] at z; omega
      · refine T_plainIn hF (l := 0) (by omega) hB hn6 (l0 := ln (sF S)) hT.1 (fun M1 f1 => ?_)
        have hR1 : RMf (setLn (sF S) 0) M1 := f1.F (RMf.setLn (l := 0) (F := sF S) hT.1)
        refine T_plainIn hF (l := 1) (by omega) hB hn6 (l0 := 0) hR1 (fun M2 f2 => W10_bestLane_107 ⟨q, _, ?_, rfl, hT.fr ⟨fun i a b => ?_, fun j hj => ?_⟩⟩)
        · have e0 : sRace (sF S) (0 : Int).toNat n h p = A := hA.symm
          have e1 : sRace (sF S) (1 : Int).toNat n h p = B := hBB.symm
          rw [e0, e1, wr_id (x := tvM A) (by omega) (by omega), wr_id (x := tvM B) (by omega) (by omega), wr_id (x := 9999999) (by omega) (by omega)]
          by_cases g : tvM A = 9999999
          · by_cases g2 : tvM B = 9999999
            · rw [if_pos g, if_pos g2, if_pos (c := tvM A = 9999999 ∧ tvM B = 9999999) ⟨g, g2⟩]
            · rw [if_pos g, if_neg g2, if_neg (c := tvM A = 9999999 ∧ tvM B = 9999999) (fun y => g2 y.2)]
          · rw [if_neg g, if_neg (c := tvM A = 9999999 ∧ tvM B = 9999999) (fun y => g y.1)]
        · rw [up_fr (by omega), f2.1 i (by omega) (by omega), up_fr (by omega), f1.1 i (by omega) (by omega), up_fr (by omega)]
        · by_cases j3 : j = 3
          · rw [j3, up_eq]
          · rw [up_sl j3, f2.2 j (by omega), up_sl j3, f1.2 j (by omega), up_sl j3]
  · refine ⟨sOne (sF S) a h p, sRef S (sOne (sF S) a h p), hS.ref _, fun M hM => W9_bestLane_0 ⟨fun z => ?_, fun _ => ?_⟩, fun q M hM => W10_bestLane_0 ⟨isOne_01 hF hM.1 ia, ?_⟩⟩
    · rw [k1 M hM, wr_id (by omega) (by omega)] at z; exact absurd z e
    · rw [k1 M hM]; exact C_ref hM (by omega)
    · rw [k2 M hM]
      refine W10_bestLane_22 ⟨fun _ => ⟨by rw [wr_id (by omega) (by omega)]; omega, M_ref hM.thr (by omega)⟩, fun z => ?_⟩
      rw [wr_id (by omega) (by omega)] at z; omega

/-! feels: both sides answer alike -/
def sFeel (F : FS) (y p : Nat) (hold pace w : Int) : Int := if w = 0 then sLoad (lk F (ln F).toNat y) (lf F (ln F).toNat y) (hv F p) hold else if w = 1 then sTen (lk F (ln F).toNat y) (lf F (ln F).toNat y) hold pace else sLim (lk F (ln F).toNat y) (hd F p)
theorem SIM_feels {y a h p w : Int} (iy : IR y) (ia : IR a) (ih : IR h) (ip : IR p) (iw : IR w) : SIM i9_feels 9 i10_feels 8 [vi y, vi a, vi h, vi p, vi w] := by
  intro S hS
  have hF := hS.1
  obtain ⟨hy1, hy2⟩ := hF.1
  obtain ⟨hl1, hl2⟩ := hF.2.1
  have i2 : IR 2 := by unfold IR; omega
  have im : IR (-1) := by unfold IR; omega
  obtain ⟨W, hW⟩ : ∃ W, W = sBit (if (0 ≤ y ∧ y < yd (sF S)) ∧ sWho (sF S) a then sBy h p else -1) w 2 := ⟨_, rfl⟩
  have b0 := sBy_le h p
  have b1 : -6 ≤ (if (0 ≤ y ∧ y < yd (sF S)) ∧ sWho (sF S) a then sBy h p else -1) ∧ (if (0 ≤ y ∧ y < yd (sF S)) ∧ sWho (sF S) a then sBy h p else -1) ≤ 0 := by split <;> omega
  have b2 := sBit_le (x := w) (m := 2) b1
  rw [← hW] at b2
  have kC : ∀ M, RC S M → f9_orOther (f9_firstOf (if wr (f9_noYard M y) = 0 then (if wr (f9_nobody M a) = 0 then 0 else 1) else 1) (f9_low h p) (f9_high h p)) w 2 = W := by
    intro M hM
    have e : (if wr (f9_noYard M y) = 0 then (if wr (f9_nobody M a) = 0 then (0 : Int) else 1) else 1) = if ¬ ((0 ≤ y ∧ y < yd (sF S)) ∧ sWho (sF S) a) then 1 else 0 := by
      rw [noYard_eq hF hM.1 iy, nobody_eq hF hM.1 ia]
      by_cases g1 : 0 ≤ y ∧ y < yd (sF S)
      · rw [if_pos g1, if_pos wr0]
        by_cases g2 : sWho (sF S) a
        · rw [if_pos g2, if_pos wr0, if_neg (fun z => z ⟨g1, g2⟩)]
        · rw [if_neg g2, if_neg (by rw [wr1]; omega), if_pos (fun z => g2 z.2)]
      · rw [if_neg g1, if_neg (by rw [wr1]; omega), if_pos (fun z => g1 z.1)]
    rw [by_eq (F := sF S) ih ip e, hW]
    have e2 : (if ¬ ((0 ≤ y ∧ y < yd (sF S)) ∧ sWho (sF S) a) then (-1 : Int) else sBy h p) = if (0 ≤ y ∧ y < yd (sF S)) ∧ sWho (sF S) a then sBy h p else -1 := by
      by_cases g : (0 ≤ y ∧ y < yd (sF S)) ∧ sWho (sF S) a
      · rw [if_neg (fun z => z g), if_pos g]
      · rw [if_pos g, if_neg g]
    rw [e2]
    exact orOther_eq (by unfold IR; omega) iw i2
  have kM : ∀ q M Post, RM S M → TA i10_feels 37 [some (vr 0), some (vi y), some (vi a), some (vi h), some (vi p), some (vi w), none, none] [vi W] (LM q, up M 0 8 0) Post → TC i10_feels 8 [vr 0, vi y, vi a, vi h, vi p, vi w] (LM q, M) Post := by
    intro q M Post hM k
    have em : ¬ ((0 ≤ y ∧ y < yd (sF S)) ∧ sWho (sF S) a) → W = -1 := by
      intro g
      rw [hW, if_neg g]
      unfold sBit
      rw [if_neg (by omega)]
    refine W10_feels_0 ⟨yard_01 hF hM.1 iy, fun z => ?_, fun z => ⟨isOne_01 hF hM.1 ia, ?_⟩⟩
    · rw [isYard_eq hF hM.thr.1 iy] at z
      have g : ¬ (0 ≤ y ∧ y < yd (sF S)) := by
        intro g; rw [if_pos g, wr1] at z; omega
      rw [em (fun z => g z.1)] at k
      exact k
    · rw [isYard_eq hF hM.thr.1 iy] at z
      have g : 0 ≤ y ∧ y < yd (sF S) := by
        apply Classical.byContradiction
        intro g; rw [if_neg g] at z; exact z wr0
      rw [isOne_eq hF hM.thr.1 ia]
      by_cases g2 : sWho (sF S) a
      · rw [if_pos g2, if_neg (by rw [wr1]; omega), wrongBy_eq ih ip, wrongBit_eq (by unfold IR; omega) iw i2]
        rw [hW, if_pos ⟨g, g2⟩] at k
        exact k
      · rw [if_neg g2, if_pos wr0]
        rw [em (fun z => g2 z.2)] at k
        exact k
  by_cases e : W = 0
  · have e' := e
    rw [hW] at e'
    obtain ⟨e1, w0, wle⟩ := sBit_ok e'
    have g : (0 ≤ y ∧ y < yd (sF S)) ∧ sWho (sF S) a := by
      apply Classical.byContradiction; intro g; rw [if_neg g] at e1; omega
    rw [if_pos g] at e1
    have hB := sBy_ok e1
    obtain ⟨n, hn6, rfl, hn⟩ := g.2.n hF
    obtain ⟨pa, ph, pd⟩ := hF.P hn6
    have hK := hF.K (lane := (ln (sF S)).toNat) (y := y.toNat) (by omega) (by omega)
    refine ⟨sFeel (sF S) y.toNat n h p w, S, hS, fun M hM => W9_feels_0 (W9_feels_21 ⟨fun _ => ⟨fun z => ⟨w2, ?_⟩, fun z => ⟨fun z2 => ?_, fun z2 => ?_⟩⟩, fun z => ?_⟩), fun q M hM => kM q M _ hM ?_⟩
    · rw [hM.1.2.1, kindOf_eq hM.1 hF.2.1 (by omega), figureOf_eq hM.1 hF.2.1 (by omega), (ofP_eq hM.1 hn6).2.1, f4_load hK ph.1 ph.2 hB.1.1 hB.1.2]
      rw [iw.w] at z
      exact ⟨M, by unfold sFeel; rw [if_pos z], rfl, hM⟩
    · rw [hM.1.2.1, kindOf_eq hM.1 hF.2.1 (by omega), figureOf_eq hM.1 hF.2.1 (by omega), f4_ten hK hB]
      rw [iw.w] at z z2
      exact ⟨M, by unfold sFeel; rw [if_neg z, if_pos z2], rfl, hM⟩
    · rw [hM.1.2.1, kindOf_eq hM.1 hF.2.1 (by omega), (ofP_eq hM.1 hn6).2.2, f4_lim hK.1.1 hK.1.2 pd.1 pd.2]
      rw [iw.w] at z z2
      exact ⟨M, by unfold sFeel; rw [if_neg z, if_neg z2], rfl, hM⟩
    · rw [kC M hM, e] at z
      exact absurd wr0 z
    · have hT := hM.thr
      obtain ⟨g1, g2, g3, g4, g5, g6⟩ := walkAs_ok hF hT.1 hn6
      have hR : RM S (g10_walkAs (up M 0 8 0) (n : Int)) := hT.fr g1.q
      have ei : 20 * (up M 0 8 0) 0 3 + y = 20 * ln (sF S) + y := by rw [hT.1.2.1]
      have e20 : (20 * ln (sF S) + y).toNat = 20 * (ln (sF S)).toNat + y.toNat := by omega
      have e40 : 0 ≤ wr (20 * ln (sF S) + y) ∧ wr (20 * ln (sF S) + y) < ((40 : Nat) : Int) := by rw [wr_id (by omega) (by omega)]; omega
      have hkd : g10_walkAs (up M 0 8 0) (n : Int) 1 (20 * ln (sF S) + y).toNat = lk (sF S) (ln (sF S)).toNat y.toNat := by rw [hR.1.2.2.2.1 _ (by omega), e20]; rfl
      have hfg : g10_walkAs (up M 0 8 0) (n : Int) 2 (20 * ln (sF S) + y).toNat = lf (sF S) (ln (sF S)).toNat y.toNat := by rw [hR.1.2.2.2.2.1 _ (by omega), e20]; rfl
      rw [e]
      refine W10_feels_37 ⟨fun z => ?_, fun _ => ⟨by rw [wr_id (by omega) (by omega)]; omega, fun z => ⟨w2, ?_⟩, fun z => ⟨fun z2 => ?_, fun z2 => ?_⟩⟩⟩
      · rw [wr0] at z; omega
      · rw [ei]
        rw [iw.w] at z
        refine ⟨e40, q, _, ?_, rfl, hR⟩
        rw [m_load (by omega) hkd hfg hK (by rw [g3]; exact ph.1) (by rw [g3]; exact ph.2) hB.1.1 hB.1.2, g3]
        unfold sFeel; rw [if_pos z]
      · rw [ei]
        rw [iw.w] at z z2
        rw [wr1] at z2
        refine ⟨e40, q, _, ?_, rfl, hR⟩
        rw [m_ten (by omega) hkd hfg hK hB]
        unfold sFeel; rw [if_neg z, if_pos z2]
      · rw [ei]
        rw [iw.w] at z z2
        rw [wr1] at z2
        refine ⟨e40, q, _, ?_, rfl, hR⟩
        rw [m_lim (by omega) hkd hK.1 (by rw [g4]; exact pd.1) (by rw [g4]; exact pd.2), g4]
        unfold sFeel; rw [if_neg z, if_neg z2]
  · refine ⟨W, sRef S W, hS.ref _, fun M hM => W9_feels_0 (W9_feels_21 ⟨fun z => ?_, fun _ => ?_⟩), fun q M hM => kM q M _ hM (W10_feels_37 ⟨fun _ => ⟨by rw [wr_id (by omega) (by omega)]; omega, M_ref hM.thr (by omega)⟩, fun z => ?_⟩)⟩
    · rw [kC M hM, wr_id (by omega) (by omega)] at z
      exact absurd z e
    · rw [kC M hM]
      exact C_ref hM (by omega)
    · rw [wr_id (by omega) (by omega)] at z; omega

/-! feed, ground: both sides answer alike -/
theorem SIM_feed {x : Int} (ix : IR x) : SIM i9_feed 3 i10_feed 2 [vi x] := by
  intro S hS
  obtain ⟨hn, hv⟩ := hS.2.1
  have c1 : ∀ M, RC S M → ∀ Post, ((s3w False (x < 0) (255 < x ∨ 96 ≤ (sL S).1) = 0 → Post (some (vi (((sL S).1 : Int) + 1))) (LC, up (up M 31 (sL S).1 x) 29 0 (((sL S).1 : Int) + 1))) ∧ (s3w False (x < 0) (255 < x ∨ 96 ≤ (sL S).1) ≠ 0 → Post (some (vi (f9_refuse (s3w False (x < 0) (255 < x ∨ 96 ≤ (sL S).1))))) (LC, g9_refuse M (s3w False (x < 0) (255 < x ∨ 96 ≤ (sL S).1))))) → TC i9_feed 3 [vr 0, vi x] (LC, M) Post := by
    intro M hM Post h
    have e7 : M 29 0 = ((sL S).1 : Int) := hM.2.1.1
    refine W9_feed_0 (W9_feed_10 (W9_feed_34 ?_))
    have e0 : (if wr 255 < wr x then (1 : Int) else if wr (M 29 0) < wr 96 then 0 else 1) = if 255 < x ∨ 96 ≤ (sL S).1 then 1 else 0 := by
      rw [e7, ix.w, wr_id (x := 255) (by omega) (by omega), wr_id (x := 96) (by omega) (by omega), wr_id (x := ((sL S).1 : Int)) (by omega) (by omega)]
      (repeat' split) <;> omega
    have e1 : (if wr x < 0 then (1 : Int) else 0) = if x < 0 then 1 else 0 := by rw [ix.w]
    have e2 := first_eq (a := False) (b := x < 0) (c := 255 < x ∨ 96 ≤ (sL S).1)
    rw [if_neg (c := False) (fun z => z)] at e2
    rw [e0, e1, e2]
    have hb : -6 ≤ s3w False (x < 0) (255 < x ∨ 96 ≤ (sL S).1) ∧ s3w False (x < 0) (255 < x ∨ 96 ≤ (sL S).1) ≤ 0 := by unfold s3w; (repeat' split) <;> omega
    rw [wr_id (by omega) (by omega)]
    refine ⟨fun z => ?_, fun z => h.2 z⟩
    have hlt : (sL S).1 < 96 := by unfold s3w at z; (repeat' split at z) <;> omega
    have ew : wt M 31 96 (M 29 0) x = up M 31 (sL S).1 x := by rw [e7, wt_in (by omega) (by omega) (by omega)]; rfl
    have eg : g7_adds M 29 x = up (wt M 31 96 (M 29 0) x) 29 0 ((wt M 31 96 (M 29 0) x) 29 0 + 1) := rfl
    rw [eg, ew, up_fr (by omega), e7]
    exact h.1 z
  by_cases e : s3w False (x < 0) (255 < x ∨ 96 ≤ (sL S).1) = 0
  · have hx : 0 ≤ x ∧ x ≤ 255 ∧ (sL S).1 < 96 := by unfold s3w at e; (repeat' split at e) <;> omega
    refine ⟨((sL S).1 : Int) + 1, (sF S, sAdd (sL S) x, sR S, sC S, sI S, sT S), ⟨hS.1, sAdd_ok ⟨hn, hv⟩ hx.2.2 ⟨hx.1, hx.2.1⟩, hS.2.2⟩, fun M hM => c1 M hM _ ⟨fun _ => ⟨_, rfl, rfl, ?_⟩, fun z => absurd e z⟩, fun q M hM => W10_feed_0 ⟨fun z => ?_, fun _ => ⟨fun z => ?_, fun _ => ⟨fun z => ?_, fun _ => ⟨?_, q, _, by rw [hM.2.1.1], rfl, ?_⟩⟩⟩⟩⟩
    · refine hM.lt (fun i _ a b => by rw [up_fr a, up_fr b]) ⟨up_eq, sAdd_mem hM.2.1.2 (by rw [up_fr (by omega), up_eq]) (fun j hj => by rw [up_fr (by omega), up_sl hj])⟩
    · rw [ix.w] at z; omega
    · rw [ix.w, wr_id (by omega) (by omega)] at z; omega
    · rw [hM.2.1.1, weq (by omega) (by omega) (by omega) (by omega)] at z; omega
    · rw [hM.2.1.1, wr_id (by omega) (by omega)]; omega
    · rw [hM.2.1.1, wr_id (x := ((sL S).1 : Int)) (by omega) (by omega)]
      refine hM.lt (fun i a b => by rw [up_fr (by omega), up_fr (by omega), up_fr (by omega)]) (fun j hj => by rw [up_sl (by omega), up_fr (by omega), up_sl (by omega)]) ⟨up_eq, sAdd_mem hM.2.1.2 (by rw [up_fr (by omega)]; exact up_eq) (fun j hj => by rw [up_fr (by omega), up_sl (by omega), up_fr (by omega)])⟩
  · have hb : -6 ≤ s3w False (x < 0) (255 < x ∨ 96 ≤ (sL S).1) ∧ s3w False (x < 0) (255 < x ∨ 96 ≤ (sL S).1) ≤ 0 := by unfold s3w; (repeat' split) <;> omega
    refine ⟨_, sRef S (s3w False (x < 0) (255 < x ∨ 96 ≤ (sL S).1)), hS.ref _, fun M hM => c1 M hM _ ⟨fun z => absurd z e, fun _ => C_ref hM (by omega)⟩, fun q M hM => W10_feed_0 ⟨fun z => ?_, fun z1 => ⟨fun z => ?_, fun z2 => ⟨fun z => ?_, fun z3 => ?_⟩⟩⟩⟩
    · rw [ix.w] at z
      rw [show s3w False (x < 0) (255 < x ∨ 96 ≤ (sL S).1) = -4 by unfold s3w; rw [if_neg (fun z => z), if_pos z]]
      exact ⟨by decide, M_ref hM.thr (by omega)⟩
    · rw [ix.w] at z1
      rw [ix.w, wr_id (by omega) (by omega)] at z
      rw [show s3w False (x < 0) (255 < x ∨ 96 ≤ (sL S).1) = -6 by unfold s3w; rw [if_neg (fun z => z), if_neg z1, if_pos (by omega)]]
      exact ⟨by decide, M_ref hM.thr (by omega)⟩
    · rw [ix.w] at z1
      rw [hM.2.1.1, weq (by omega) (by omega) (by omega) (by omega)] at z
      rw [show s3w False (x < 0) (255 < x ∨ 96 ≤ (sL S).1) = -6 by unfold s3w; rw [if_neg (fun z => z), if_neg z1, if_pos (by omega)]]
      exact ⟨by decide, M_ref hM.thr (by omega)⟩
    · rw [ix.w] at z1
      rw [ix.w, wr_id (by omega) (by omega)] at z2
      rw [hM.2.1.1, weq (by omega) (by omega) (by omega) (by omega)] at z3
      refine absurd ?_ e
      unfold s3w
      rw [if_neg (fun z => z), if_neg z1, if_neg (by omega)]
theorem noYard_eq {F : FS} (hF : FOK F) {M : Mem} (hR : RCf F M 1) {y : Int} (hy : IR y) : f9_noYard M y = if 0 ≤ y ∧ y < yd F then 0 else 1 := by
  have h3 := hF.1
  unfold f9_noYard
  rw [hR.1, hy.w, wr_id (x := yd F) (by omega) (by omega)]
  (repeat' split) <;> omega
theorem isYard_eq {F : FS} (hF : FOK F) {M : Mem} (hR : RMf F M) {y : Int} (hy : IR y) : f10_isYard M y = if 0 ≤ y ∧ y < yd F then 1 else 0 := by
  have h3 := hF.1
  unfold f10_isYard
  rw [hR.1, hy.w, wr_id (x := yd F - 1) (by omega) (by omega), in_eq hy (by unfold IR; omega) (by unfold IR; omega)]
  (repeat' split) <;> omega
theorem yard_01 {F : FS} (hF : FOK F) {M : Mem} (hR : RMf F M) {a : Int} (ha : IR a) : wr (f10_in (wr a) (((0 : Nat) : Int)) (wr (M 0 2 - 1))) = 0 ∨ wr (f10_in (wr a) (((0 : Nat) : Int)) (wr (M 0 2 - 1))) = 1 := by
  have h3 := hF.1
  rw [hR.1, ha.w, wr_id (x := yd F - 1) (by omega) (by omega)]
  exact in_01 ha (by unfold IR; omega) (by unfold IR; omega)
theorem noGround_eq {F : FS} (hF : FOK F) {M : Mem} (hR : RCf F M 1) {l y : Int} (hl : IR l) (hy : IR y) : f9_noGround M l y = if (0 ≤ l ∧ l ≤ 1) ∧ 0 ≤ y ∧ y < yd F then 0 else 1 := by
  unfold f9_noGround f9_isOther
  rw [noYard_eq hF hR hy, hl.w, wr1]
  by_cases h1 : l < 0
  · rw [if_pos h1, if_neg (by rw [wr1]; omega), if_neg (by omega)]
  · rw [if_neg h1]
    by_cases h2 : 1 < l
    · rw [if_pos h2, if_neg (by rw [wr1]; omega), if_neg (by omega)]
    · rw [if_neg h2, if_pos wr0]
      by_cases h3 : 0 ≤ y ∧ y < yd F
      · rw [if_pos h3, if_pos wr0, if_pos (by omega)]
      · rw [if_neg h3, if_neg (by rw [wr1]; omega), if_neg (by omega)]
/-- -1 ahead of all -/
def sNo (a : Prop) [Decidable a] (w : Int) : Int := if a then w else -1
theorem SIM_ground {l y w : Int} (il : IR l) (iy : IR y) (iw : IR w) : SIM i9_ground 5 i10_ground 5 [vi l, vi y, vi w] := by
  intro S hS
  have hF := hS.1
  have hyd := hF.1
  have i1 : IR 1 := by unfold IR; omega
  have i0 : IR 0 := by unfold IR; omega
  have im : IR (-1) := by unfold IR; omega
  by_cases g : (0 ≤ l ∧ l ≤ 1) ∧ 0 ≤ y ∧ y < yd (sF S)
  · have kC : ∀ M, RC S M → (if wr (f9_noGround M l y) = 0 then (0 : Int) else -1) = 0 := fun M hM => by rw [noGround_eq hF hM.1 il iy, if_pos g, if_pos wr0]
    have kM : ∀ q M Post, RM S M → TA i10_ground 33 [some (vr 0), some (vi l), some (vi y), some (vi w), none] [vi (sBit 0 w 1)] (LM q, up M 0 8 0) Post → TC i10_ground 5 [vr 0, vi l, vi y, vi w] (LM q, M) Post := by
      intro q M Post hM h
      refine W10_ground_0 ⟨fun z => ?_, fun _ => ⟨yard_01 hF hM.1 iy, ?_⟩⟩
      · rw [il.w, in_eq il (by unfold IR; omega) (by unfold IR; omega), if_pos (by omega), wr1] at z; omega
      · rw [isYard_eq hF hM.thr.1 iy, if_pos g.2, if_neg (by rw [wr1]; omega), wrongBit_eq i0 iw i1]
        exact h
    have hb := sBit_le (w := 0) (x := w) (m := 1) (by omega)
    have e40 : wr (20 * l + y) = 20 * l + y := wr_id (by omega) (by omega)
    by_cases e : sBit 0 w 1 = 0
    · refine ⟨if w = 0 then kd (sF S) (20 * l + y).toNat else fg (sF S) (20 * l + y).toNat, S, hS, fun M hM => W9_ground_0 ?_, fun q M hM => kM q M _ hM (W10_ground_33 ?_)⟩
      · rw [kC M hM]
        refine W9_ground_14 ⟨fun _ => W9_ground_58 ?_, fun z => ?_⟩
        · refine ⟨M, ?_, rfl, hM⟩
          rw [iw.w]
          unfold f3_kindOf f3_figureOf f3_placeOf
          rw [rd_in (by omega) (by omega) (by omega), rd_in (by omega) (by omega) (by omega), hM.1.2.2.2.1 _ (by omega), hM.1.2.2.2.2.1 _ (by omega)]
        · rw [orOther_eq i0 iw i1, e] at z
          exact absurd wr0 z
      · rw [e]
        have hT := hM.thr
        refine ⟨fun z => ?_, fun _ => ⟨fun z => ?_, fun z => ?_⟩⟩
        · rw [wr0] at z; omega
        · rw [iw.w] at z
          rw [e40]
          exact ⟨by omega, q, _, by rw [if_pos z, hT.1.2.2.2.1 _ (by omega)], rfl, hT⟩
        · rw [iw.w] at z
          rw [e40]
          exact ⟨by omega, q, _, by rw [if_neg z, hT.1.2.2.2.2.1 _ (by omega)], rfl, hT⟩
    · refine ⟨sBit 0 w 1, sRef S (sBit 0 w 1), hS.ref _, fun M hM => W9_ground_0 ?_, fun q M hM => kM q M _ hM (W10_ground_33 ?_)⟩
      · rw [kC M hM]
        refine W9_ground_14 ⟨fun z => ?_, fun _ => ?_⟩
        · rw [orOther_eq i0 iw i1, wr_id (by omega) (by omega)] at z
          exact absurd z e
        · rw [orOther_eq i0 iw i1]
          exact C_ref hM (by omega)
      · refine ⟨fun _ => ⟨by rw [wr_id (by omega) (by omega)]; omega, M_ref hM.thr (by omega)⟩, fun z => ?_⟩
        rw [wr_id (by omega) (by omega)] at z
        omega
  · refine ⟨-1, sRef S (-1), hS.ref _, fun M hM => W9_ground_0 ?_, fun q M hM => ?_⟩
    · rw [noGround_eq hF hM.1 il iy, if_neg g, if_neg (by rw [wr1]; omega)]
      have e : f9_orOther (-1) w 1 = -1 := by
        rw [orOther_eq im iw i1]
        unfold sBit
        rw [if_neg (by omega)]
      refine W9_ground_14 ⟨fun z => ?_, fun _ => ?_⟩
      · rw [e, im.w] at z; omega
      · rw [e]; exact C_ref hM (by omega)
    · have h33 : TA i10_ground 33 [some (vr 0), some (vi l), some (vi y), some (vi w), none] [vi (-1)] (LM q, up M 0 8 0) (MP (sRef S (-1)) (-1)) := W10_ground_33 ⟨fun _ => ⟨by decide, M_ref hM.thr (by omega)⟩, fun z => by rw [im.w] at z; omega⟩
      refine W10_ground_0 ⟨fun _ => h33, fun z => ⟨yard_01 hF hM.1 iy, ?_⟩⟩
      rw [il.w, in_eq il (by unfold IR; omega) (by unfold IR; omega)] at z
      have hl : 0 ≤ l ∧ l ≤ 1 := by
        apply Classical.byContradiction
        intro k
        rw [if_neg (by omega)] at z
        exact z wr0
      rw [isYard_eq hF hM.thr.1 iy, if_neg (c := 0 ≤ y ∧ y < yd (sF S)) (by omega), if_pos wr0]
      exact h33

/-! yard, lane, back: both sides answer alike -/
theorem upn_upn {f : Nat → Int} {i : Nat} {v w : Int} (h : w = f i) : upn (upn f i v) i w = f := by
  funext j
  unfold upn
  by_cases e : j = i
  · rw [if_pos e, e, h]
  · rw [if_neg e, if_neg e]
theorem upn_eq {f : Nat → Int} {i : Nat} {v : Int} : upn f i v i = v := if_pos rfl
theorem upn_ne {f : Nat → Int} {i j : Nat} {v : Int} (h : j ≠ i) : upn f i v j = f j := if_neg h
theorem up_upn {M : Mem} {a i : Nat} {v : Int} {f : Nat → Int} {j : Nat} (h : M a j = f j) : up M a i v a j = upn f i v j := by
  unfold upn
  by_cases e : j = i
  · rw [if_pos e, e, up_eq]
  · rw [if_neg e, up_sl e]; exact h
def setGr (F : FS) (i : Nat) (k f : Int) : FS := (yd F, ln F, pn F, upn (kd F) i k, upn (fg F) i f, ar F, hv F, hd F)
theorem FOK.gr {F : FS} (h : FOK F) {i : Nat} {k f : Int} (hk : KOK k f) : FOK (setGr F i k f) := by
  refine ⟨h.1, h.2.1, h.2.2.1, fun j hj => ?_, fun j hj => ?_, h.2.2.2.2.2⟩
  · show 0 ≤ upn (kd F) i k j ∧ upn (kd F) i k j ≤ 5
    unfold upn
    split
    · exact hk.1
    · exact h.2.2.2.1 j hj
  · show 0 ≤ upn (fg F) i f j ∧ upn (fg F) i f j ≤ 9
    unfold upn
    split
    · exact hk.2
    · exact h.2.2.2.2.1 j hj
theorem RCf.gr {F : FS} {M : Mem} (h : RCf F M 1) {i : Nat} {k f : Int} : RCf (setGr F i k f) (up (up M 3 i k) 5 i f) 1 := by
  obtain ⟨h1, h2, h3, h4, h5, h6⟩ := h
  refine ⟨?_, ?_, ?_, fun j hj => ?_, fun j hj => ?_, fun p hp => ?_⟩
  · rw [up_fr (by omega), up_fr (by omega)]; exact h1
  · rw [up_fr (by omega), up_fr (by omega)]; exact h2
  · rw [up_fr (by omega), up_fr (by omega)]; exact h3
  · rw [up_fr (by omega)]; exact up_upn (h4 j hj)
  · exact up_upn (by rw [up_fr (by omega)]; exact h5 j hj)
  · rw [up_fr (by omega), up_fr (by omega)]; exact h6 p hp
theorem RMf.gr {F : FS} {M : Mem} (h : RMf F M) {i : Nat} {k f : Int} : RMf (setGr F i k f) (up (up M 1 i k) 2 i f) := by
  obtain ⟨h1, h2, h3, h4, h5, h6⟩ := h
  refine ⟨?_, ?_, ?_, fun j hj => ?_, fun j hj => ?_, fun p hp => ?_⟩
  · rw [up_fr (by omega), up_fr (by omega)]; exact h1
  · rw [up_fr (by omega), up_fr (by omega)]; exact h2
  · rw [up_fr (by omega), up_fr (by omega)]; exact h3
  · rw [up_fr (by omega)]; exact up_upn (h4 j hj)
  · exact up_upn (by rw [up_fr (by omega)]; exact h5 j hj)
  · rw [up_fr (by omega), up_fr (by omega), up_fr (by omega), up_fr (by omega), up_fr (by omega), up_fr (by omega)]; exact h6 p hp
theorem isOther_eq {x m : Int} (hx : IR x) (hm : IR m) : f9_isOther x m = if 0 ≤ x ∧ x ≤ m then 0 else 1 := by
  unfold f9_isOther
  rw [hx.w, hm.w]
  (repeat' split) <;> omega
theorem wrongNumber_eq {x a b : Int} (hx : IR x) (ha : IR a) (hb : IR b) : f10_wrongNumber x a b = s3w False (x < a) (b < x) := by
  unfold f10_wrongNumber s3w
  rw [hx.w, ha.w, hb.w, if_neg (c := False) (fun z => z)]
theorem pushS {S : ST} (hS : SOK S) {F' : FS} (hF' : FOK F') : SOK (F', sL S, sR S, sC S, sI S, pushT (sF S) (sT S)) := ⟨hF', hS.2.1, hS.2.2.1, hS.2.2.2.1, pushT_mem hS.1 hS.2.2.2.2.1, pushT_len hS.2.2.2.2.2⟩
theorem SIM_lane {l : Int} (il : IR l) : SIM i9_lane 3 i10_lane 3 [vi l] := by
  intro S hS
  have hF := hS.1
  have h8 := hS.2.2.2.2.2
  by_cases g : 0 ≤ l ∧ l ≤ 1
  · refine ⟨ln (sF S), (setLn (sF S) l, sL S, sR S, sC S, sI S, pushT (sF S) (sT S)), pushS hS (hF.setLn g), fun M hM => W9_lane_0 ⟨fun _ => ?_, fun z => ?_⟩, fun q M hM => W10_lane_0 ⟨fun z => ?_, fun _ => ?_⟩⟩
    · obtain ⟨h1, h2, h3, h4, h5, h6⟩ := hM.1
      rw [h2]
      refine T_adds (F' := setLn (sF S) l) hM.2.2.2.2.2.1 hM.2.2.2.2.2.2 h8 (Or.inr (Or.inr ⟨rfl, rfl⟩)) (fun M1 f1 a1 c1 => ⟨_, rfl, rfl, ?_⟩)
      refine hM.chF (fun i _ i8 i22 i24 i26 i28 => by rw [up_fr (by omega)]; exact f1 i i22 i24 i26 i28) (by rw [up_fr (by omega)]; exact f1 0 (by omega) (by omega) (by omega) (by omega)) ⟨?_, ?_, ?_, fun i hi => ?_, fun i hi => ?_, fun p hp => ?_⟩ (by rw [up_fr (by omega)]; exact a1) (by rw [up_fr (by omega), up_fr (by omega), up_fr (by omega)]; exact c1)
      · rw [up_sl (by omega), f1 1 (by omega) (by omega) (by omega) (by omega)]; exact h1
      · exact up_eq
      · rw [up_sl (by omega), f1 1 (by omega) (by omega) (by omega) (by omega)]; exact h3
      · rw [up_fr (by omega), f1 (1 + 2) (by omega) (by omega) (by omega) (by omega)]; exact h4 i hi
      · rw [up_fr (by omega), f1 (1 + 4) (by omega) (by omega) (by omega) (by omega)]; exact h5 i hi
      · rw [up_fr (by omega), f1 (1 + 6) (by omega) (by omega) (by omega) (by omega)]; exact h6 p hp
    · rw [isOther_eq il (by unfold IR; omega), if_pos g] at z; exact absurd wr0 z
    · rw [il.w, in_eq il (by unfold IR; omega) (by unfold IR; omega), if_pos (by omega), wr1] at z; omega
    · have hT := hM.thr
      refine T_keep hT.1 hT.2.2.2.2.2.1 hT.2.2.2.2.2.2 h8 (fun M1 f1 g1 a1 c1 => ⟨_, _, ?_, rfl, ?_⟩)
      · rw [g1 3 (by omega) (by omega) (by omega), hT.1.2.1]
      · refine hT.chF (fun i hi => by rw [up_fr (by omega)]; exact f1 i (by omega) (by omega) (by omega)) (fun j hj => by rw [up_sl (by omega)]; exact g1 j (by omega) (by omega) (by omega)) (RMf.setLn (hT.1.fr (fun i _ _ => f1 i (by omega) (by omega) (by omega)) (fun j _ _ => g1 j (by omega) (by omega) (by omega))) l) (by rw [up_sl (by omega)]; exact a1) (by rw [up_fr (by omega)]; exact c1)
  · refine ⟨-1, sRef S (-1), hS.ref _, fun M hM => W9_lane_0 ⟨fun z => ?_, fun _ => C_ref hM (by omega)⟩, fun q M hM => W10_lane_0 ⟨fun _ => ⟨by decide, M_ref hM.thr (by omega)⟩, fun z => ?_⟩⟩
    · rw [isOther_eq il (by unfold IR; omega), if_neg g, wr1] at z; omega
    · rw [il.w, in_eq il (by unfold IR; omega) (by unfold IR; omega), if_neg (by omega)] at z; exact absurd wr0 z
theorem SIM_yard {l y k f : Int} (il : IR l) (iy : IR y) (ik : IR k) (ig : IR f) : SIM i9_yard 7 i10_yard 8 [vi l, vi y, vi k, vi f] := by
  intro S hS
  have hF := hS.1
  have hyd := hF.1
  have h8 := hS.2.2.2.2.2
  have i5 : IR 5 := by unfold IR; omega
  have i9 : IR 9 := by unfold IR; omega
  have i0 : IR 0 := by unfold IR; omega
  have im : IR (-1) := by unfold IR; omega
  obtain ⟨W, hW⟩ : ∃ W : Int, W = (if (0 ≤ l ∧ l ≤ 1) ∧ 0 ≤ y ∧ y < yd (sF S) then (if 0 ≤ k ∧ k ≤ 5 then s3w False (f < 0) (9 < f) else -2) else -1) := ⟨_, rfl⟩
  have hWb : -6 ≤ W ∧ W ≤ 0 := by rw [hW]; unfold s3w; (repeat' split) <;> omega
  have e2 := first_eq (a := False) (b := f < 0) (c := 9 < f)
  rw [if_neg (c := False) (fun z => z)] at e2
  have kC : ∀ M Post, RC S M → ((W = 0 → TV i1_adds 4 [vr 22, vi 0, vi (f3_placeOf l y), vi (10 * f3_kindOf M 1 l y + f3_figureOf M 1 l y)] (LC, M) (fun M1 => Post (some (vi (10 * f3_kindOf M 1 l y + f3_figureOf M 1 l y))) (LC, g3_makes M1 1 l y k f))) ∧ (W ≠ 0 → Post (some (vi (f9_refuse W))) (LC, g9_refuse M W))) → TC i9_yard 7 [vr 0, vi l, vi y, vi k, vi f] (LC, M) Post := by
    intro M Post hM hAB
    have stuck : ∀ s0 : Int, f9_orOther s0 k 5 = W → W ≠ 0 → TA i9_yard 14 [some (vr 0), some (vi l), some (vi y), some (vi k), some (vi f), none, none] [vi s0] (LC, M) Post := by
      intro s0 eo hn
      refine W9_yard_14 ⟨fun z => ?_, fun _ => ⟨fun z => ?_, fun _ => ?_⟩⟩
      · rw [eo, wr_id (by omega) (by omega)] at z; omega
      · rw [eo, wr_id (by omega) (by omega)] at z; omega
      · rw [eo]; exact hAB.2 hn
    refine W9_yard_0 ?_
    rw [noGround_eq hF hM.1 il iy]
    by_cases g : (0 ≤ l ∧ l ≤ 1) ∧ 0 ≤ y ∧ y < yd (sF S)
    · rw [if_pos g, if_pos wr0]
      rw [if_pos g] at hW
      by_cases g2 : 0 ≤ k ∧ k ≤ 5
      · rw [if_pos g2] at hW
        have eo : f9_orOther 0 k 5 = 0 := by rw [orOther_eq i0 ik i5]; unfold sBit; rw [if_pos rfl, if_pos g2]
        refine W9_yard_14 ⟨fun _ => W9_yard_37 (W9_yard_49 ?_), fun z => absurd (by rw [eo]; exact wr0) z⟩
        rw [ig.w, i9.w, e2, ← hW, wr_id (by omega) (by omega)]
        exact hAB
      · rw [if_neg g2] at hW
        exact stuck 0 (by rw [orOther_eq i0 ik i5, hW]; unfold sBit; rw [if_pos rfl, if_neg g2]) (by omega)
    · rw [if_neg g, if_neg (by rw [wr1]; omega)]
      rw [if_neg g] at hW
      exact stuck (-1) (by rw [orOther_eq im ik i5, hW]; unfold sBit; rw [if_neg (by omega)]) (by omega)
  have kM : ∀ q M Post, RM S M → TA i10_yard 52 [some (vr 0), some (vi l), some (vi y), some (vi k), some (vi f), none, none, none] [vi W] (LM q, up M 0 8 0) Post → TC i10_yard 8 [vr 0, vi l, vi y, vi k, vi f] (LM q, M) Post := by
    intro q M Post hM h
    refine W10_yard_0 ⟨fun z => ?_, fun z => ⟨yard_01 hF hM.1 iy, ?_⟩⟩
    · have e : W = -1 := by
        rw [hW, if_neg]
        intro g
        rw [il.w, in_eq il (by unfold IR; omega) (by unfold IR; omega), if_pos (by omega), wr1] at z
        omega
      rw [← e]; exact h
    · have hl : 0 ≤ l ∧ l ≤ 1 := by
        rw [il.w, in_eq il (by unfold IR; omega) (by unfold IR; omega)] at z
        apply Classical.byContradiction
        intro c
        rw [if_neg (by omega)] at z
        exact z wr0
      have e : (if wr (f10_isYard (up M 0 8 0) y) = 0 then (-1) else if wr (f10_in (wr k) (((0 : Nat) : Int)) 5) = 0 then (-2) else f10_wrongNumber f 0 9) = W := by
        rw [hW, isYard_eq hF hM.thr.1 iy, ik.w, in_eq ik (by unfold IR; omega) i5, wrongNumber_eq ig i0 i9]
        by_cases g : 0 ≤ y ∧ y < yd (sF S)
        · rw [if_pos g, if_neg (by rw [wr1]; omega), if_pos (c := (0 ≤ l ∧ l ≤ 1) ∧ 0 ≤ y ∧ y < yd (sF S)) ⟨hl, g⟩]
          by_cases g2 : 0 ≤ k ∧ k ≤ 5
          · rw [if_pos (c := ((0 : Nat) : Int) ≤ k ∧ k ≤ 5) (by omega), if_neg (by rw [wr1]; omega), if_pos g2]
          · rw [if_neg (c := ((0 : Nat) : Int) ≤ k ∧ k ≤ 5) (by omega), if_pos wr0, if_neg g2]
        · rw [if_neg g, if_pos wr0, if_neg (c := (0 ≤ l ∧ l ≤ 1) ∧ 0 ≤ y ∧ y < yd (sF S)) (fun z => g z.2)]
      rw [e]; exact h
  by_cases e : W = 0
  · have hx : (0 ≤ l ∧ l ≤ 1) ∧ (0 ≤ y ∧ y < yd (sF S)) ∧ (0 ≤ k ∧ k ≤ 5) ∧ (0 ≤ f ∧ f ≤ 9) := by
      rw [hW] at e; unfold s3w at e; (repeat' split at e) <;> omega
    obtain ⟨xl, xy, xk, xf⟩ := hx
    obtain ⟨i, hi⟩ : ∃ i : Nat, i = (20 * l + y).toNat := ⟨_, rfl⟩
    have hi4 : i < 40 := by omega
    have ei : wr (20 * l + y) = (i : Int) := by rw [wr_id (by omega) (by omega)]; omega
    have hk := hF.2.2.2.1 i hi4
    have hf := hF.2.2.2.2.1 i hi4
    refine ⟨10 * kd (sF S) i + fg (sF S) i, (setGr (sF S) i k f, sL S, sR S, sC S, sI S, pushT (sF S) (sT S)), pushS hS (hF.gr ⟨xk, xf⟩), fun M hM => kC M _ hM ⟨fun _ => ?_, fun z => absurd e z⟩, fun q M hM => kM q M _ hM (W10_yard_52 ⟨fun z => ?_, fun _ => ?_⟩)⟩
    · have ek : f3_kindOf M 1 l y = kd (sF S) i := by
        unfold f3_kindOf f3_placeOf
        rw [rd_in (by omega) (by omega) (by omega), hM.1.2.2.2.1 _ (by omega), hi]
      have ef : f3_figureOf M 1 l y = fg (sF S) i := by
        unfold f3_figureOf f3_placeOf
        rw [rd_in (by omega) (by omega) (by omega), hM.1.2.2.2.2.1 _ (by omega), hi]
      rw [ek, ef]
      have eG : sF S = (yd (setGr (sF S) i k f), ln (setGr (sF S) i k f), pn (setGr (sF S) i k f), upn (kd (setGr (sF S) i k f)) i (kd (sF S) i), upn (fg (setGr (sF S) i k f)) i (fg (sF S) i), ar (setGr (sF S) i k f), hv (setGr (sF S) i k f), hd (setGr (sF S) i k f)) := by
        have q1 : upn (kd (setGr (sF S) i k f)) i (kd (sF S) i) = kd (sF S) := upn_upn rfl
        have q2 : upn (fg (setGr (sF S) i k f)) i (fg (sF S) i) = fg (sF S) := upn_upn rfl
        rw [q1, q2]; rfl
      have hU : Und 0 (f3_placeOf l y) (10 * kd (sF S) i + fg (sF S) i) (setGr (sF S) i k f) (sF S) := Or.inl ⟨rfl, i, hi4, by unfold f3_placeOf; omega, kd (sF S) i, fg (sF S) i, ⟨hk, hf⟩, rfl, eG⟩
      refine T_adds hM.2.2.2.2.2.1 hM.2.2.2.2.2.2 h8 hU (fun M1 f1 a1 c1 => ⟨_, rfl, rfl, ?_⟩)
      have em : g3_makes M1 1 l y k f = up (up M1 3 i k) 5 i f := by
        unfold g3_makes f3_placeOf
        rw [wt_in (by omega) (by omega) (by omega), wt_in (by omega) (by omega) (by omega), ← hi]
      rw [em]
      have r1 : RCf (sF S) M1 1 := hM.1.frb (f1 1 (by omega) (by omega) (by omega) (by omega)) (f1 (1 + 2) (by omega) (by omega) (by omega) (by omega)) (f1 (1 + 4) (by omega) (by omega) (by omega) (by omega)) (f1 (1 + 6) (by omega) (by omega) (by omega) (by omega))
      exact hM.chF (fun j _ i8 i22 i24 i26 i28 => by rw [up_fr (by omega), up_fr (by omega)]; exact f1 j i22 i24 i26 i28) (by rw [up_fr (by omega), up_fr (by omega)]; exact f1 0 (by omega) (by omega) (by omega) (by omega)) r1.gr (by rw [up_fr (by omega), up_fr (by omega)]; exact a1) (by rw [up_fr (i := 24) (by omega), up_fr (i := 24) (by omega), up_fr (i := 26) (by omega), up_fr (i := 26) (by omega), up_fr (i := 28) (by omega), up_fr (i := 28) (by omega)]; exact c1)
    · rw [e, wr0] at z; omega
    · have hT := hM.thr
      rw [ei, show ((i : Int)).toNat = i by omega]
      refine T_keep hT.1 hT.2.2.2.2.2.1 hT.2.2.2.2.2.2 h8 (fun M1 f1 g1 a1 c1 => ?_)
      have r1 : RMf (sF S) M1 := hT.1.fr (fun i _ _ => f1 i (by omega) (by omega) (by omega)) (fun j _ _ => g1 j (by omega) (by omega) (by omega))
      refine ⟨by omega, by omega, by omega, by omega, _, _, ?_, rfl, ?_⟩
      · rw [r1.2.2.2.1 i hi4, r1.2.2.2.2.1 i hi4]
      · exact hT.chF (fun j hj => by rw [up_fr (by omega), up_fr (by omega)]; exact f1 j (by omega) (by omega) (by omega)) (fun j hj => by rw [up_fr (by omega), up_fr (by omega)]; exact g1 j (by omega) (by omega) (by omega)) r1.gr (by rw [up_fr (by omega), up_fr (by omega)]; exact a1) (by rw [up_fr (by omega), up_fr (by omega)]; exact c1)
  · refine ⟨W, sRef S W, hS.ref _, fun M hM => kC M _ hM ⟨fun z => absurd z e, fun _ => C_ref hM (by omega)⟩, fun q M hM => kM q M _ hM (W10_yard_52 ⟨fun _ => ⟨by rw [wr_id (by omega) (by omega)]; omega, M_ref hM.thr (by omega)⟩, fun z => ?_⟩)⟩
    rw [wr_id (by omega) (by omega)] at z; omega
/-- the class: the last change is undone -/
theorem undo_eq {M : Mem} {L : Nat} (hL : L < 8) (h : M 22 0 = (L : Int) + 1) : g1_takesBack M 22 1 = if wr (M 24 L) = 0 then wt (wt (up M 22 0 (L : Int)) 3 40 (M 26 L) (dv (M 28 L) 10)) 5 40 (M 26 L) (rmd (M 28 L) 10) else if wr (M 24 L) = 1 then wt (up M 22 0 (L : Int)) 7 18 (M 26 L) (M 28 L) else up (up M 22 0 (L : Int)) 1 1 (M 28 L) := by
  have e1 : M 22 0 - 1 = (L : Int) := by omega
  have eL : ((L : Int)).toNat = L := by omega
  have r : ∀ a, a ≠ 22 → rd (up M 22 0 (L : Int)) a 8 (L : Int) = M a L := fun a ha => by rw [rd_in (by omega) (by omega) (by omega), eL, up_fr ha]
  unfold g1_takesBack
  rw [e1, r (22 + 2) (by omega), r (22 + 4) (by omega), r (22 + 6) (by omega), if_neg (by rw [h, wlt (by omega) (by omega) (by omega) (by omega)]; omega)]
theorem SIM_back : SIM i9_back 1 i10_back 2 [] := by
  intro S hS
  obtain ⟨T, hT⟩ : ∃ T, T = sT S := ⟨_, rfl⟩
  cases T with
  | nil =>
    refine ⟨-3, sRef S (-3), hS.ref _, fun M hM => W9_back_0 ⟨fun _ => C_ref hM (by omega), fun z => ?_⟩, fun q M hM => W10_back_0 ⟨fun _ => ⟨by decide, M_ref hM.thr (by omega)⟩, fun z => ?_⟩⟩
    · have h7 := hM.2.2.2.2.2.1
      rw [← hT] at h7
      rw [h7] at z
      exact absurd wr0 z
    · have h7 := hM.2.2.2.2.2.1
      rw [← hT] at h7
      rw [h7] at z
      exact absurd wr0 z
  | cons G r =>
    have h8 := hS.2.2.2.2.2
    rw [← hT, List.length_cons] at h8
    have hG : FOK G := hS.2.2.2.2.1 G (by rw [← hT]; exact List.mem_cons_self)
    refine ⟨(r.length : Int), (G, sL S, sR S, sC S, sI S, r), ⟨hG, hS.2.1, hS.2.2.1, hS.2.2.2.1, fun H hH => hS.2.2.2.2.1 H (by rw [← hT]; exact List.mem_cons_of_mem _ hH), (by show r.length ≤ 8; omega)⟩, fun M hM => ?_, fun q M hM => ?_⟩
    · have h7 := hM.2.2.2.2.2.1
      have h9 := hM.2.2.2.2.2.2
      rw [← hT] at h7 h9
      rw [List.length_cons] at h7
      obtain ⟨hU, hC⟩ := h9
      have eM := undo_eq (M := M) (L := r.length) (by omega) (by rw [h7]; omega)
      refine W9_back_0 ⟨fun z => ?_, fun _ => ⟨by decide, ?_⟩⟩
      · rw [h7, wr_id (by omega) (by omega)] at z; omega
      · have fin : ∀ M', M' = g1_takesBack M 22 1 → (∀ i, i < 36 → i ≠ 1 → i ≠ 3 → i ≠ 5 → i ≠ 7 → i ≠ 22 → M' i = M i) → RCf G M' 1 → M' 22 0 = (r.length : Int) → CP (G, sL S, sR S, sC S, sI S, r) (r.length : Int) (some (vi (g1_takesBack M 22 1 22 0))) (LC, g1_takesBack M 22 1) := by
          intro M' e f1 r1 a1
          rw [← e, a1]
          exact ⟨M', rfl, rfl, hM.chF (fun i a b c d _ _ => f1 i a (by omega) (by omega) (by omega) (by omega) c) (f1 0 (by omega) (by omega) (by omega) (by omega) (by omega) (by omega)) r1 a1 (by rw [f1 24 (by omega) (by omega) (by omega) (by omega) (by omega) (by omega), f1 26 (by omega) (by omega) (by omega) (by omega) (by omega) (by omega), f1 28 (by omega) (by omega) (by omega) (by omega) (by omega) (by omega)]; exact hC)⟩
        have hR : RCf (sF S) (up M 22 0 (r.length : Int)) 1 := hM.1.frb (up_fr (by omega)) (up_fr (by omega)) (up_fr (by omega)) (up_fr (by omega))
        rcases hU with ⟨hs, i, hi, hp, k, f, hkf, hb, eG⟩ | ⟨hs, i, hi, hh⟩ | ⟨hs, eG⟩
        · rw [hs, if_pos wr0, hp, hb] at eM
          obtain ⟨⟨k1, k2⟩, k3, k4⟩ := hkf
          have d1 : dv (10 * k + f) 10 = k := by rw [dv_nat (by omega) (by omega) (by omega) (by omega)]; omega
          have d2 : rmd (10 * k + f) 10 = f := by rw [rmd_nat (by omega) (by omega) (by omega) (by omega)]; omega
          rw [d1, d2, wt_in (by omega) (by omega) (by omega), wt_in (by omega) (by omega) (by omega), show ((i : Int)).toNat = i by omega] at eM
          refine fin _ eM.symm (fun j _ j1 j3 j5 j7 j22 => by rw [up_fr j5, up_fr j3, up_fr j22]) ?_ (by rw [up_fr (by omega), up_fr (by omega), up_eq])
          rw [eG]
          exact hR.gr
        · have h6 := hR.2.2.2.2.2
          rw [hs, if_neg (by rw [wr1]; omega), if_pos wr1] at eM
          obtain ⟨h1, h2, h3, h4, h5, -⟩ := hR
          have go : ∀ (x : Nat), x < 18 → M 26 r.length = (x : Int) → (∀ p, p < 6 → up (up M 22 0 (r.length : Int)) 7 x (M 28 r.length) 7 (3 * p) = ar G p ∧ up (up M 22 0 (r.length : Int)) 7 x (M 28 r.length) 7 (3 * p + 1) = hv G p ∧ up (up M 22 0 (r.length : Int)) 7 x (M 28 r.length) 7 (3 * p + 2) = hd G p) → yd G = yd (sF S) → ln G = ln (sF S) → pn G = pn (sF S) → kd G = kd (sF S) → fg G = fg (sF S) → CP (G, sL S, sR S, sC S, sI S, r) (r.length : Int) (some (vi (g1_takesBack M 22 1 22 0))) (LC, g1_takesBack M 22 1) := by
            intro x hx hpx hpp e1 e2 e3 e4 e5
            rw [hpx, wt_in (by omega) (by omega) (by omega), show ((x : Int)).toNat = x by omega] at eM
            refine fin _ eM.symm (fun j _ j1 j3 j5 j7 j22 => by rw [up_fr j7, up_fr j22]) ⟨?_, ?_, ?_, fun j hj => ?_, fun j hj => ?_, hpp⟩ (by rw [up_fr (by omega), up_eq])
            · rw [up_fr (by omega), h1, e1]
            · rw [up_fr (by omega), h2, e2]
            · rw [up_fr (by omega), h3, e3]
            · rw [up_fr (by omega), h4 j hj, e4]
            · rw [up_fr (by omega), h5 j hj, e5]
          rcases hh with ⟨hp, eG⟩ | ⟨hp, eG⟩ | ⟨hp, eG⟩
          · refine go (3 * i) (by omega) (by omega) (fun p hp6 => ?_) (by rw [eG]; rfl) (by rw [eG]; rfl) (by rw [eG]; rfl) (by rw [eG]; rfl) (by rw [eG]; rfl)
            obtain ⟨q1, q2, q3⟩ := h6 p hp6
            rw [eG]
            refine ⟨?_, by rw [up_sl (by omega)]; exact q2, by rw [up_sl (by omega)]; exact q3⟩
            show _ = upn (ar (sF S)) i (M 28 r.length) p
            unfold upn
            by_cases e : p = i
            · rw [if_pos e, e, up_eq]
            · rw [if_neg e, up_sl (by omega)]; exact q1
          · refine go (3 * i + 1) (by omega) (by omega) (fun p hp6 => ?_) (by rw [eG]; rfl) (by rw [eG]; rfl) (by rw [eG]; rfl) (by rw [eG]; rfl) (by rw [eG]; rfl)
            obtain ⟨q1, q2, q3⟩ := h6 p hp6
            rw [eG]
            refine ⟨by rw [up_sl (by omega)]; exact q1, ?_, by rw [up_sl (by omega)]; exact q3⟩
            show _ = upn (hv (sF S)) i (M 28 r.length) p
            unfold upn
            by_cases e : p = i
            · rw [if_pos e, e, up_eq]
            · rw [if_neg e, up_sl (by omega)]; exact q2
          · refine go (3 * i + 2) (by omega) (by omega) (fun p hp6 => ?_) (by rw [eG]; rfl) (by rw [eG]; rfl) (by rw [eG]; rfl) (by rw [eG]; rfl) (by rw [eG]; rfl)
            obtain ⟨q1, q2, q3⟩ := h6 p hp6
            rw [eG]
            refine ⟨by rw [up_sl (by omega)]; exact q1, by rw [up_sl (by omega)]; exact q2, ?_⟩
            show _ = upn (hd (sF S)) i (M 28 r.length) p
            unfold upn
            by_cases e : p = i
            · rw [if_pos e, e, up_eq]
            · rw [if_neg e, up_sl (by omega)]; exact q3
        · rw [hs, if_neg (by rw [wr_id (by omega) (by omega)]; omega), if_neg (by rw [wr_id (by omega) (by omega)]; omega)] at eM
          obtain ⟨h1, h2, h3, h4, h5, h6⟩ := hR
          refine fin _ eM.symm (fun j _ j1 j3 j5 j7 j22 => by rw [up_fr j1, up_fr j22]) ?_ (by rw [up_fr (by omega), up_eq])
          rw [eG]
          exact ⟨by rw [up_sl (by omega)]; exact h1, up_eq, by rw [up_sl (by omega)]; exact h3, fun j hj => by rw [up_fr (by omega)]; exact h4 j hj, fun j hj => by rw [up_fr (by omega)]; exact h5 j hj, fun p hp => by rw [up_fr (by omega)]; exact h6 p hp⟩
    · have hT8 := hM.thr
      have h7 := hT8.2.2.2.2.2.1
      have h9 := hT8.2.2.2.2.2.2
      rw [← hT] at h7 h9
      rw [List.length_cons] at h7
      obtain ⟨hSn, hTN⟩ := h9
      have e36 : M 0 36 = ((r.length + 1 : Nat) : Int) := by rw [← h7, up_sl (by omega)]
      obtain ⟨M2, hM2⟩ : ∃ M2, M2 = up (up M 0 8 0) 0 36 (r.length : Int) := ⟨_, rfl⟩
      have lo : ∀ (k n : Nat) (M1 : Mem), n + k = 101 → (∀ i, i ≠ 15 → M1 i = M2 i) → (∀ j, j < n → M1 15 j = M2 14 (101 * r.length + j)) → TA i10_back 31 [some (vr 0), some (vi (n : Int))] [] (LM q, M1) (MP (G, sL S, sR S, sC S, sI S, r) (r.length : Int)) := by
        intro k
        induction k with
        | zero =>
          intro n M1 hn hf hd
          have e : n = 101 := by omega
          subst e
          have m14 : M2 14 = up M 0 8 0 14 := by rw [hM2]; exact up_fr (by omega)
          refine W10_back_31 ⟨fun z => absurd z (by decide), fun _ => T_put_15 (G := G) (Snap_sh (a := 101 * r.length) (fun j hj => by rw [Nat.zero_add, hd j hj, m14]) hSn) (fun M3 f1 f2 r1 => ⟨_, M3, ?_, rfl, ?_⟩)⟩
          · rw [f2 36 (by omega) (by omega) (by omega) (by omega) (by omega), hf 0 (by omega), hM2, up_eq]
          · refine hT8.chF (fun i hi => by rw [f1 i (by omega), hf i (by omega), hM2, up_fr (by omega)]) (fun j hj => by rw [f2 j (by omega) (by omega) (by omega) (by omega) (by omega), hf 0 (by omega), hM2, up_sl (by omega)]) r1 (by rw [f2 36 (by omega) (by omega) (by omega) (by omega) (by omega), hf 0 (by omega), hM2, up_eq]) (by rw [f1 14 (by omega), hf 14 (by omega), m14]; exact hTN)
        | succ k ih =>
          intro n M1 hn hf hd
          have e1 : wr (n : Int) = (n : Int) := wr_id (by omega) (by omega)
          have e0 : M1 0 36 = (r.length : Int) := by rw [hf 0 (by omega), hM2, up_eq]
          have e2 : wr (101 * (r.length : Int) + (n : Int)) = 101 * (r.length : Int) + (n : Int) := wr_id (by omega) (by omega)
          have e3 : ((n : Int)).toNat = n := by omega
          have e4 : (101 * (r.length : Int) + (n : Int)).toNat = 101 * r.length + n := by omega
          have e5 : ((n + 1 : Nat) : Int) = (n : Int) + 1 := by omega
          refine W10_back_31 ⟨fun _ => ?_, fun z => ?_⟩
          · rw [e0, e1, e2, e3, e4]
            have ih2 := ih (n + 1) (up M1 15 n (M1 14 (101 * r.length + n))) (by omega) (fun i hi => by rw [up_fr hi]; exact hf i hi) (fun j hj => by
              by_cases ej : j = n
              · rw [ej, up_eq, hf 14 (by omega)]
              · rw [up_sl ej]; exact hd j (by omega))
            rw [e5] at ih2
            exact ⟨by omega, by omega, ih2⟩
          · rw [e1, wr_id (by omega) (by omega)] at z; omega
      refine W10_back_0 ⟨fun z => ?_, fun _ => ?_⟩
      · rw [e36, wr_id (by omega) (by omega)] at z; omega
      · have e7 : M 0 36 - 1 = (r.length : Int) := by omega
        rw [e7, ← hM2]
        exact lo 101 0 M2 rfl (fun _ _ => rfl) (fun j hj => absurd hj (by omega))

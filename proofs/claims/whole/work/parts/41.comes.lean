/-! comes: both sides answer alike -/
def setOne (F : FS) (a h d : Int) : FS := (yd F, ln F, pn F + 1, kd F, fg F, upn (ar F) (pn F).toNat a, upn (hv F) (pn F).toNat h, upn (hd F) (pn F).toNat d)
theorem FOK.one {F : FS} (hF : FOK F) {a h d : Int} (ha : 1 ≤ a ∧ a ≤ 60) (hh : 1 ≤ h ∧ h ≤ 9) (hd' : 1 ≤ d ∧ d ≤ 9) (hp : pn F < 6) : FOK (setOne F a h d) := by
  obtain ⟨h1, h2, h3, h4, h5, h6, h7⟩ := hF
  refine ⟨h1, h2, ?_, h4, h5, fun p hp6 => ?_, fun p hpp => ?_⟩
  · show 0 ≤ pn F + 1 ∧ pn F + 1 ≤ 6; omega
  · show 0 ≤ upn (ar F) (pn F).toNat a p ∧ upn (ar F) (pn F).toNat a p ≤ 60 ∧ 0 ≤ upn (hv F) (pn F).toNat h p ∧ upn (hv F) (pn F).toNat h p ≤ 9 ∧ 0 ≤ upn (hd F) (pn F).toNat d p ∧ upn (hd F) (pn F).toNat d p ≤ 9
    unfold upn
    by_cases e : p = (pn F).toNat
    · rw [if_pos e, if_pos e, if_pos e]; omega
    · rw [if_neg e, if_neg e, if_neg e]; exact h6 p hp6
  · have hpp2 : (p : Int) < pn F + 1 := hpp
    show 1 ≤ upn (ar F) (pn F).toNat a p ∧ 1 ≤ upn (hv F) (pn F).toNat h p ∧ 1 ≤ upn (hd F) (pn F).toNat d p
    unfold upn
    by_cases e : p = (pn F).toNat
    · rw [if_pos e, if_pos e, if_pos e]; omega
    · rw [if_neg e, if_neg e, if_neg e]; exact h7 p (by omega)
theorem oneMore_eq {F : FS} (hF : FOK F) {M : Mem} (hM : RCf F M 1) (hp : pn F < 6) {a h d : Int} :
    wt (wt (wt M 7 18 ((3 * (M 1 2)) + 0) a) 7 18 ((3 * ((wt M 7 18 ((3 * (M 1 2)) + 0) a) 1 2)) + 1) h) 7 18 ((3 * ((wt (wt M 7 18 ((3 * (M 1 2)) + 0) a) 7 18 ((3 * ((wt M 7 18 ((3 * (M 1 2)) + 0) a) 1 2)) + 1) h) 1 2)) + 2) d = up (up (up M 7 (3 * (pn F).toNat) a) 7 (3 * (pn F).toNat + 1) h) 7 (3 * (pn F).toNat + 2) d := by
  have h3 := hF.2.2.1
  have e0 : wt M 7 18 ((3 * (M 1 2)) + 0) a = up M 7 (3 * (pn F).toNat) a := by
    rw [hM.2.2.1, wt_in (by omega) (by omega) (by omega)]; congr 1; omega
  have e1 : ∀ M2 : Mem, M2 1 2 = pn F → wt M2 7 18 ((3 * (M2 1 2)) + 1) h = up M2 7 (3 * (pn F).toNat + 1) h := fun M2 e => by
    rw [e, wt_in (by omega) (by omega) (by omega)]; congr 1; omega
  have e2 : ∀ M2 : Mem, M2 1 2 = pn F → wt M2 7 18 ((3 * (M2 1 2)) + 2) d = up M2 7 (3 * (pn F).toNat + 2) d := fun M2 e => by
    rw [e, wt_in (by omega) (by omega) (by omega)]; congr 1; omega
  rw [e0, e1 _ (by rw [up_fr (by omega)]; exact hM.2.2.1), e2 _ (by rw [up_fr (by omega), up_fr (by omega)]; exact hM.2.2.1)]
theorem people_up {F : FS} {M : Mem} (hM : RCf F M 1) (h0 : 0 ≤ pn F) {a h d : Int} : ∀ p, p < 6 → up (up (up M 7 (3 * (pn F).toNat) a) 7 (3 * (pn F).toNat + 1) h) 7 (3 * (pn F).toNat + 2) d 7 (3 * p) = upn (ar F) (pn F).toNat a p ∧ up (up (up M 7 (3 * (pn F).toNat) a) 7 (3 * (pn F).toNat + 1) h) 7 (3 * (pn F).toNat + 2) d 7 (3 * p + 1) = upn (hv F) (pn F).toNat h p ∧ up (up (up M 7 (3 * (pn F).toNat) a) 7 (3 * (pn F).toNat + 1) h) 7 (3 * (pn F).toNat + 2) d 7 (3 * p + 2) = upn (hd F) (pn F).toNat d p := by
  intro p hp6
  obtain ⟨q1, q2, q3⟩ := hM.2.2.2.2.2 p hp6
  unfold upn
  by_cases e : p = (pn F).toNat
  · rw [if_pos e, if_pos e, if_pos e, e]
    refine ⟨by rw [up_sl (by omega), up_sl (by omega), up_eq], by rw [up_sl (by omega), up_eq], up_eq⟩
  · rw [if_neg e, if_neg e, if_neg e]
    refine ⟨by rw [up_sl (by omega), up_sl (by omega), up_sl (by omega)]; exact q1, by rw [up_sl (by omega), up_sl (by omega), up_sl (by omega)]; exact q2, by rw [up_sl (by omega), up_sl (by omega), up_sl (by omega)]; exact q3⟩
theorem SIM_comes {a h d : Int} (ia : IR a) (ih : IR h) (id' : IR d) : SIM i9_comes 6 i10_comes 5 [vi a, vi h, vi d] := by
  intro S hS
  have hF := hS.1
  have h3 := hF.2.2.1
  have e6 : wr 6 = 6 := wr_id (by omega) (by omega)
  have e9 : wr 9 = 9 := wr_id (by omega) (by omega)
  have e60 : wr 60 = 60 := wr_id (by omega) (by omega)
  obtain ⟨W, hW⟩ : ∃ W, W = s3w False (a < 1 ∨ h < 1 ∨ d < 1) ((60 < a ∨ 9 < h ∨ 9 < d) ∨ 6 ≤ pn (sF S)) := ⟨_, rfl⟩
  have b2 : -6 ≤ W ∧ W ≤ 0 := by rw [hW]; exact s3w_le
  have kC : ∀ M Post, RC S M → ((W = 0 → Post (some (vi ((pn (sF S) + 1) - 1))) (LC, up (up (up (up (up M 7 (3 * (pn (sF S)).toNat) a) 7 (3 * (pn (sF S)).toNat + 1) h) 7 (3 * (pn (sF S)).toNat + 2) d) 1 2 (pn (sF S) + 1)) 22 0 0)) ∧ (W ≠ 0 → Post (some (vi (f9_refuse W))) (LC, g9_refuse M W))) → TC i9_comes 6 [vr 0, vi a, vi h, vi d] (LC, M) Post := by
    intro M Post hM k
    refine W9_comes_0 (W9_comes_23 (W9_comes_46 (W9_comes_68 ?_)))
    have p2 : M 1 2 = pn (sF S) := hM.1.2.2.1
    have ec : (if wr (if wr 60 < wr a then 1 else if wr 9 < wr h then 1 else if wr 9 < wr d then (1 : Int) else 0) = 0 then (if wr (M 1 2) < wr 6 then (0 : Int) else 1) else 1) = if (60 < a ∨ 9 < h ∨ 9 < d) ∨ 6 ≤ pn (sF S) then 1 else 0 := by
      rw [p2, ia.w, ih.w, id'.w, e6, e9, e60, wr_id (x := pn (sF S)) (by omega) (by omega)]
      by_cases g1 : 60 < a
      · rw [if_pos g1, if_neg (by rw [wr1]; omega), if_pos (by omega)]
      · rw [if_neg g1]
        by_cases g2 : 9 < h
        · rw [if_pos g2, if_neg (by rw [wr1]; omega), if_pos (by omega)]
        · rw [if_neg g2]
          by_cases g3 : 9 < d
          · rw [if_pos g3, if_neg (by rw [wr1]; omega), if_pos (by omega)]
          · rw [if_neg g3, if_pos wr0]
            (repeat' split) <;> omega
    have eb : (if wr a < wr 1 then (1 : Int) else if wr h < wr 1 then 1 else if wr d < wr 1 then 1 else 0) = if a < 1 ∨ h < 1 ∨ d < 1 then 1 else 0 := by
      rw [ia.w, ih.w, id'.w, wr1]
      (repeat' split) <;> omega
    rw [ec, eb, first2_eq, ← hW, wr_id (x := W) (by omega) (by omega)]
    refine ⟨fun z => ?_, fun z => k.2 z⟩
    have hp : pn (sF S) < 6 := by
      rw [hW] at z; unfold s3w at z; (repeat' split at z) <;> omega
    have eg : g1_forgets (g3_oneMore M 1 a h d) 22 = up (up (wt (wt (wt M 7 18 ((3 * (M 1 2)) + 0) a) 7 18 ((3 * ((wt M 7 18 ((3 * (M 1 2)) + 0) a) 1 2)) + 1) h) 7 18 ((3 * ((wt (wt M 7 18 ((3 * (M 1 2)) + 0) a) 7 18 ((3 * ((wt M 7 18 ((3 * (M 1 2)) + 0) a) 1 2)) + 1) h) 1 2)) + 2) d) 1 2 ((wt (wt (wt M 7 18 ((3 * (M 1 2)) + 0) a) 7 18 ((3 * ((wt M 7 18 ((3 * (M 1 2)) + 0) a) 1 2)) + 1) h) 7 18 ((3 * ((wt (wt M 7 18 ((3 * (M 1 2)) + 0) a) 7 18 ((3 * ((wt M 7 18 ((3 * (M 1 2)) + 0) a) 1 2)) + 1) h) 1 2)) + 2) d) 1 2 + 1)) 22 0 0 := rfl
    rw [eg, oneMore_eq hF hM.1 hp]
    have q2 : up (up (up M 7 (3 * (pn (sF S)).toNat) a) 7 (3 * (pn (sF S)).toNat + 1) h) 7 (3 * (pn (sF S)).toNat + 2) d 1 2 = pn (sF S) := by rw [up_fr (by omega), up_fr (by omega), up_fr (by omega)]; exact p2
    rw [q2]
    exact k.1 z
  have kM : ∀ q M Post, RM S M → TA i10_comes 61 [some (vr 0), some (vi a), some (vi h), some (vi d), some (vi W)] [] (LM q, up M 0 8 0) Post → TC i10_comes 5 [vr 0, vi a, vi h, vi d] (LM q, M) Post := by
    intro q M Post hM k
    have eg : W = if a < 1 ∨ h < 1 ∨ d < 1 then -4 else if (60 < a ∨ 9 < h ∨ 9 < d) ∨ 6 ≤ pn (sF S) then -6 else 0 := by
      rw [hW]; unfold s3w; rw [if_neg (c := False) (fun z => z)]
    have h4 : (a < 1 ∨ h < 1 ∨ d < 1) → TA i10_comes 23 [some (vr 0), some (vi a), some (vi h), some (vi d), none] [] (LM q, up M 0 8 0) Post := fun z => W10_comes_23 (by rw [eg, if_pos z] at k; exact k)
    have h6 : ¬ (a < 1 ∨ h < 1 ∨ d < 1) → ((60 < a ∨ 9 < h ∨ 9 < d) ∨ 6 ≤ pn (sF S)) → TA i10_comes 57 [some (vr 0), some (vi a), some (vi h), some (vi d), none] [] (LM q, up M 0 8 0) Post := fun z y => W10_comes_57 (by rw [eg, if_neg z, if_pos y] at k; exact k)
    refine W10_comes_0 ?_
    rw [ia.w, ih.w, id'.w, wr1, e6, e9, e60, hM.1.2.2.1, wr_id (x := pn (sF S)) (by omega) (by omega)]
    refine ⟨fun z => h4 (by omega), fun z1 => ⟨fun z => h4 (by omega), fun z2 => ⟨fun z => h4 (by omega), fun z3 => ⟨fun z => h6 (by omega) (by omega), fun z4 => ⟨fun z => h6 (by omega) (by omega), fun z5 => ⟨fun z => h6 (by omega) (by omega), fun z6 => ⟨fun z => h6 (by omega) (by omega), fun z => ?_⟩⟩⟩⟩⟩⟩⟩
    rw [eg, if_neg (by omega), if_neg (by omega)] at k
    exact k
  by_cases e : W = 0
  · have hx : (1 ≤ a ∧ a ≤ 60) ∧ (1 ≤ h ∧ h ≤ 9) ∧ (1 ≤ d ∧ d ≤ 9) ∧ pn (sF S) < 6 := by
      rw [hW] at e; unfold s3w at e; (repeat' split at e) <;> omega
    obtain ⟨xa, xh, xd, hp⟩ := hx
    refine ⟨(pn (sF S) + 1) - 1, (setOne (sF S) a h d, sL S, sR S, sC S, sI S, []), ⟨hF.one xa xh xd hp, hS.2.1, hS.2.2.1, hS.2.2.2.1, fun G hG => absurd hG (by simp [sT]), Nat.zero_le _⟩, fun M hM => kC M _ hM ⟨fun _ => ⟨_, rfl, rfl, ?_⟩, fun z => absurd e z⟩, fun q M hM => kM q M _ hM (W10_comes_61 ⟨fun z => ?_, fun _ => ⟨?_, q, _, ?_, rfl, ?_⟩⟩)⟩
    · refine hM.chF (fun i i1 i2 i3 _ _ _ => by rw [up_fr i3, up_fr (by omega), up_fr (by omega), up_fr (by omega), up_fr (by omega)]) (by rw [up_fr (by omega), up_fr (by omega), up_fr (by omega), up_fr (by omega), up_fr (by omega)]) ?_ (by rw [up_eq]; rfl) True.intro
      have hpp := people_up hM.1 h3.1 (a := a) (h := h) (d := d)
      obtain ⟨h1, h2, -, h4, h5, -⟩ := hM.1
      refine ⟨?_, ?_, ?_, ?_, ?_, ?_⟩
      · rw [up_fr (by omega), up_sl (by omega), up_fr (by omega), up_fr (by omega), up_fr (by omega)]; exact h1
      · rw [up_fr (by omega), up_sl (by omega), up_fr (by omega), up_fr (by omega), up_fr (by omega)]; exact h2
      · rw [up_fr (by omega), up_eq]; rfl
      · rw [up_fr (by omega), up_fr (by omega), up_fr (by omega), up_fr (by omega), up_fr (by omega)]; exact h4
      · rw [up_fr (by omega), up_fr (by omega), up_fr (by omega), up_fr (by omega), up_fr (by omega)]; exact h5
      · rw [up_fr (by omega), up_fr (by omega)]; exact hpp
    · rw [e, wr0] at z; omega
    · rw [hM.thr.1.2.2.1, wr_id (by omega) (by omega)]; omega
    · rw [hM.thr.1.2.2.1]
    · have hT := hM.thr
      obtain ⟨M2, hM2⟩ : ∃ M2, M2 = up M 0 8 0 := ⟨_, rfl⟩
      rw [← hM2] at hT ⊢
      unfold g10_oneComes
      rw [hT.1.2.2.1, wr_id (x := pn (sF S)) (by omega) (by omega)]
      have f : ∀ i, i ≠ 0 → i ≠ 3 → i ≠ 4 → i ≠ 5 → up (up (up (up (up M2 3 (pn (sF S)).toNat a) 4 (pn (sF S)).toNat h) 5 (pn (sF S)).toNat d) 0 4 (pn (sF S) + 1)) 0 36 0 i = M2 i := fun i i0 i3 i4 i5 => by rw [up_fr i0, up_fr i0, up_fr i5, up_fr i4, up_fr i3]
      have g : ∀ j, j ≠ 4 → j ≠ 36 → up (up (up (up (up M2 3 (pn (sF S)).toNat a) 4 (pn (sF S)).toNat h) 5 (pn (sF S)).toNat d) 0 4 (pn (sF S) + 1)) 0 36 0 0 j = M2 0 j := fun j j4 j36 => by rw [up_sl j36, up_sl j4, up_fr (by omega), up_fr (by omega), up_fr (by omega)]
      refine hT.chF (fun i hi => f i (by omega) (by omega) (by omega) (by omega)) (fun j hj => g j (by omega) (by omega)) ?_ (by rw [up_eq]; rfl) True.intro
      obtain ⟨h1, h2, -, h4, h5, h6⟩ := hT.1
      refine ⟨by rw [g 2 (by omega) (by omega)]; exact h1, by rw [g 3 (by omega) (by omega)]; exact h2, by rw [up_sl (by omega), up_eq]; rfl, by rw [f 1 (by omega) (by omega) (by omega) (by omega)]; exact h4, by rw [f 2 (by omega) (by omega) (by omega) (by omega)]; exact h5, fun p hp6 => ?_⟩
      obtain ⟨q1, q2, q3⟩ := h6 p hp6
      show _ = upn (ar (sF S)) (pn (sF S)).toNat a p ∧ _ = upn (hv (sF S)) (pn (sF S)).toNat h p ∧ _ = upn (hd (sF S)) (pn (sF S)).toNat d p
      unfold upn
      by_cases ep : p = (pn (sF S)).toNat
      · rw [if_pos ep, if_pos ep, if_pos ep, ep]
        refine ⟨by rw [up_fr (by omega), up_fr (by omega), up_fr (by omega), up_fr (by omega), up_eq], by rw [up_fr (by omega), up_fr (by omega), up_fr (by omega), up_eq], by rw [up_fr (by omega), up_fr (by omega), up_eq]⟩
      · rw [if_neg ep, if_neg ep, if_neg ep]
        refine ⟨by rw [up_fr (by omega), up_fr (by omega), up_fr (by omega), up_fr (by omega), up_sl ep]; exact q1, by rw [up_fr (by omega), up_fr (by omega), up_fr (by omega), up_sl ep, up_fr (by omega)]; exact q2, by rw [up_fr (by omega), up_fr (by omega), up_sl ep, up_fr (by omega), up_fr (by omega)]; exact q3⟩
  · refine ⟨W, sRef S W, hS.ref _, fun M hM => kC M _ hM ⟨fun z => absurd z e, fun _ => C_ref hM (by omega)⟩, fun q M hM => kM q M _ hM (W10_comes_61 ⟨fun _ => ⟨by rw [wr_id (by omega) (by omega)]; omega, M_ref hM.thr (by omega)⟩, fun z => ?_⟩)⟩
    rw [wr_id (by omega) (by omega)] at z; omega

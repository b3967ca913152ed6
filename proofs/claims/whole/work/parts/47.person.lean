/-! person: both sides answer alike -/
def setPer (F : FS) (n : Nat) (w v : Int) : FS := (yd F, ln F, pn F, kd F, fg F, upn (ar F) n (if w = 0 then v else ar F n), upn (hv F) n (if w = 1 then v else hv F n), upn (hd F) n (if w = 2 then v else hd F n))
theorem upn_id {f : Nat → Int} {n : Nat} {v : Int} (h : v = f n) : upn f n v = f := by
  funext j
  unfold upn
  by_cases e : j = n
  · rw [if_pos e, h, e]
  · rw [if_neg e]
def moW (w : Int) : Int := if w = 0 then 60 else 9
theorem FOK.per {F : FS} (h : FOK F) {n : Nat} (hn : n < 6) {w v : Int} (hw : 0 ≤ w ∧ w ≤ 2) (hv' : 1 ≤ v ∧ v ≤ moW w) : FOK (setPer F n w v) := by
  obtain ⟨h1, h2, h3, h4, h5, h6, h7⟩ := h
  have q := h6 n hn
  refine ⟨h1, h2, h3, h4, h5, fun p hp => ?_, fun p hp => ?_⟩
  · have q2 := h6 p hp
    show 0 ≤ upn (ar F) n (if w = 0 then v else ar F n) p ∧ upn (ar F) n (if w = 0 then v else ar F n) p ≤ 60 ∧ 0 ≤ upn (hv F) n (if w = 1 then v else hv F n) p ∧ upn (hv F) n (if w = 1 then v else hv F n) p ≤ 9 ∧ 0 ≤ upn (hd F) n (if w = 2 then v else hd F n) p ∧ upn (hd F) n (if w = 2 then v else hd F n) p ≤ 9
    unfold upn
    unfold moW at hv'
    by_cases e : p = n
    · rw [if_pos e, if_pos e, if_pos e]
      (repeat' split at *) <;> omega
    · rw [if_neg e, if_neg e, if_neg e]; exact q2
  · have q2 := h7 p hp
    show 1 ≤ upn (ar F) n (if w = 0 then v else ar F n) p ∧ 1 ≤ upn (hv F) n (if w = 1 then v else hv F n) p ∧ 1 ≤ upn (hd F) n (if w = 2 then v else hd F n) p
    unfold upn
    unfold moW at hv'
    by_cases e : p = n
    · subst e
      rw [if_pos rfl, if_pos rfl, if_pos rfl]
      refine ⟨?_, ?_, ?_⟩
      · split <;> omega
      · split <;> omega
      · split <;> omega
    · rw [if_neg e, if_neg e, if_neg e]; exact q2
theorem RCf.per {F : FS} {M : Mem} (h : RCf F M 1) {n : Nat} (hn : n < 6) {w v : Int} (hw : 0 ≤ w ∧ w ≤ 2) : RCf (setPer F n w v) (up M 7 (3 * n + w.toNat) v) 1 := by
  obtain ⟨h1, h2, h3, h4, h5, h6⟩ := h
  refine ⟨by rw [up_fr (by omega)]; exact h1, by rw [up_fr (by omega)]; exact h2, by rw [up_fr (by omega)]; exact h3, fun j hj => by rw [up_fr (by omega)]; exact h4 j hj, fun j hj => by rw [up_fr (by omega)]; exact h5 j hj, fun p hp => ?_⟩
  obtain ⟨q1, q2, q3⟩ := h6 p hp
  show up M 7 (3 * n + w.toNat) v 7 (3 * p) = upn (ar F) n (if w = 0 then v else ar F n) p ∧ up M 7 (3 * n + w.toNat) v 7 (3 * p + 1) = upn (hv F) n (if w = 1 then v else hv F n) p ∧ up M 7 (3 * n + w.toNat) v 7 (3 * p + 2) = upn (hd F) n (if w = 2 then v else hd F n) p
  have e : w = 0 ∨ w = 1 ∨ w = 2 := by omega
  rcases e with rfl | rfl | rfl
  · rw [if_pos rfl, if_neg (by omega), if_neg (by omega), upn_id (f := hv F) rfl, upn_id (f := hd F) rfl, up_sl (j := 3 * p + 1) (by omega), up_sl (j := 3 * p + 2) (by omega)]
    refine ⟨?_, q2, q3⟩
    unfold upn
    by_cases e : p = n
    · rw [if_pos e, e]; exact up_eq
    · rw [if_neg e, up_sl (by omega)]; exact q1
  · rw [if_pos rfl, if_neg (by omega), if_neg (by omega), upn_id (f := ar F) rfl, upn_id (f := hd F) rfl, up_sl (j := 3 * p) (by omega), up_sl (j := 3 * p + 2) (by omega)]
    refine ⟨q1, ?_, q3⟩
    unfold upn
    by_cases e : p = n
    · rw [if_pos e, e]; exact up_eq
    · rw [if_neg e, up_sl (by omega)]; exact q2
  · rw [if_pos rfl, if_neg (by omega), if_neg (by omega), upn_id (f := ar F) rfl, upn_id (f := hv F) rfl, up_sl (j := 3 * p) (by omega), up_sl (j := 3 * p + 1) (by omega)]
    refine ⟨q1, q2, ?_⟩
    unfold upn
    by_cases e : p = n
    · rw [if_pos e, e]; exact up_eq
    · rw [if_neg e, up_sl (by omega)]; exact q3
theorem RMf.per {F : FS} {M : Mem} (h : RMf F M) {n : Nat} (hn : n < 6) {w v a h' d : Int} (ea : a = if w = 0 then v else M 3 n) (eh : h' = if w = 1 then v else M 4 n) (ed : d = if w = 2 then v else M 5 n) : RMf (setPer F n w v) (up (up (up M 3 n a) 4 n h') 5 n d) := by
  obtain ⟨h1, h2, h3, h4, h5, h6⟩ := h
  obtain ⟨k1, k2, k3⟩ := h6 n hn
  rw [k1] at ea
  rw [k2] at eh
  rw [k3] at ed
  have f : ∀ i, i ≠ 3 → i ≠ 4 → i ≠ 5 → up (up (up M 3 n a) 4 n h') 5 n d i = M i := fun i i3 i4 i5 => by rw [up_fr i5, up_fr i4, up_fr i3]
  refine ⟨by rw [f 0 (by omega) (by omega) (by omega)]; exact h1, by rw [f 0 (by omega) (by omega) (by omega)]; exact h2, by rw [f 0 (by omega) (by omega) (by omega)]; exact h3, fun j hj => by rw [f 1 (by omega) (by omega) (by omega)]; exact h4 j hj, fun j hj => by rw [f 2 (by omega) (by omega) (by omega)]; exact h5 j hj, fun p hp => ?_⟩
  obtain ⟨q1, q2, q3⟩ := h6 p hp
  refine ⟨?_, ?_, ?_⟩
  · rw [up_fr (by omega), up_fr (by omega), ea]; exact up_upn q1
  · rw [up_fr (by omega), eh]; exact up_upn (by rw [up_fr (by omega)]; exact q2)
  · rw [ed]; exact up_upn (by rw [up_fr (by omega), up_fr (by omega)]; exact q3)
theorem SIM_person {a w v : Int} (ia : IR a) (iw : IR w) (iv : IR v) : SIM i9_person 6 i10_person 6 [vi a, vi w, vi v] := by
  intro S hS
  have hF := hS.1
  have hp3 := hF.2.2.1
  have h8 := hS.2.2.2.2.2
  have i2 : IR 2 := by unfold IR; omega
  have i9 : IR 9 := by unfold IR; omega
  have i60 : IR 60 := by unfold IR; omega
  have i0 : IR 0 := by unfold IR; omega
  have i1 : IR 1 := by unfold IR; omega
  have im : IR (-1) := by unfold IR; omega
  obtain ⟨W, hW⟩ : ∃ W : Int, W = (if sWho (sF S) a then (if 0 ≤ w ∧ w ≤ 2 then s3w False (v < 1) (moW w < v) else -2) else -1) := ⟨_, rfl⟩
  have hWb : -6 ≤ W ∧ W ≤ 0 := by rw [hW]; unfold s3w; (repeat' split) <;> omega
  have e2 := first_eq (a := False) (b := v < 1) (c := moW w < v)
  rw [if_neg (c := False) (fun z => z)] at e2
  have emo : wr (f3_mostOf w) = moW w := by
    unfold f3_mostOf moW
    rw [iw.w]
    split
    · exact i60.w
    · exact i9.w
  have kC : ∀ M Post, RC S M → ((W = 0 → TV i1_adds 4 [vr 22, vi 1, vi (3 * a + w), vi (f3_ofPerson M 1 a w)] (LC, M) (fun M1 => Post (some (vi (f3_ofPerson M 1 a w))) (LC, wt M1 7 18 (3 * a + w) v))) ∧ (W ≠ 0 → Post (some (vi (f9_refuse W))) (LC, g9_refuse M W))) → TC i9_person 6 [vr 0, vi a, vi w, vi v] (LC, M) Post := by
    intro M Post hM hAB
    have stuck : ∀ s0 : Int, f9_orOther s0 w 2 = W → W ≠ 0 → TA i9_person 13 [some (vr 0), some (vi a), some (vi w), some (vi v), none, none] [vi s0] (LC, M) Post := by
      intro s0 eo hn
      refine W9_person_13 ⟨fun z => ?_, fun _ => ⟨fun z => ?_, fun _ => ?_⟩⟩
      · rw [eo, wr_id (by omega) (by omega)] at z; omega
      · rw [eo, wr_id (by omega) (by omega)] at z; omega
      · rw [eo]; exact hAB.2 hn
    refine W9_person_0 ?_
    rw [nobody_eq hF hM.1 ia]
    by_cases g : sWho (sF S) a
    · rw [if_pos g, if_pos wr0]
      rw [if_pos g] at hW
      by_cases g2 : 0 ≤ w ∧ w ≤ 2
      · rw [if_pos g2] at hW
        have eo : f9_orOther 0 w 2 = 0 := by rw [orOther_eq i0 iw i2]; unfold sBit; rw [if_pos rfl, if_pos g2]
        refine W9_person_13 ⟨fun _ => W9_person_36 (W9_person_49 ?_), fun z => absurd (by rw [eo]; exact wr0) z⟩
        rw [iv.w, wr1, emo, e2, ← hW, wr_id (by omega) (by omega)]
        exact hAB
      · rw [if_neg g2] at hW
        exact stuck 0 (by rw [orOther_eq i0 iw i2, hW]; unfold sBit; rw [if_pos rfl, if_neg g2]) (by omega)
    · rw [if_neg g, if_neg (by rw [wr1]; omega)]
      rw [if_neg g] at hW
      exact stuck (-1) (by rw [orOther_eq im iw i2, hW]; unfold sBit; rw [if_neg (by omega)]) (by omega)
  have kM : ∀ q M Post, RM S M → TA i10_person 50 [some (vr 0), some (vi a), some (vi w), some (vi v), none, none] [vi W] (LM q, up M 0 8 0) Post → TC i10_person 6 [vr 0, vi a, vi w, vi v] (LM q, M) Post := by
    intro q M Post hM h
    refine W10_person_0 ⟨isOne_01 hF hM.1 ia, ?_⟩
    have e : (if wr (f10_isOne (up M 0 8 0) a) = 0 then (-1) else if wr (f10_in (wr w) (((0 : Nat) : Int)) 2) = 0 then (-2) else if wr w = 0 then f10_wrongNumber v 1 60 else f10_wrongNumber v 1 9) = W := by
      rw [hW, isOne_eq hF hM.thr.1 ia, iw.w, in_eq iw (by unfold IR; omega) i2, wrongNumber_eq iv i1 i9, wrongNumber_eq iv i1 i60]
      by_cases g : sWho (sF S) a
      · rw [if_pos g, if_neg (by rw [wr1]; omega), if_pos g]
        by_cases g2 : 0 ≤ w ∧ w ≤ 2
        · rw [if_pos (c := ((0 : Nat) : Int) ≤ w ∧ w ≤ 2) (by omega), if_neg (by rw [wr1]; omega), if_pos g2]
          unfold moW
          by_cases g3 : w = 0
          · simp only [if_pos g3]
          · simp only [if_neg g3]
        · rw [if_neg (c := ((0 : Nat) : Int) ≤ w ∧ w ≤ 2) (by omega), if_pos wr0, if_neg g2]
      · rw [if_neg g, if_pos wr0, if_neg g]
    rw [e]; exact h
  by_cases e : W = 0
  · have hx : sWho (sF S) a ∧ (0 ≤ w ∧ w ≤ 2) ∧ (1 ≤ v ∧ v ≤ moW w) := by
      rw [hW] at e; unfold s3w at e
      by_cases g : sWho (sF S) a
      · rw [if_pos g] at e
        refine ⟨g, ?_⟩
        (repeat' split at e) <;> omega
      · rw [if_neg g] at e; omega
    obtain ⟨xa, xw, xv⟩ := hx
    obtain ⟨n, hn6, rfl, hnp⟩ := xa.n hF
    have en : wr (n : Int) = (n : Int) := wr_id (by omega) (by omega)
    have en2 : ((n : Int)).toNat = n := by omega
    have ep : (3 * (n : Int) + w).toNat = 3 * n + w.toNat := by omega
    have hpp := hF.2.2.2.2.2.1 n hn6
    refine ⟨sOf (sF S) n w, (setPer (sF S) n w v, sL S, sR S, sC S, sI S, pushT (sF S) (sT S)), pushS hS (hF.per hn6 xw xv), fun M hM => kC M _ hM ⟨fun _ => ?_, fun z => absurd e z⟩, fun q M hM => kM q M _ hM (W10_person_50 ⟨fun z => ?_, fun _ => ?_⟩)⟩
    · rw [ofPer_eq hM.1 hn6 xw]
      have hU : Und 1 (3 * (n : Int) + w) (sOf (sF S) n w) (setPer (sF S) n w v) (sF S) := by
        refine Or.inr (Or.inl ⟨rfl, n, hn6, ?_⟩)
        have ew : w = 0 ∨ w = 1 ∨ w = 2 := by omega
        rcases ew with rfl | rfl | rfl
        · refine Or.inl ⟨by omega, ?_⟩
          have q1 : upn (ar (setPer (sF S) n 0 v)) n (sOf (sF S) n 0) = ar (sF S) := upn_upn rfl
          have q2 : hv (setPer (sF S) n 0 v) = hv (sF S) := upn_id rfl
          have q3 : hd (setPer (sF S) n 0 v) = hd (sF S) := upn_id rfl
          rw [q1, q2, q3]; rfl
        · refine Or.inr (Or.inl ⟨by omega, ?_⟩)
          have q1 : upn (hv (setPer (sF S) n 1 v)) n (sOf (sF S) n 1) = hv (sF S) := upn_upn rfl
          have q2 : ar (setPer (sF S) n 1 v) = ar (sF S) := upn_id rfl
          have q3 : hd (setPer (sF S) n 1 v) = hd (sF S) := upn_id rfl
          rw [q1, q2, q3]; rfl
        · refine Or.inr (Or.inr ⟨by omega, ?_⟩)
          have q1 : upn (hd (setPer (sF S) n 2 v)) n (sOf (sF S) n 2) = hd (sF S) := upn_upn rfl
          have q2 : ar (setPer (sF S) n 2 v) = ar (sF S) := upn_id rfl
          have q3 : hv (setPer (sF S) n 2 v) = hv (sF S) := upn_id rfl
          rw [q1, q2, q3]; rfl
      refine T_adds hM.2.2.2.2.2.1 hM.2.2.2.2.2.2 h8 hU (fun M1 f1 a1 c1 => ⟨_, rfl, rfl, ?_⟩)
      rw [wt_in (by omega) (by omega) (by omega), ep]
      have r1 : RCf (sF S) M1 1 := hM.1.frb (f1 1 (by omega) (by omega) (by omega) (by omega)) (f1 (1 + 2) (by omega) (by omega) (by omega) (by omega)) (f1 (1 + 4) (by omega) (by omega) (by omega) (by omega)) (f1 (1 + 6) (by omega) (by omega) (by omega) (by omega))
      exact hM.chF (fun j _ i8 i22 i24 i26 i28 => by rw [up_fr (by omega)]; exact f1 j i22 i24 i26 i28) (by rw [up_fr (by omega)]; exact f1 0 (by omega) (by omega) (by omega) (by omega)) (r1.per hn6 xw) (by rw [up_fr (by omega)]; exact a1) (by rw [up_fr (i := 24) (by omega), up_fr (i := 26) (by omega), up_fr (i := 28) (by omega)]; exact c1)
    · rw [e, wr0] at z; omega
    · have hT := hM.thr
      rw [en, en2]
      refine T_keep hT.1 hT.2.2.2.2.2.1 hT.2.2.2.2.2.2 h8 (fun M1 f1 g1 a1 c1 => ?_)
      have r1 : RMf (sF S) M1 := hT.1.fr (fun i _ _ => f1 i (by omega) (by omega) (by omega)) (fun j _ _ => g1 j (by omega) (by omega) (by omega))
      have leaf : ∀ x a h' d : Int, x = sOf (sF S) n w → a = (if w = 0 then v else M1 3 n) → h' = (if w = 1 then v else M1 4 n) → d = (if w = 2 then v else M1 5 n) → MP (setPer (sF S) n w v, sL S, sR S, sC S, sI S, pushT (sF S) (sT S)) (sOf (sF S) n w) (some (vi x)) (LM (some 15), up (up (up M1 3 n a) 4 n h') 5 n d) := by
        intro x a h' d ex ea eh ed
        refine ⟨_, _, by rw [ex], rfl, ?_⟩
        exact hT.chF (fun j hj => by rw [up_fr (by omega), up_fr (by omega), up_fr (by omega)]; exact f1 j (by omega) (by omega) (by omega)) (fun j hj => by rw [up_fr (by omega), up_fr (by omega), up_fr (by omega)]; exact g1 j (by omega) (by omega) (by omega)) (r1.per hn6 ea eh ed) (by rw [up_fr (by omega), up_fr (by omega), up_fr (by omega)]; exact a1) (by rw [up_fr (by omega), up_fr (by omega), up_fr (by omega)]; exact c1)
      obtain ⟨k1, k2, k3⟩ := r1.2.2.2.2.2 n hn6
      have ew : w = 0 ∨ w = 1 ∨ w = 2 := by omega
      rcases ew with rfl | rfl | rfl
      · (repeat' first | apply And.intro | (intro c; exact absurd c (by decide)) | (intro c; clear c)) <;> first | omega | exact leaf _ _ _ _ k1 rfl rfl rfl
      · (repeat' first | apply And.intro | (intro c; exact absurd c (by decide)) | (intro c; clear c)) <;> first | omega | exact leaf _ _ _ _ k2 rfl rfl rfl
      · (repeat' first | apply And.intro | (intro c; exact absurd c (by decide)) | (intro c; clear c)) <;> first | omega | exact leaf _ _ _ _ k3 rfl rfl rfl
  · refine ⟨W, sRef S W, hS.ref _, fun M hM => kC M _ hM ⟨fun z => absurd z e, fun _ => C_ref hM (by omega)⟩, fun q M hM => kM q M _ hM (W10_person_50 ⟨fun _ => ⟨by rw [wr_id (by omega) (by omega)]; omega, M_ref hM.thr (by omega)⟩, fun z => ?_⟩)⟩
    rw [wr_id (by omega) (by omega)] at z; omega

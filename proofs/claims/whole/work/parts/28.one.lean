/-! one, feels, yards: both sides answer alike -/
def sOf (F : FS) (p : Nat) (w : Int) : Int := if w = 0 then ar F p else if w = 1 then hv F p else hd F p
theorem ofPer_eq {F : FS} {M : Mem} (h : RCf F M 1) {p : Nat} (hp : p < 6) {w : Int} (hw : 0 ≤ w ∧ w ≤ 2) : f3_ofPerson M 1 (p : Int) w = sOf F p w := by
  obtain ⟨a1, a2, a3⟩ := ofP_eq h hp
  unfold sOf
  have e : w = 0 ∨ w = 1 ∨ w = 2 := by omega
  rcases e with rfl | rfl | rfl
  · rw [if_pos rfl]; exact a1
  · rw [if_neg (by omega), if_pos rfl]; exact a2
  · rw [if_neg (by omega), if_neg (by omega)]; exact a3
theorem SIM_one {a w : Int} (ia : IR a) (iw : IR w) : SIM i9_one 4 i10_one 3 [vi a, vi w] := by
  intro S hS
  have hF := hS.1
  have i2 : IR 2 := by unfold IR; omega
  have i0 : IR 0 := by unfold IR; omega
  have im : IR (-1) := by unfold IR; omega
  have e1 : ∀ q M Post, RM S M → (0 ≤ wr (-(if sWho (sF S) a then -2 else (-1 : Int))) ∧ wr (-(if sWho (sF S) a then -2 else (-1 : Int))) < ((7 : Nat) : Int)) ∧ Post (some (vi (f10_refuse (if sWho (sF S) a then -2 else -1)))) (LM q, g10_refuse (up M 0 8 0) (if sWho (sF S) a then -2 else -1)) →
      TA i10_one 40 [none, none, none] [vi (if wr (f10_isOne (up M 0 8 0) a) = 0 then -1 else -2), vr 0] (LM q, up M 0 8 0) Post := by
    intro q M Post hM h
    refine W10_one_40 ?_
    have e : (if wr (f10_isOne (up M 0 8 0) a) = 0 then (-1 : Int) else -2) = if sWho (sF S) a then -2 else -1 := by
      rw [isOne_eq hF hM.thr.1 ia]
      by_cases g : sWho (sF S) a
      · rw [if_pos g, if_neg (by rw [wr1]; omega), if_pos g]
      · rw [if_neg g, if_pos wr0, if_neg g]
    rw [e]; exact h
  by_cases g : sWho (sF S) a ∧ 0 ≤ w ∧ w ≤ 2
  · obtain ⟨n, hn6, rfl, hn⟩ := g.1.n hF
    refine ⟨sOf (sF S) n w, S, hS, fun M hM => W9_one_0 ?_, fun q M hM => W10_one_0 ⟨isOne_01 hF hM.1 ia, fun z => ?_, fun _ => ⟨fun z => ?_, fun _ => ?_⟩⟩⟩
    · rw [nobody_eq hF hM.1 ia, if_pos g.1, if_pos wr0]
      refine W9_one_13 ⟨fun _ => ⟨M, by rw [ofPer_eq hM.1 hn6 g.2], rfl, hM⟩, fun z => ?_⟩
      rw [orOther_eq i0 iw i2] at z
      unfold sBit at z
      rw [if_pos rfl, if_pos g.2] at z
      exact absurd wr0 z
    · rw [isOne_eq hF hM.thr.1 ia, if_pos g.1, wr1] at z; omega
    · rw [iw.w, in_eq iw (by unfold IR; omega) i2, if_pos (by omega), wr1] at z; omega
    · have hT := hM.thr
      obtain ⟨m3, m4, m5⟩ := hT.1.2.2.2.2.2 n hn6
      have en : wr (n : Int) = (n : Int) := wr_id (by omega) (by omega)
      have en2 : ((n : Int)).toNat = n := by omega
      rw [up_fr (by omega)] at m3 m4 m5
      rw [en, en2, iw.w, wr1]
      unfold sOf
      refine ⟨fun z => ⟨by omega, q, _, by rw [if_pos z, m3], rfl, hT⟩, fun z => ⟨fun z2 => ⟨by omega, q, _, by rw [if_neg z, if_pos z2, m4], rfl, hT⟩, fun z2 => ⟨by omega, q, _, by rw [if_neg z, if_neg z2, m5], rfl, hT⟩⟩⟩
  · have hr : -6 ≤ (if sWho (sF S) a then -2 else (-1 : Int)) ∧ (if sWho (sF S) a then -2 else (-1 : Int)) ≤ -1 := by split <;> omega
    refine ⟨if sWho (sF S) a then -2 else -1, sRef S (if sWho (sF S) a then -2 else -1), hS.ref _, fun M hM => W9_one_0 ?_, fun q M hM => ?_⟩
    · have e : f9_orOther (if wr (f9_nobody M a) = 0 then 0 else -1) w 2 = if sWho (sF S) a then -2 else -1 := by
        rw [nobody_eq hF hM.1 ia]
        by_cases k : sWho (sF S) a
        · rw [if_pos k, if_pos wr0, if_pos k, orOther_eq i0 iw i2]
          unfold sBit
          rw [if_pos rfl, if_neg (fun z => g ⟨k, z⟩)]
        · rw [if_neg k, if_neg (by rw [wr1]; omega), if_neg k, orOther_eq im iw i2]
          unfold sBit
          rw [if_neg (by omega)]
      refine W9_one_13 ?_
      rw [e, wr_id (by omega) (by omega)]
      exact ⟨fun z => by omega, fun _ => C_ref hM (by omega)⟩
    · have h40 := e1 q M (MP (sRef S (if sWho (sF S) a then -2 else -1)) (if sWho (sF S) a then -2 else -1)) hM ⟨by rw [wr_id (by omega) (by omega)]; omega, M_ref hM.thr (by omega)⟩
      refine W10_one_0 ⟨isOne_01 hF hM.1 ia, fun _ => ⟨isOne_01 hF hM.1 ia, h40⟩, fun z => ⟨fun _ => ⟨isOne_01 hF hM.1 ia, h40⟩, fun z2 => ?_⟩⟩
      rw [isOne_eq hF hM.thr.1 ia] at z
      rw [iw.w, in_eq iw (by unfold IR; omega) i2] at z2
      refine absurd ?_ g
      constructor
      · apply Classical.byContradiction; intro k; rw [if_neg k] at z; exact z wr0
      · apply Classical.byContradiction; intro k; rw [if_neg (by omega)] at z2; exact z2 wr0
/-- another field, other turns -/
theorem RC.chF {S : ST} {M M' : Mem} (h : RC S M) {F' : FS} {T' : List FS} (f : ∀ i, i < 36 → 8 ≤ i → i ≠ 22 → i ≠ 24 → i ≠ 26 → i ≠ 28 → M' i = M i) (f0 : M' 0 = M 0) (hF : RCf F' M' 1) (hT : M' 22 0 = (T'.length : Int)) (hC : CH (M' 24) (M' 26) (M' 28) T' F') : RC (F', sL S, sR S, sC S, sI S, T') M' := by
  obtain ⟨-, ⟨h2, h3⟩, ⟨h4, h5⟩, h6, h7, -, -⟩ := h
  refine ⟨hF, ⟨by rw [f 29 (by omega) (by omega) (by omega) (by omega) (by omega) (by omega)]; exact h2, by rw [f 31 (by omega) (by omega) (by omega) (by omega) (by omega) (by omega)]; exact h3⟩, ⟨by rw [f0]; exact h4, by rw [f 33 (by omega) (by omega) (by omega) (by omega) (by omega) (by omega)]; exact h5⟩, by rw [f 35 (by omega) (by omega) (by omega) (by omega) (by omega) (by omega)]; exact h6, ?_, hT, hC⟩
  show Im1 (sI S) M'
  unfold Im1 at *
  split at h7
  · rw [f0]; exact h7
  · exact ⟨by rw [f0]; exact h7.1, h7.2.frb (f 8 (by omega) (by omega) (by omega) (by omega) (by omega) (by omega)) (f (8 + 2) (by omega) (by omega) (by omega) (by omega) (by omega) (by omega)) (f (8 + 4) (by omega) (by omega) (by omega) (by omega) (by omega) (by omega)) (f (8 + 6) (by omega) (by omega) (by omega) (by omega) (by omega) (by omega))⟩
theorem RM.chF {S : ST} {M M' : Mem} (h : RM S M) {F' : FS} {T' : List FS} (f1 : ∀ i, (i = 6 ∨ i = 8 ∨ i = 13 ∨ i = 24) → M' i = M i) (f2 : ∀ j, (j = 21 ∨ j = 30 ∨ j = 48) → M' 0 j = M 0 j) (hF : RMf F' M') (hT : M' 0 36 = (T'.length : Int)) (hC : TN (M' 14) T') : RM (F', sL S, sR S, sC S, sI S, T') M' := by
  obtain ⟨-, ⟨h2, h3⟩, ⟨h4, h5⟩, h6, h7, -, -⟩ := h
  refine ⟨hF, ⟨by rw [f2 21 (by omega)]; exact h2, by rw [f1 8 (by omega)]; exact h3⟩, ⟨by rw [f2 48 (by omega)]; exact h4, by rw [f1 24 (by omega)]; exact h5⟩, by rw [f1 6 (by omega)]; exact h6, ?_, hT, hC⟩
  show Im2 (sI S) M'
  unfold Im2 at *
  split at h7
  · rw [f2 30 (by omega)]; exact h7
  · exact ⟨by rw [f2 30 (by omega)]; exact h7.1, by rw [f1 13 (by omega)]; exact h7.2⟩
def setYd (F : FS) (n : Int) : FS := (n, ln F, pn F, kd F, fg F, ar F, hv F, hd F)
theorem SIM_yards {n : Int} (ix : IR n) : SIM i9_yards 4 i10_yards 3 [vi n] := by
  intro S hS
  have hF := hS.1
  have e2 := first_eq (a := False) (b := n < 1) (c := 20 < n)
  rw [if_neg (c := False) (fun z => z)] at e2
  have hb : -6 ≤ s3w False (n < 1) (20 < n) ∧ s3w False (n < 1) (20 < n) ≤ 0 := by unfold s3w; (repeat' split) <;> omega
  have c1 : ∀ M Post, ((s3w False (n < 1) (20 < n) = 0 → Post (some (vi (M 1 0))) (LC, g1_forgets (up M 1 0 n) 22)) ∧ (s3w False (n < 1) (20 < n) ≠ 0 → Post (some (vi (f9_refuse (s3w False (n < 1) (20 < n))))) (LC, g9_refuse M (s3w False (n < 1) (20 < n))))) → TC i9_yards 4 [vr 0, vi n] (LC, M) Post := by
    intro M Post h
    refine W9_yards_0 (W9_yards_11 (W9_yards_22 ?_))
    rw [ix.w, wr1, wr_id (x := 20) (by omega) (by omega), e2, wr_id (by omega) (by omega)]
    exact h
  have e3 : f10_wrongNumber n 1 20 = s3w False (n < 1) (20 < n) := by
    unfold f10_wrongNumber s3w
    rw [ix.w, wr1, wr_id (x := 20) (by omega) (by omega), if_neg (c := False) (fun z => z)]
  by_cases e : s3w False (n < 1) (20 < n) = 0
  · have hx : 1 ≤ n ∧ n ≤ 20 := by unfold s3w at e; (repeat' split at e) <;> omega
    refine ⟨yd (sF S), (setYd (sF S) n, sL S, sR S, sC S, sI S, []), ⟨⟨hx, hF.2⟩, hS.2.1, hS.2.2.1, hS.2.2.2.1, fun G hG => absurd hG (by simp [sT]), Nat.zero_le _⟩, fun M hM => c1 M _ ⟨fun _ => ⟨_, by rw [hM.1.1], rfl, ?_⟩, fun z => absurd e z⟩, fun q M hM => W10_yards_0 ⟨fun z => ?_, fun _ => ⟨q, _, by rw [hM.1.1], rfl, ?_⟩⟩⟩
    · have f : ∀ i, i ≠ 1 → i ≠ 22 → g1_forgets (up M 1 0 n) 22 i = M i := fun i a b => by unfold g1_forgets; rw [up_fr b, up_fr a]
      refine hM.chF (fun i a b c d _ _ => f i (by omega) (by omega)) (f 0 (by omega) (by omega)) ?_ ?_ True.intro
      · obtain ⟨h1, h2, h3, h4, h5, h6⟩ := hM.1
        refine ⟨?_, ?_, ?_, ?_, ?_, ?_⟩
        · unfold g1_forgets; rw [up_fr (by omega), up_eq]; rfl
        · unfold g1_forgets; rw [up_fr (by omega), up_sl (by omega)]; exact h2
        · unfold g1_forgets; rw [up_fr (by omega), up_sl (by omega)]; exact h3
        · rw [f _ (by omega) (by omega)]; exact h4
        · rw [f _ (by omega) (by omega)]; exact h5
        · rw [f _ (by omega) (by omega)]; exact h6
      · unfold g1_forgets; rw [up_eq]; rfl
    · rw [e3, e, wr0] at z; omega
    · refine hM.chF (fun i a => by rw [up_fr (by omega), up_fr (by omega), up_fr (by omega)]) (fun j a => by rw [up_sl (by omega), up_sl (by omega), up_sl (by omega)]) ?_ (by rw [up_eq]; rfl) True.intro
      obtain ⟨h1, h2, h3, h4, h5, h6⟩ := hM.1
      have f : ∀ i, i ≠ 0 → up (up (up M 0 8 0) 0 2 n) 0 36 0 i = M i := fun i a => by rw [up_fr a, up_fr a, up_fr a]
      refine ⟨?_, ?_, ?_, ?_, ?_, ?_⟩
      · rw [up_sl (by omega), up_eq]; rfl
      · rw [up_sl (by omega), up_sl (by omega), up_sl (by omega)]; exact h2
      · rw [up_sl (by omega), up_sl (by omega), up_sl (by omega)]; exact h3
      · rw [f _ (by omega)]; exact h4
      · rw [f _ (by omega)]; exact h5
      · rw [f _ (by omega), f _ (by omega), f _ (by omega)]; exact h6
  · refine ⟨_, sRef S (s3w False (n < 1) (20 < n)), hS.ref _, fun M hM => c1 M _ ⟨fun z => absurd z e, fun _ => C_ref hM (by omega)⟩, fun q M hM => W10_yards_0 ⟨fun z => ?_, fun z => ?_⟩⟩
    · rw [e3, wr_id (x := -_) (by omega) (by omega)]
      exact ⟨by omega, M_ref hM.thr (by omega)⟩
    · rw [e3, wr_id (by omega) (by omega)] at z; omega

/-! a course, a race, in the class -/
def CO (M : Mem) (c n : Nat) (kf ff : Nat → Int) : Prop := M c 0 = (n : Int) ∧ n ≤ 20 ∧ ∀ y, y < n → M (c + 2) y = kf y ∧ M (c + 4) y = ff y ∧ KOK (kf y) (ff y)
def sRun (kf ff : Nat → Int) (a h d hold pace : Int) (s : RS) : Nat → RS
  | 0 => s
  | n + 1 => sStep (kf n) (ff n) a h d hold pace (sRun kf ff a h d hold pace s n)
def tvC (s : RS) : Int := match s with
  | none => 10000000
  | some (_, t, _, _) => t
def lk (F : FS) (lane y : Nat) : Int := kd F (20 * lane + y)
def lf (F : FS) (lane y : Nat) : Int := fg F (20 * lane + y)
def sRaceN (F : FS) (lane p : Nat) (hold pace : Int) (n : Nat) : RS := sRun (lk F lane) (lf F lane) (ar F p) (hv F p) (hd F p) hold pace (some (ar F p, 0, 0, 0)) n
def sRace (F : FS) (lane p : Nat) (hold pace : Int) : RS := sRaceN F lane p hold pace (yd F).toNat
theorem RCf.fr {F : FS} {M M' : Mem} (h : RCf F M 1) (hf : ∀ i, i < 36 → M' i = M i) : RCf F M' 1 := by
  obtain ⟨h1, h2, h3, h4, h5, h6⟩ := h
  refine ⟨?_, ?_, ?_, ?_, ?_, ?_⟩
  · rw [hf 1 (by omega)]; exact h1
  · rw [hf 1 (by omega)]; exact h2
  · rw [hf 1 (by omega)]; exact h3
  · rw [hf (1 + 2) (by omega)]; exact h4
  · rw [hf (1 + 4) (by omega)]; exact h5
  · rw [hf (1 + 6) (by omega)]; exact h6
theorem FOK.K {F : FS} (h : FOK F) {lane y : Nat} (hl : lane < 2) (hy : y < 20) : KOK (lk F lane y) (lf F lane y) := by
  obtain ⟨-, -, -, h4, h5, -, -⟩ := h
  exact ⟨h4 _ (by omega), h5 _ (by omega)⟩
theorem kindOf_eq {F : FS} {M : Mem} (h : RCf F M 1) {l y : Int} (hl : 0 ≤ l ∧ l ≤ 1) (hy : 0 ≤ y ∧ y < 20) : f3_kindOf M 1 l y = lk F l.toNat y.toNat := by
  unfold f3_kindOf f3_placeOf lk
  rw [rd_in (by omega) (by omega) (by omega), h.2.2.2.1 _ (by omega)]
  congr 1
  omega
theorem figureOf_eq {F : FS} {M : Mem} (h : RCf F M 1) {l y : Int} (hl : 0 ≤ l ∧ l ≤ 1) (hy : 0 ≤ y ∧ y < 20) : f3_figureOf M 1 l y = lf F l.toNat y.toNat := by
  unfold f3_figureOf f3_placeOf lf
  rw [rd_in (by omega) (by omega) (by omega), h.2.2.2.2.1 _ (by omega)]
  congr 1
  omega
theorem ofP_eq {F : FS} {M : Mem} (h : RCf F M 1) {p : Nat} (hp : p < 6) : f3_ofPerson M 1 (p : Int) 0 = ar F p ∧ f3_ofPerson M 1 (p : Int) 1 = hv F p ∧ f3_ofPerson M 1 (p : Int) 2 = hd F p := by
  obtain ⟨-, -, -, -, -, h6⟩ := h
  obtain ⟨a1, a2, a3⟩ := h6 p hp
  unfold f3_ofPerson
  refine ⟨?_, ?_, ?_⟩
  · rw [rd_in (by omega) (by omega) (by omega), ← a1]; congr 1
  · rw [rd_in (by omega) (by omega) (by omega), ← a2]; congr 1
  · rw [rd_in (by omega) (by omega) (by omega), ← a3]; congr 1
theorem wt_fr {M : Mem} {a n i : Nat} {x v : Int} (h : i ≠ a) : wt M a n x v i = M i := by
  unfold wt
  split
  · exact up_fr h
  · rfl
theorem L_takes_36 {F : FS} (hF : FOK F) {l : Int} (hl : 0 ≤ l ∧ l ≤ 1) {K : Mem → Prop} {M0 : Mem} (hR : RCf F M0 1)
    (h : ∀ M', (∀ i, i ≠ 36 → i ≠ 38 → i ≠ 40 → M' i = M0 i) → CO M' 36 (yd F).toNat (lk F l.toNat) (lf F l.toNat) → K M') :
    ∀ (n y : Nat) (M : Mem), y + n = (yd F).toNat → M 36 0 = yd F → (∀ i, i ≠ 36 → i ≠ 38 → i ≠ 40 → M i = M0 i) → (∀ j, j < y → M 38 j = lk F l.toNat j ∧ M 40 j = lf F l.toNat j) →
      TA i2_takes 10 [some (vr 36), some (vr 1), some (vi l), some (vi (y : Int))] [] (LC, M) (fun rv G' => rv = none ∧ ∃ M', G' = (LC, M') ∧ K M')
  | 0, y, M, hy, h0, hf, hd => by
    obtain ⟨hy1, hy2⟩ := hF.1
    refine W2_takes_10_36_1 ⟨fun q => ?_, fun q => ?_⟩
    · rw [h0, wlt (by omega) (by omega) (by omega) (by omega)] at q
      omega
    · exact ⟨rfl, M, rfl, h M hf ⟨by rw [h0]; omega, by omega, fun j hj => ⟨(hd j (by omega)).1, (hd j (by omega)).2, hF.K (by omega) (by omega)⟩⟩⟩
  | n + 1, y, M, hy, h0, hf, hd => by
    obtain ⟨hy1, hy2⟩ := hF.1
    refine W2_takes_10_36_1 ⟨fun q => ?_, fun q => ?_⟩
    · have hR1 : RCf F M 1 := hR.fr (fun i hi => hf i (by omega) (by omega) (by omega))
      rw [kindOf_eq hR1 hl (by omega)]
      have hR2 : RCf F (wt M 38 20 (y : Int) (lk F l.toNat ((y : Int)).toNat)) 1 := hR1.fr (fun i hi => wt_fr (by omega))
      rw [figureOf_eq hR2 hl (by omega), wt_in (by omega) (by omega) (by omega), wt_in (by omega) (by omega) (by omega)]
      have ey : ((y : Int)).toNat = y := by omega
      rw [ey]
      refine L_takes_36 hF hl hR h n (y + 1) _ (by omega) ?_ (fun i i1 i2 i3 => ?_) (fun j hj => ?_)
      · simp [up]; exact h0
      · rw [up_fr i3, up_fr i2]; exact hf i i1 i2 i3
      · by_cases hjy : j = y
        · subst hjy; simp [up]
        · have := hd j (by omega)
          simp [up, hjy]
          exact this
    · rw [h0, wlt (by omega) (by omega) (by omega) (by omega)] at q
      omega
theorem T_takes_36 {F : FS} (hF : FOK F) {l : Int} (hl : 0 ≤ l ∧ l ≤ 1) {K : Mem → Prop} {M : Mem} (hR : RCf F M 1)
    (h : ∀ M', (∀ i, i ≠ 36 → i ≠ 38 → i ≠ 40 → M' i = M i) → CO M' 36 (yd F).toNat (lk F l.toNat) (lf F l.toNat) → K M') : TV i2_takes 4 [vr 36, vr 1, vi l] (LC, M) K := by
  refine W2_takes_0_36_1 ?_
  refine L_takes_36 hF hl hR h (yd F).toNat 0 _ (by omega) ?_ (fun i i1 i2 i3 => up_fr i1) (fun j hj => absurd hj (by omega))
  rw [up_eq]; exact hR.1
theorem L_takes_51 {F : FS} (hF : FOK F) {l : Int} (hl : 0 ≤ l ∧ l ≤ 1) {K : Mem → Prop} {M0 : Mem} (hR : RCf F M0 1)
    (h : ∀ M', (∀ i, i ≠ 51 → i ≠ 53 → i ≠ 55 → M' i = M0 i) → CO M' 51 (yd F).toNat (lk F l.toNat) (lf F l.toNat) → K M') :
    ∀ (n y : Nat) (M : Mem), y + n = (yd F).toNat → M 51 0 = yd F → (∀ i, i ≠ 51 → i ≠ 53 → i ≠ 55 → M i = M0 i) → (∀ j, j < y → M 53 j = lk F l.toNat j ∧ M 55 j = lf F l.toNat j) →
      TA i2_takes 10 [some (vr 51), some (vr 1), some (vi l), some (vi (y : Int))] [] (LC, M) (fun rv G' => rv = none ∧ ∃ M', G' = (LC, M') ∧ K M')
  | 0, y, M, hy, h0, hf, hd => by
    obtain ⟨hy1, hy2⟩ := hF.1
    refine W2_takes_10_51_1 ⟨fun q => ?_, fun q => ?_⟩
    · rw [h0, wlt (by omega) (by omega) (by omega) (by omega)] at q
      omega
    · exact ⟨rfl, M, rfl, h M hf ⟨by rw [h0]; omega, by omega, fun j hj => ⟨(hd j (by omega)).1, (hd j (by omega)).2, hF.K (by omega) (by omega)⟩⟩⟩
  | n + 1, y, M, hy, h0, hf, hd => by
    obtain ⟨hy1, hy2⟩ := hF.1
    refine W2_takes_10_51_1 ⟨fun q => ?_, fun q => ?_⟩
    · have hR1 : RCf F M 1 := hR.fr (fun i hi => hf i (by omega) (by omega) (by omega))
      rw [kindOf_eq hR1 hl (by omega)]
      have hR2 : RCf F (wt M 53 20 (y : Int) (lk F l.toNat ((y : Int)).toNat)) 1 := hR1.fr (fun i hi => wt_fr (by omega))
      rw [figureOf_eq hR2 hl (by omega), wt_in (by omega) (by omega) (by omega), wt_in (by omega) (by omega) (by omega)]
      have ey : ((y : Int)).toNat = y := by omega
      rw [ey]
      refine L_takes_51 hF hl hR h n (y + 1) _ (by omega) ?_ (fun i i1 i2 i3 => ?_) (fun j hj => ?_)
      · simp [up]; exact h0
      · rw [up_fr i3, up_fr i2]; exact hf i i1 i2 i3
      · by_cases hjy : j = y
        · subst hjy; simp [up]
        · have := hd j (by omega)
          simp [up, hjy]
          exact this
    · rw [h0, wlt (by omega) (by omega) (by omega) (by omega)] at q
      omega
theorem T_takes_51 {F : FS} (hF : FOK F) {l : Int} (hl : 0 ≤ l ∧ l ≤ 1) {K : Mem → Prop} {M : Mem} (hR : RCf F M 1)
    (h : ∀ M', (∀ i, i ≠ 51 → i ≠ 53 → i ≠ 55 → M' i = M i) → CO M' 51 (yd F).toNat (lk F l.toNat) (lf F l.toNat) → K M') : TV i2_takes 4 [vr 51, vr 1, vi l] (LC, M) K := by
  refine W2_takes_0_51_1 ?_
  refine L_takes_51 hF hl hR h (yd F).toNat 0 _ (by omega) ?_ (fun i i1 i2 i3 => up_fr i1) (fun j hj => absurd hj (by omega))
  rw [up_eq]; exact hR.1
theorem L_takes_56 {F : FS} (hF : FOK F) {l : Int} (hl : 0 ≤ l ∧ l ≤ 1) {K : Mem → Prop} {M0 : Mem} (hR : RCf F M0 1)
    (h : ∀ M', (∀ i, i ≠ 56 → i ≠ 58 → i ≠ 60 → M' i = M0 i) → CO M' 56 (yd F).toNat (lk F l.toNat) (lf F l.toNat) → K M') :
    ∀ (n y : Nat) (M : Mem), y + n = (yd F).toNat → M 56 0 = yd F → (∀ i, i ≠ 56 → i ≠ 58 → i ≠ 60 → M i = M0 i) → (∀ j, j < y → M 58 j = lk F l.toNat j ∧ M 60 j = lf F l.toNat j) →
      TA i2_takes 10 [some (vr 56), some (vr 1), some (vi l), some (vi (y : Int))] [] (LC, M) (fun rv G' => rv = none ∧ ∃ M', G' = (LC, M') ∧ K M')
  | 0, y, M, hy, h0, hf, hd => by
    obtain ⟨hy1, hy2⟩ := hF.1
    refine W2_takes_10_56_1 ⟨fun q => ?_, fun q => ?_⟩
    · rw [h0, wlt (by omega) (by omega) (by omega) (by omega)] at q
      omega
    · exact ⟨rfl, M, rfl, h M hf ⟨by rw [h0]; omega, by omega, fun j hj => ⟨(hd j (by omega)).1, (hd j (by omega)).2, hF.K (by omega) (by omega)⟩⟩⟩
  | n + 1, y, M, hy, h0, hf, hd => by
    obtain ⟨hy1, hy2⟩ := hF.1
    refine W2_takes_10_56_1 ⟨fun q => ?_, fun q => ?_⟩
    · have hR1 : RCf F M 1 := hR.fr (fun i hi => hf i (by omega) (by omega) (by omega))
      rw [kindOf_eq hR1 hl (by omega)]
      have hR2 : RCf F (wt M 58 20 (y : Int) (lk F l.toNat ((y : Int)).toNat)) 1 := hR1.fr (fun i hi => wt_fr (by omega))
      rw [figureOf_eq hR2 hl (by omega), wt_in (by omega) (by omega) (by omega), wt_in (by omega) (by omega) (by omega)]
      have ey : ((y : Int)).toNat = y := by omega
      rw [ey]
      refine L_takes_56 hF hl hR h n (y + 1) _ (by omega) ?_ (fun i i1 i2 i3 => ?_) (fun j hj => ?_)
      · simp [up]; exact h0
      · rw [up_fr i3, up_fr i2]; exact hf i i1 i2 i3
      · by_cases hjy : j = y
        · subst hjy; simp [up]
        · have := hd j (by omega)
          simp [up, hjy]
          exact this
    · rw [h0, wlt (by omega) (by omega) (by omega) (by omega)] at q
      omega
theorem T_takes_56 {F : FS} (hF : FOK F) {l : Int} (hl : 0 ≤ l ∧ l ≤ 1) {K : Mem → Prop} {M : Mem} (hR : RCf F M 1)
    (h : ∀ M', (∀ i, i ≠ 56 → i ≠ 58 → i ≠ 60 → M' i = M i) → CO M' 56 (yd F).toNat (lk F l.toNat) (lf F l.toNat) → K M') : TV i2_takes 4 [vr 56, vr 1, vi l] (LC, M) K := by
  refine W2_takes_0_56_1 ?_
  refine L_takes_56 hF hl hR h (yd F).toNat 0 _ (by omega) ?_ (fun i i1 i2 i3 => up_fr i1) (fun j hj => absurd hj (by omega))
  rw [up_eq]; exact hR.1
/-- a race over a course that is there -/
theorem L_over {hold pace : Int} (hb : BOK hold pace) {n : Nat} {kf ff : Nat → Int} {s : RS} {K : Int → Mem → Prop} {M0 : Mem} {j : Int} (hj : 0 ≤ j ∧ j < 9000) (hC : CO M0 36 n kf ff)
    (h : ∀ M', (∀ i, i ≠ 41 → M' i = M0 i) → M' 41 0 = M0 41 0 → M' 41 1 = M0 41 1 → M' 41 2 = M0 41 2 → WR M' 41 (sRun kf ff (M0 41 0) (M0 41 1) (M0 41 2) hold pace s n) (j + n) → K (tvC (sRun kf ff (M0 41 0) (M0 41 1) (M0 41 2) hold pace s n)) M') :
    ∀ (k y : Nat) (M : Mem), y + k = n → (∀ i, i ≠ 41 → M i = M0 i) → M 41 0 = M0 41 0 → M 41 1 = M0 41 1 → M 41 2 = M0 41 2 → WR M 41 (sRun kf ff (M0 41 0) (M0 41 1) (M0 41 2) hold pace s y) (j + y) →
      TA i8_timeOver 3 [some (vr 41), some (vr 36), some (vi hold), some (vi pace), some (vi (y : Int))] [] (LC, M) (fun rv G' => ∃ r M', rv = some (vi r) ∧ G' = (LC, M') ∧ K r M')
  | 0, y, M, hy, hf, h0, h1, h2, hW => by
    obtain ⟨c0, c1, c2⟩ := hC
    have hyn : y = n := by omega
    subst hyn
    refine W8_timeOver_3_41_36 ⟨fun q => ?_, fun q => ?_⟩
    · rw [hf 36 (by omega), c0, wlt (by omega) (by omega) (by omega) (by omega)] at q
      omega
    · refine ⟨_, M, rfl, rfl, ?_⟩
      have e : f8_time M 41 = tvC (sRun kf ff (M0 41 0) (M0 41 1) (M0 41 2) hold pace s y) := by
        obtain ⟨-, -, hs⟩ := hW
        unfold f8_time
        revert hs
        cases sRun kf ff (M0 41 0) (M0 41 1) (M0 41 2) hold pace s y with
        | none => intro hs; rw [show M 41 7 = 1 from hs, wr_id (by omega) (by omega)]; rfl
        | some z => intro hs; rw [show M 41 7 = 0 from hs.1, wr_id (by omega) (by omega)]; exact hs.2.2.1
      rw [e]
      exact h M hf h0 h1 h2 hW
  | k + 1, y, M, hy, hf, h0, h1, h2, hW => by
    obtain ⟨c0, c1, c2⟩ := id hC
    refine W8_timeOver_3_41_36 ⟨fun q => ?_, fun q => ?_⟩
    · obtain ⟨k1, k2, k3⟩ := c2 y (by omega)
      refine T_goes_41_36 k3 hb (by omega) (by rw [hf 38 (by omega)]; exact k1) (by rw [hf 40 (by omega)]; exact k2) hW (by omega) (fun M' f1 f2 f3 f4 f5 => ?_)
      rw [h0, h1, h2] at f5
      refine L_over hb hj hC h k (y + 1) M' (by omega) (fun i hi => by rw [f1 i hi]; exact hf i hi) (by rw [f2]; exact h0) (by rw [f3]; exact h1) (by rw [f4]; exact h2) ?_
      have e : j + ((y + 1 : Nat) : Int) = j + (y : Int) + 1 := by omega
      rw [e]
      exact f5
    · rw [hf 36 (by omega), c0, wlt (by omega) (by omega) (by omega) (by omega)] at q
      omega
theorem T_over {hold pace : Int} (hb : BOK hold pace) {n : Nat} {kf ff : Nat → Int} {s : RS} {K : Int → Mem → Prop} {M : Mem} {j : Int} (hj : 0 ≤ j ∧ j < 9000) (hC : CO M 36 n kf ff) (hW : WR M 41 s j)
    (h : ∀ M', (∀ i, i ≠ 41 → M' i = M i) → M' 41 0 = M 41 0 → M' 41 1 = M 41 1 → M' 41 2 = M 41 2 → WR M' 41 (sRun kf ff (M 41 0) (M 41 1) (M 41 2) hold pace s n) (j + n) → K (tvC (sRun kf ff (M 41 0) (M 41 1) (M 41 2) hold pace s n)) M') : TI i8_timeOver 5 [vr 41, vr 36, vi hold, vi pace] (LC, M) K :=
  W8_timeOver_0_41_36 (L_over hb hj hC h n 0 M (by omega) (fun _ _ => rfl) rfl rfl rfl (by rw [show j + ((0 : Nat) : Int) = j by omega]; exact hW))
/-- who walks is put at the start -/
theorem startsAs_ok {M : Mem} {w : Nat} {a h d : Int} (ha : 0 ≤ a ∧ a ≤ 60) (hh : 0 ≤ h ∧ h ≤ 9) (hd : 0 ≤ d ∧ d ≤ 9) : (∀ i, i ≠ w → g8_startsAs M w a h d i = M i) ∧ g8_startsAs M w a h d w 0 = a ∧ g8_startsAs M w a h d w 1 = h ∧ g8_startsAs M w a h d w 2 = d ∧ WR (g8_startsAs M w a h d) w (some (a, 0, 0, 0)) 0 := by
  unfold g8_startsAs g8_goesOnWith
  refine ⟨fun i hi => ?_, by simp [up], by simp [up], by simp [up], ?_⟩
  · rw [up_fr hi, up_fr hi, up_fr hi, up_fr hi, up_fr hi, up_fr hi, up_fr hi, up_fr hi]
  · refine ⟨by simp [up]; omega, by omega, ?_⟩
    simp [up]
    omega
theorem FOK.P {F : FS} (h : FOK F) {p : Nat} (hp : p < 6) : (0 ≤ ar F p ∧ ar F p ≤ 60) ∧ (0 ≤ hv F p ∧ hv F p ≤ 9) ∧ (0 ≤ hd F p ∧ hd F p ≤ 9) := by
  obtain ⟨-, -, -, -, -, h6, -⟩ := h
  have := h6 p hp
  omega
theorem starts_eq {F : FS} {M : Mem} (h : RCf F M 1) {p : Nat} (hp : p < 6) (w : Nat) : g8_starts M w 1 (p : Int) = g8_startsAs M w (ar F p) (hv F p) (hd F p) := by
  obtain ⟨e1, e2, e3⟩ := ofP_eq h hp
  unfold g8_starts
  rw [e1, e2, e3]
/-- what a race leaves behind: the course, the walk -/
def Left (F : FS) (M0 M : Mem) (lane p : Nat) (hold pace : Int) : Prop := (∀ i, i ≠ 36 → i ≠ 38 → i ≠ 40 → i ≠ 41 → M i = M0 i) ∧ CO M 36 (yd F).toNat (lk F lane) (lf F lane) ∧ M 41 0 = ar F p ∧ M 41 1 = hv F p ∧ M 41 2 = hd F p ∧ WR M 41 (sRace F lane p hold pace) (yd F)
theorem T_timeIn {F : FS} (hF : FOK F) {M : Mem} (hR : RCf F M 1) {l : Int} (hl : 0 ≤ l ∧ l ≤ 1) {p : Nat} (hp : p < 6) {hold pace : Int} (hb : BOK hold pace) {K : Int → Mem → Prop}
    (h : ∀ M', Left F M M' l.toNat p hold pace → K (tvC (sRace F l.toNat p hold pace)) M') : TI i9_timeIn 5 [vr 0, vi l, vi (p : Int), vi hold, vi pace] (LC, M) K := by
  refine W9_timeIn_0 ?_
  refine T_takes_36 hF hl hR (fun M1 f1 hC => ⟨wb0, ?_⟩)
  have hR1 : RCf F M1 1 := hR.fr (fun i hi => f1 i (by omega) (by omega) (by omega))
  rw [starts_eq hR1 hp]
  obtain ⟨pa, ph, pd⟩ := hF.P hp
  obtain ⟨g1, g2, g3, g4, g5⟩ := startsAs_ok (M := M1) (w := 41) pa ph pd
  have hy := hF.1
  refine T_over hb (j := 0) (by omega) (n := (yd F).toNat) (kf := lk F l.toNat) (ff := lf F l.toNat) ?_ g5 (fun M2 f2 e0 e1 e2 hW => ?_)
  · obtain ⟨c0, c1, c2⟩ := hC
    exact ⟨by rw [g1 36 (by omega)]; exact c0, c1, fun y hy => by rw [g1 (36 + 2) (by omega), g1 (36 + 4) (by omega)]; exact c2 y hy⟩
  · rw [g2, g3, g4] at hW ⊢
    rw [g2] at e0
    rw [g3] at e1
    rw [g4] at e2
    refine ⟨_, M2, rfl, rfl, h M2 ⟨fun i i1 i2 i3 i4 => ?_, ?_, e0, e1, e2, ?_⟩⟩
    · rw [f2 i i4, g1 i i4]; exact f1 i i1 i2 i3
    · obtain ⟨c0, c1, c2⟩ := hC
      exact ⟨by rw [f2 36 (by omega), g1 36 (by omega)]; exact c0, c1, fun y hy => by rw [f2 (36 + 2) (by omega), f2 (36 + 4) (by omega), g1 (36 + 2) (by omega), g1 (36 + 4) (by omega)]; exact c2 y hy⟩
    · have e : (0 : Int) + (((yd F).toNat : Nat) : Int) = yd F := by omega
      rw [e] at hW
      exact hW
theorem T_timeOf {F : FS} (hF : FOK F) {M : Mem} (hR : RCf F M 1) {p : Nat} (hp : p < 6) {hold pace : Int} (hb : BOK hold pace) {K : Int → Mem → Prop}
    (h : ∀ M', Left F M M' (ln F).toNat p hold pace → K (tvC (sRace F (ln F).toNat p hold pace)) M') : TI i9_timeOf 4 [vr 0, vi (p : Int), vi hold, vi pace] (LC, M) K := by
  refine W9_timeOf_0 ?_
  rw [hR.2.1]
  exact T_timeIn hF hR hF.2.1 hp hb (fun M' hL => ⟨_, M', rfl, rfl, h M' hL⟩)

/-! lanes, in whole numbers; the class -/
def LB (s : RS) (a : Int) : Prop := match s with
  | none => True
  | some (l, t, _, _) => (0 ≤ l ∧ l ≤ a) ∧ (0 ≤ t ∧ t ≤ 200)
def LG (M : Mem) (s : RS) (L : Int) : Prop := match s with
  | none => M 41 7 = 1 ∧ M 41 3 = L
  | some (l, t, _, _) => M 41 7 = 0 ∧ M 41 3 = l ∧ M 41 4 = t
theorem stepL_ok {k f a h d hold pace L : Int} (hk : KOK k f) (hb : BOK hold pace) (ha : 0 ≤ a ∧ a ≤ 60) (hh : 0 ≤ h ∧ h ≤ 9) (hL : 0 ≤ L ∧ L ≤ a) : LB (sStep k f a h d hold pace (some (L, 0, 0, 0))) a := by
  have hLd := sLoad_le (h := h) (hold := hold) hk hh.1 hh.2 hb.1.1 hb.1.2
  have hTn := sTen_le hk hb
  obtain ⟨⟨b1, b2⟩, b3, b4⟩ := hb
  by_cases q : a < sLoad k f h hold + pace
  · have e : sStep k f a h d hold pace (some (L, 0, 0, 0)) = none := by simp only [sStep]; rw [if_pos q]
    rw [e]; trivial
  · have hSR := sRest_ok (a := a) (t := sLoad k f h hold + pace) (by omega) (by omega) 6 L (by omega) (by omega) (by omega)
    obtain ⟨R, hR⟩ : ∃ R, R = sRest a (sLoad k f h hold + pace) 6 L := ⟨_, rfl⟩
    rw [← hR] at hSR
    obtain ⟨R1, R2⟩ := R
    dsimp only at hSR
    by_cases p : sLim k d < pace
    · have e9 : sStep k f a h d hold pace (some (L, 0, 0, 0)) = some (min (R1 - (sLoad k f h hold + pace) + 5) a, 0 + 15 * R2 + sTen k f hold pace + 40, 0 + 1, 0 + R2) := by
        simp only [sStep]
        rw [if_neg q, if_pos p, ← hR]
      rw [e9]
      show (0 ≤ min (R1 - (sLoad k f h hold + pace) + 5) a ∧ min (R1 - (sLoad k f h hold + pace) + 5) a ≤ a) ∧ (0 ≤ 0 + 15 * R2 + sTen k f hold pace + 40 ∧ 0 + 15 * R2 + sTen k f hold pace + 40 ≤ 200)
      omega
    · have e9 : sStep k f a h d hold pace (some (L, 0, 0, 0)) = some (R1 - (sLoad k f h hold + pace), 0 + 15 * R2 + sTen k f hold pace, 0, 0 + R2) := by
        simp only [sStep]
        rw [if_neg q, if_neg p, ← hR]
      rw [e9]
      show (0 ≤ R1 - (sLoad k f h hold + pace) ∧ R1 - (sLoad k f h hold + pace) ≤ a) ∧ (0 ≤ 0 + 15 * R2 + sTen k f hold pace ∧ 0 + 15 * R2 + sTen k f hold pace ≤ 200)
      omega
theorem T_gol_51 {y : Nat} {hold pace k f L : Int} {M : Mem} {K : Mem → Prop} (hk : KOK k f) (hb : BOK hold pace) (hy : y < 20) (hkd : M 53 y = k) (hfg : M 55 y = f) (hA : 0 ≤ M 41 0 ∧ M 41 0 ≤ 60) (hH : 0 ≤ M 41 1 ∧ M 41 1 ≤ 9) (hD : 0 ≤ M 41 2 ∧ M 41 2 ≤ 9) (hL : 0 ≤ L ∧ L ≤ M 41 0)
    (h : ∀ M', (∀ i, i ≠ 41 → M' i = M i) → M' 41 0 = M 41 0 → M' 41 1 = M 41 1 → M' 41 2 = M 41 2 → LG M' (sStep k f (M 41 0) (M 41 1) (M 41 2) hold pace (some (L, 0, 0, 0))) L → K M') : TV i8_goes 9 [vr 41, vr 51, vi (y : Int), vi hold, vi pace] (LC, g8_goesOnWith M 41 L) K := by
  obtain ⟨M1, hM1⟩ : ∃ M1, M1 = g8_goesOnWith M 41 L := ⟨_, rfl⟩
  rw [← hM1]
  have a0 : M1 41 0 = M 41 0 := by rw [hM1]; unfold g8_goesOnWith; simp [up]
  have a1 : M1 41 1 = M 41 1 := by rw [hM1]; unfold g8_goesOnWith; simp [up]
  have a2 : M1 41 2 = M 41 2 := by rw [hM1]; unfold g8_goesOnWith; simp [up]
  have a3 : M1 41 3 = L := by rw [hM1]; unfold g8_goesOnWith; simp [up]
  have a4 : M1 41 4 = 0 := by rw [hM1]; unfold g8_goesOnWith; simp [up]
  have a7 : M1 41 7 = 0 := by rw [hM1]; unfold g8_goesOnWith; simp [up]
  have af : ∀ i, i ≠ 41 → M1 i = M i := fun i hi => by rw [hM1]; unfold g8_goesOnWith; rw [up_fr hi, up_fr hi, up_fr hi]
  have e1 : rd M1 53 20 (y : Int) = k := by rw [rd_in (by omega) (by omega) (by omega), af 53 (by omega)]; exact hkd
  have e2 : rd M1 55 20 (y : Int) = f := by rw [rd_in (by omega) (by omega) (by omega), af 55 (by omega)]; exact hfg
  have hb0 := hb
  obtain ⟨⟨b1, b2⟩, b3, b4⟩ := hb
  have e3 := f4_load (h := M 41 1) (hold := hold) hk hH.1 hH.2 b1 b2
  have hLd := sLoad_le (h := M 41 1) (hold := hold) hk hH.1 hH.2 b1 b2
  have e4 := f4_ten hk hb0
  have hTn := sTen_le hk hb0
  have e5 : f4_limitOn k (M 41 2) = sLim k (M 41 2) := f4_lim hk.1.1 hk.1.2 hD.1 hD.2
  have hLm := sLim_le (k := k) hD.1 hD.2
  refine W8_goes_0_41_51 ?_
  rw [e1, e2, a1, e3, a7]
  obtain ⟨D, hDd⟩ : ∃ D, D = sLoad k f (M 41 1) hold := ⟨_, rfl⟩
  rw [← hDd] at hLd ⊢
  refine ⟨w2, fun _ => ⟨fun q => ?_, fun q => ?_⟩, fun q7 => absurd wr0 q7⟩
  · rw [a0, wlt (by omega) (by omega) (by omega) (by omega)] at q
    have e : sStep k f (M 41 0) (M 41 1) (M 41 2) hold pace (some (L, 0, 0, 0)) = none := by simp only [sStep]; rw [if_pos (by rw [← hDd]; exact q)]
    refine ⟨wb1, rfl, _, rfl, h _ (fun i hi => by rw [up_fr hi]; exact af i hi) (by rw [up_sl (by omega)]; exact a0) (by rw [up_sl (by omega)]; exact a1) (by rw [up_sl (by omega)]; exact a2) ?_⟩
    rw [e]
    exact ⟨up_eq, by rw [up_sl (by omega)]; exact a3⟩
  · rw [a0, wlt (by omega) (by omega) (by omega) (by omega)] at q
    have hSR := sRest_ok (a := M 41 0) (t := D + pace) (by omega) (by omega) 6 L (by omega) (by omega) (by omega)
    refine L_goes_41_51 (T := D + pace) (by omega) 6 0 M1 (by omega) (by omega) (by omega) (fun M' f1 f2 f3 f4 f6 => ?_) (by omega)
    have g0 := f2 0 (by omega) (by omega) (by omega)
    have g1 := f2 1 (by omega) (by omega) (by omega)
    have g2 := f2 2 (by omega) (by omega) (by omega)
    have g7 := f2 7 (by omega) (by omega) (by omega)
    rw [a0] at g0 f3 f4
    rw [a1] at g1
    rw [a2] at g2
    rw [a7] at g7
    rw [a3] at f3 f4
    rw [a4] at f4
    obtain ⟨R, hR⟩ : ∃ R, R = sRest (M 41 0) (D + pace) 6 L := ⟨_, rfl⟩
    rw [← hR] at f3 f4 hSR
    obtain ⟨R1, R2⟩ := R
    dsimp only at f3 f4 hSR
    refine ⟨fun p => ?_, fun p => ?_⟩
    · rw [g2, e5, wlt (by omega) (by omega) (by omega) (by omega)] at p
      rw [e4, mn_eq (by omega) (by omega) (by omega) (by omega)]
      refine ⟨rfl, _, rfl, h _ (fun i hi => ?_) (by simp [up]; exact g0) (by simp [up]; exact g1) (by simp [up]; exact g2) ?_⟩
      · rw [up_fr hi, up_fr hi, up_fr hi, up_fr hi, up_fr hi, f1 i hi]; exact af i hi
      · have e9 : sStep k f (M 41 0) (M 41 1) (M 41 2) hold pace (some (L, 0, 0, 0)) = some (min (R1 - (D + pace) + 5) (M 41 0), 0 + 15 * R2 + sTen k f hold pace + 40, 0 + 1, 0 + R2) := by
          simp only [sStep]
          rw [← hDd, if_neg q, if_pos p, ← hR]
        rw [e9]
        refine ⟨by simp [up]; exact g7, ?_, ?_⟩
        · rw [up_eq, f3, g0]
        · rw [up_sl (by omega), up_eq, f4]
    · rw [g2, e5, wlt (by omega) (by omega) (by omega) (by omega)] at p
      rw [e4]
      refine ⟨rfl, _, rfl, h _ (fun i hi => ?_) (by simp [up]; exact g0) (by simp [up]; exact g1) (by simp [up]; exact g2) ?_⟩
      · rw [up_fr hi, up_fr hi, f1 i hi]; exact af i hi
      · have e9 : sStep k f (M 41 0) (M 41 1) (M 41 2) hold pace (some (L, 0, 0, 0)) = some (R1 - (D + pace), 0 + 15 * R2 + sTen k f hold pace, 0, 0 + R2) := by
          simp only [sStep]
          rw [← hDd, if_neg q, if_neg p, ← hR]
        rw [e9]
        refine ⟨by simp [up]; exact g7, ?_, ?_⟩
        · rw [up_sl (by omega), up_eq, f3]
        · rw [up_eq, f4]
theorem T_gol_56 {y : Nat} {hold pace k f L : Int} {M : Mem} {K : Mem → Prop} (hk : KOK k f) (hb : BOK hold pace) (hy : y < 20) (hkd : M 58 y = k) (hfg : M 60 y = f) (hA : 0 ≤ M 41 0 ∧ M 41 0 ≤ 60) (hH : 0 ≤ M 41 1 ∧ M 41 1 ≤ 9) (hD : 0 ≤ M 41 2 ∧ M 41 2 ≤ 9) (hL : 0 ≤ L ∧ L ≤ M 41 0)
    (h : ∀ M', (∀ i, i ≠ 41 → M' i = M i) → M' 41 0 = M 41 0 → M' 41 1 = M 41 1 → M' 41 2 = M 41 2 → LG M' (sStep k f (M 41 0) (M 41 1) (M 41 2) hold pace (some (L, 0, 0, 0))) L → K M') : TV i8_goes 9 [vr 41, vr 56, vi (y : Int), vi hold, vi pace] (LC, g8_goesOnWith M 41 L) K := by
  obtain ⟨M1, hM1⟩ : ∃ M1, M1 = g8_goesOnWith M 41 L := ⟨_, rfl⟩
  rw [← hM1]
  have a0 : M1 41 0 = M 41 0 := by rw [hM1]; unfold g8_goesOnWith; simp [up]
  have a1 : M1 41 1 = M 41 1 := by rw [hM1]; unfold g8_goesOnWith; simp [up]
  have a2 : M1 41 2 = M 41 2 := by rw [hM1]; unfold g8_goesOnWith; simp [up]
  have a3 : M1 41 3 = L := by rw [hM1]; unfold g8_goesOnWith; simp [up]
  have a4 : M1 41 4 = 0 := by rw [hM1]; unfold g8_goesOnWith; simp [up]
  have a7 : M1 41 7 = 0 := by rw [hM1]; unfold g8_goesOnWith; simp [up]
  have af : ∀ i, i ≠ 41 → M1 i = M i := fun i hi => by rw [hM1]; unfold g8_goesOnWith; rw [up_fr hi, up_fr hi, up_fr hi]
  have e1 : rd M1 58 20 (y : Int) = k := by rw [rd_in (by omega) (by omega) (by omega), af 58 (by omega)]; exact hkd
  have e2 : rd M1 60 20 (y : Int) = f := by rw [rd_in (by omega) (by omega) (by omega), af 60 (by omega)]; exact hfg
  have hb0 := hb
  obtain ⟨⟨b1, b2⟩, b3, b4⟩ := hb
  have e3 := f4_load (h := M 41 1) (hold := hold) hk hH.1 hH.2 b1 b2
  have hLd := sLoad_le (h := M 41 1) (hold := hold) hk hH.1 hH.2 b1 b2
  have e4 := f4_ten hk hb0
  have hTn := sTen_le hk hb0
  have e5 : f4_limitOn k (M 41 2) = sLim k (M 41 2) := f4_lim hk.1.1 hk.1.2 hD.1 hD.2
  have hLm := sLim_le (k := k) hD.1 hD.2
  refine W8_goes_0_41_56 ?_
  rw [e1, e2, a1, e3, a7]
  obtain ⟨D, hDd⟩ : ∃ D, D = sLoad k f (M 41 1) hold := ⟨_, rfl⟩
  rw [← hDd] at hLd ⊢
  refine ⟨w2, fun _ => ⟨fun q => ?_, fun q => ?_⟩, fun q7 => absurd wr0 q7⟩
  · rw [a0, wlt (by omega) (by omega) (by omega) (by omega)] at q
    have e : sStep k f (M 41 0) (M 41 1) (M 41 2) hold pace (some (L, 0, 0, 0)) = none := by simp only [sStep]; rw [if_pos (by rw [← hDd]; exact q)]
    refine ⟨wb1, rfl, _, rfl, h _ (fun i hi => by rw [up_fr hi]; exact af i hi) (by rw [up_sl (by omega)]; exact a0) (by rw [up_sl (by omega)]; exact a1) (by rw [up_sl (by omega)]; exact a2) ?_⟩
    rw [e]
    exact ⟨up_eq, by rw [up_sl (by omega)]; exact a3⟩
  · rw [a0, wlt (by omega) (by omega) (by omega) (by omega)] at q
    have hSR := sRest_ok (a := M 41 0) (t := D + pace) (by omega) (by omega) 6 L (by omega) (by omega) (by omega)
    refine L_goes_41_56 (T := D + pace) (by omega) 6 0 M1 (by omega) (by omega) (by omega) (fun M' f1 f2 f3 f4 f6 => ?_) (by omega)
    have g0 := f2 0 (by omega) (by omega) (by omega)
    have g1 := f2 1 (by omega) (by omega) (by omega)
    have g2 := f2 2 (by omega) (by omega) (by omega)
    have g7 := f2 7 (by omega) (by omega) (by omega)
    rw [a0] at g0 f3 f4
    rw [a1] at g1
    rw [a2] at g2
    rw [a7] at g7
    rw [a3] at f3 f4
    rw [a4] at f4
    obtain ⟨R, hR⟩ : ∃ R, R = sRest (M 41 0) (D + pace) 6 L := ⟨_, rfl⟩
    rw [← hR] at f3 f4 hSR
    obtain ⟨R1, R2⟩ := R
    dsimp only at f3 f4 hSR
    refine ⟨fun p => ?_, fun p => ?_⟩
    · rw [g2, e5, wlt (by omega) (by omega) (by omega) (by omega)] at p
      rw [e4, mn_eq (by omega) (by omega) (by omega) (by omega)]
      refine ⟨rfl, _, rfl, h _ (fun i hi => ?_) (by simp [up]; exact g0) (by simp [up]; exact g1) (by simp [up]; exact g2) ?_⟩
      · rw [up_fr hi, up_fr hi, up_fr hi, up_fr hi, up_fr hi, f1 i hi]; exact af i hi
      · have e9 : sStep k f (M 41 0) (M 41 1) (M 41 2) hold pace (some (L, 0, 0, 0)) = some (min (R1 - (D + pace) + 5) (M 41 0), 0 + 15 * R2 + sTen k f hold pace + 40, 0 + 1, 0 + R2) := by
          simp only [sStep]
          rw [← hDd, if_neg q, if_pos p, ← hR]
        rw [e9]
        refine ⟨by simp [up]; exact g7, ?_, ?_⟩
        · rw [up_eq, f3, g0]
        · rw [up_sl (by omega), up_eq, f4]
    · rw [g2, e5, wlt (by omega) (by omega) (by omega) (by omega)] at p
      rw [e4]
      refine ⟨rfl, _, rfl, h _ (fun i hi => ?_) (by simp [up]; exact g0) (by simp [up]; exact g1) (by simp [up]; exact g2) ?_⟩
      · rw [up_fr hi, up_fr hi, f1 i hi]; exact af i hi
      · have e9 : sStep k f (M 41 0) (M 41 1) (M 41 2) hold pace (some (L, 0, 0, 0)) = some (R1 - (D + pace), 0 + 15 * R2 + sTen k f hold pace, 0, 0 + R2) := by
          simp only [sStep]
          rw [← hDd, if_neg q, if_neg p, ← hR]
        rw [e9]
        refine ⟨by simp [up]; exact g7, ?_, ?_⟩
        · rw [up_sl (by omega), up_eq, f3]
        · rw [up_eq, f4]
def lgv (s : RS) (X : Int → Int) : Int := match s with
  | none => 9999999
  | some (l, t, _, _) => adN t (X l)
def lft (s : RS) : Int := match s with
  | none => 0
  | some (l, _, _, _) => l
abbrev StF : Type := Nat → Nat → Int → RS
def StOK (st : StF) (n : Nat) (a : Int) : Prop := ∀ c y, c < 2 → y < n → ∀ L, 0 ≤ L → L ≤ a → LB (st c y L) a
def LF (st : StF) (n : Nat) : Nat → Nat → Int → Int
  | 0, _, _ => 0
  | k + 1, c, L => min (lgv (st c (n - (k + 1)) L) (LF st n k c)) (adN 6 (lgv (st (1 - c) (n - (k + 1)) L) (LF st n k (1 - c))))
abbrev lG (st : StF) (n y c : Nat) (L : Int) : Int := lgv (st c y L) (LF st n (n - (y + 1)) c)
theorem LF_s {st : StF} {n y c : Nat} (hy : y < n) {L : Int} : LF st n (n - y) c L = min (lG st n y c L) (adN 6 (lG st n y (1 - c) L)) := by
  rw [show n - y = (n - (y + 1)) + 1 by omega]
  show min (lgv (st c (n - ((n - (y + 1)) + 1)) L) (LF st n (n - (y + 1)) c)) (adN 6 (lgv (st (1 - c) (n - ((n - (y + 1)) + 1)) L) (LF st n (n - (y + 1)) (1 - c)))) = _
  rw [show n - ((n - (y + 1)) + 1) = y by omega]
theorem lgv_b {s : RS} {X : Int → Int} {a b : Int} (hs : LB s a) (hX : ∀ L, 0 ≤ L → L ≤ a → VB b (X L)) : VB (b + 200) (lgv s X) := by
  cases s with
  | none => exact Or.inr rfl
  | some z =>
    obtain ⟨l, t, u, r⟩ := z
    have h2 : (0 ≤ l ∧ l ≤ a) ∧ (0 ≤ t ∧ t ≤ 200) := hs
    exact VB_ad (hX l h2.1.1 h2.1.2) h2.2
theorem LF_b {st : StF} {n : Nat} {a : Int} (hst : StOK st n a) : ∀ (k : Nat), k ≤ n → ∀ c, c < 2 → ∀ L, 0 ≤ L → L ≤ a → VB (210 * (k : Int)) (LF st n k c L)
  | 0, _, _, _, L, _, _ => Or.inl (by show 0 ≤ (0 : Int) ∧ (0 : Int) ≤ 210 * ((0 : Nat) : Int); omega)
  | k + 1, hk, c, hc, L, h0, hL => by
    have i1 := lgv_b (hst c (n - (k + 1)) hc (by omega) L h0 hL) (fun L' a b => LF_b hst k (by omega) c hc L' a b)
    have i2 := lgv_b (hst (1 - c) (n - (k + 1)) (by omega) (by omega) L h0 hL) (fun L' a b => LF_b hst k (by omega) (1 - c) (by omega) L' a b)
    exact VB_min (VB.mono i1 (by omega)) (VB.mono (VB_ad (d := 6) i2 (by omega)) (by omega))
theorem lG_b {st : StF} {n : Nat} {a : Int} (hst : StOK st n a) {y c : Nat} (hy : y < n) (hc : c < 2) {L : Int} (h0 : 0 ≤ L) (hL : L ≤ a) : VB (210 * ((n - y : Nat) : Int)) (lG st n y c L) :=
  VB.mono (lgv_b (hst c y hc hy L h0 hL) (fun L' a b => LF_b hst (n - (y + 1)) (by omega) c hc L' a b)) (by omega)
/-- the lane that is gone in -/
def chL (st : StF) (n y c : Nat) (L : Int) : Nat := if adN 6 (lG st n y (1 - c) L) < lG st n y c L then 1 - c else c
def plL (st : StF) (n : Nat) (a : Int) (c0 : Nat) : Nat → Nat × Int
  | 0 => (c0, a)
  | y + 1 => (chL st n y (plL st n a c0 y).1 (plL st n a c0 y).2, lft (st (chL st n y (plL st n a c0 y).1 (plL st n a c0 y).2) y (plL st n a c0 y).2))
theorem ch_lt {st : StF} {n y c : Nat} (hc : c < 2) {L : Int} : chL st n y c L < 2 := by unfold chL; split <;> omega
theorem ch_fin {st : StF} {n y c : Nat} (hy : y < n) {a : Int} (hn : n ≤ 20) (hst : StOK st n a) (hc : c < 2) {L : Int} (h0 : 0 ≤ L) (hL : L ≤ a) (hf : LF st n (n - y) c L < 9999999) : ∃ l t u r, st (chL st n y c L) y L = some (l, t, u, r) ∧ (0 ≤ l ∧ l ≤ a) ∧ LF st n (n - (y + 1)) (chL st n y c L) l < 9999999 := by
  have hcc := ch_lt (st := st) (n := n) (y := y) hc (L := L)
  have hb := hst _ y hcc hy L h0 hL
  have b1 := lG_b hst hy hc h0 hL
  have b2 := lG_b hst hy (show 1 - c < 2 by omega) h0 hL
  have g : lG st n y (chL st n y c L) L < 9999999 := by
    rw [LF_s hy] at hf
    unfold VB at b1 b2
    unfold chL
    by_cases q : adN 6 (lG st n y (1 - c) L) < lG st n y c L
    · rw [if_pos q]
      by_cases e : lG st n y (1 - c) L = 9999999
      · rw [e, adN_n] at q; omega
      · omega
    · rw [if_neg q]; omega
  revert g hb
  show LB (st (chL st n y c L) y L) a → lgv (st (chL st n y c L) y L) (LF st n (n - (y + 1)) (chL st n y c L)) < 9999999 → _
  cases st (chL st n y c L) y L with
  | none => exact fun _ g => absurd g (by show ¬ (9999999 : Int) < 9999999; omega)
  | some z =>
    obtain ⟨l, t, u, r⟩ := z
    intro hb g
    have h2 : (0 ≤ l ∧ l ≤ a) ∧ (0 ≤ t ∧ t ≤ 200) := hb
    refine ⟨l, t, u, r, rfl, h2.1, ?_⟩
    have g' : adN t (LF st n (n - (y + 1)) (chL st n y c L) l) < 9999999 := g
    have b3 := LF_b hst (n - (y + 1)) (by omega) _ hcc l h2.1.1 h2.1.2
    by_cases e : LF st n (n - (y + 1)) (chL st n y c L) l = 9999999
    · rw [e, adN_n] at g'; omega
    · have := b3.le (by omega); omega
theorem pl_ok {st : StF} {n : Nat} {a : Int} (hn : n ≤ 20) (ha : 0 ≤ a) (hst : StOK st n a) {c0 : Nat} (hc : c0 < 2) (hf : LF st n n c0 a < 9999999) : ∀ y, y ≤ n → (plL st n a c0 y).1 < 2 ∧ (0 ≤ (plL st n a c0 y).2 ∧ (plL st n a c0 y).2 ≤ a) ∧ LF st n (n - y) (plL st n a c0 y).1 (plL st n a c0 y).2 < 9999999
  | 0, _ => ⟨hc, ⟨ha, Int.le_refl _⟩, hf⟩
  | y + 1, h => by
    obtain ⟨h1, h2, h3⟩ := pl_ok hn ha hst hc hf y (by omega)
    obtain ⟨l, t, u, r, e, hl, hf'⟩ := ch_fin (show y < n by omega) hn hst h1 h2.1 h2.2 h3
    have e2 : (plL st n a c0 (y + 1)).2 = l := by
      show lft (st (chL st n y (plL st n a c0 y).1 (plL st n a c0 y).2) y (plL st n a c0 y).2) = l
      rw [e]; rfl
    refine ⟨ch_lt h1, by rw [e2]; exact hl, ?_⟩
    rw [e2]; exact hf'
def lst (F : FS) (p : Nat) (hold pace : Int) : StF := fun c y L => sStep (lk F c y) (lf F c y) (ar F p) (hv F p) (hd F p) hold pace (some (L, 0, 0, 0))
theorem lst_ok {F : FS} (hF : FOK F) {p : Nat} (hp : p < 6) {hold pace : Int} (hb : BOK hold pace) : StOK (lst F p hold pace) (yd F).toNat (ar F p) := by
  have hy := hF.1
  obtain ⟨pa, ph, pd⟩ := hF.P hp
  exact fun c y hc hy' L h0 hL => stepL_ok (hF.K hc (by omega)) hb pa ph ⟨h0, hL⟩
/-- the class -/
def WL (F : FS) (p : Nat) (M0 M : Mem) : Prop := (∀ i, i ≠ 41 → i ≠ 62 → M i = M0 i) ∧ M 41 0 = ar F p ∧ M 41 1 = hv F p ∧ M 41 2 = hd F p ∧ CO M0 51 (yd F).toNat (lk F 0) (lf F 0) ∧ CO M0 56 (yd F).toNat (lk F 1) (lf F 1)
def W62 (st : StF) (a : Int) (n y0 : Nat) (M : Mem) : Prop := ∀ y, y0 ≤ y → y < n → ∀ c, c < 2 → ∀ L : Nat, (L : Int) ≤ a → M 62 (61 * (2 * y + c) + L) = nC (lG st n y c (L : Int))
theorem T_sfC {F : FS} (hF : FOK F) {p : Nat} (hp : p < 6) {hold pace : Int} (hb : BOK hold pace) {M0 M : Mem} (hI : WL F p M0 M) {y c L : Nat} (hy : y ≤ (yd F).toNat) (hc : c < 2) (hL : (L : Int) ≤ ar F p) (hW : W62 (lst F p hold pace) (ar F p) (yd F).toNat y M) : f5_soonestFrom M 50 (y : Int) (c : Int) (L : Int) = nC (LF (lst F p hold pace) (yd F).toNat ((yd F).toNat - y) c (L : Int)) := by
  have hyd := hF.1
  obtain ⟨pa, ph, pd⟩ := hF.P hp
  have hst := lst_ok hF hp hb
  show (if wr (y : Int) < wr (M 51 0) then mn (rd M 62 2440 (f5_placeOf (y : Int) (c : Int) (L : Int))) (6 + (rd M 62 2440 (f5_placeOf (y : Int) (1 - (c : Int)) (L : Int)))) else 0) = _
  rw [hI.1 51 (by omega) (by omega), hI.2.2.2.2.1.1, wr_id (by omega) (by omega), wr_id (by omega) (by omega)]
  by_cases g : (y : Int) < (((yd F).toNat : Nat) : Int)
  · have hy' : y < (yd F).toNat := by omega
    rw [if_pos g]
    have b1 := nC_rel (lG_b hst hy' hc (show 0 ≤ (L : Int) by omega) hL) (by omega)
    have b2 := nC_rel (lG_b hst hy' (show 1 - c < 2 by omega) (show 0 ≤ (L : Int) by omega) hL) (by omega)
    have e1 : rd M 62 2440 (f5_placeOf (y : Int) (c : Int) (L : Int)) = nC (lG (lst F p hold pace) (yd F).toNat y c (L : Int)) := by
      show rd M 62 2440 (61 * (2 * (y : Int) + (c : Int)) + (L : Int)) = _
      rw [rd_in (by omega) (by omega) (by omega), show (61 * (2 * (y : Int) + (c : Int)) + (L : Int)).toNat = 61 * (2 * y + c) + L by omega]
      exact hW y (Nat.le_refl _) hy' c hc L hL
    have e2 : rd M 62 2440 (f5_placeOf (y : Int) (1 - (c : Int)) (L : Int)) = nC (lG (lst F p hold pace) (yd F).toNat y (1 - c) (L : Int)) := by
      show rd M 62 2440 (61 * (2 * (y : Int) + (1 - (c : Int))) + (L : Int)) = _
      rw [rd_in (by omega) (by omega) (by omega), show (61 * (2 * (y : Int) + (1 - (c : Int))) + (L : Int)).toNat = 61 * (2 * y + (1 - c)) + L by omega]
      exact hW y (Nat.le_refl _) hy' (1 - c) (by omega) L hL
    rw [e1, e2, LF_s hy']
    obtain ⟨u, hu⟩ : ∃ u, u = lG (lst F p hold pace) (yd F).toNat y c (L : Int) := ⟨_, rfl⟩
    obtain ⟨v, hv'⟩ : ∃ v, v = lG (lst F p hold pace) (yd F).toNat y (1 - c) (L : Int) := ⟨_, rfl⟩
    rw [← hu] at b1
    rw [← hv'] at b2
    rw [← hu, ← hv', mn_eq (by omega) (by omega) (by omega) (by omega)]
    rcases b2 with ⟨v1, v2, v3⟩ | ⟨v1, v2⟩
    · rw [adN_f (by omega), v3]
      rcases b1 with ⟨u1, u2, u3⟩ | ⟨u1, u2⟩
      · rw [u3, nC_f (by omega)]
      · rw [u2, nC_f (by omega)]; omega
    · rw [v2, v1, adN_n]
      rcases b1 with ⟨u1, u2, u3⟩ | ⟨u1, u2⟩
      · rw [u3, show min u 9999999 = u by omega, u3]; omega
      · rw [u1]; decide
  · rw [if_neg g, show (yd F).toNat - y = 0 by omega]; rfl
theorem T_gi {F : FS} (hF : FOK F) {p : Nat} (hp : p < 6) {hold pace : Int} (hb : BOK hold pace) {M0 M : Mem} (hI : WL F p M0 M) {y c L : Nat} (hy : y < (yd F).toNat) (hc : c < 2) (hL : (L : Int) ≤ ar F p) (hW : W62 (lst F p hold pace) (ar F p) (yd F).toNat (y + 1) M) {K : Int → Mem → Prop}
    (hK : ∀ M', WL F p M0 M' → M' 62 = M 62 → K (nC (lG (lst F p hold pace) (yd F).toNat y c (L : Int))) M') : TI i5_goingIn 7 [vr 50, vi (c : Int), vr 41, vi (y : Int), vi (L : Int), vi hold, vi pace] (LC, M) K := by
  have hyd := hF.1
  obtain ⟨pa, ph, pd⟩ := hF.P hp
  have hst := lst_ok hF hp hb
  have hI0 := hI
  obtain ⟨hf, w0, w1, w2', ⟨c0, c1, c2⟩, ⟨d0, d1, d2⟩⟩ := hI
  have en : ((y + 1 : Nat) : Int) = (y : Int) + 1 := by omega
  have fin : ∀ M', (∀ i, i ≠ 41 → M' i = M i) → M' 41 0 = ar F p → M' 41 1 = hv F p → M' 41 2 = hd F p → LG M' (lst F p hold pace c y (L : Int)) (L : Int) → K (mn ((f8_time M' 41) + (f5_soonestFrom M' 50 ((y : Int) + 1) (c : Int) (M' 41 3))) 10000000) M' := by
    intro M' f0 g0 g1 g2 hg
    have hI' : WL F p M0 M' := ⟨fun i a b => by rw [f0 i a]; exact hf i a b, g0, g1, g2, hI0.2.2.2.2⟩
    have hW' : W62 (lst F p hold pace) (ar F p) (yd F).toNat (y + 1) M' := fun y h1 h2 c h3 L h4 => by rw [f0 62 (by omega)]; exact hW y h1 h2 c h3 L h4
    have key : mn ((f8_time M' 41) + (f5_soonestFrom M' 50 ((y : Int) + 1) (c : Int) (M' 41 3))) 10000000 = nC (lG (lst F p hold pace) (yd F).toNat y c (L : Int)) := by
      have hb' := hst c y hc hy (L : Int) (by omega) hL
      show mn ((if wr (M' 41 7) = 0 then M' 41 4 else 10000000) + (f5_soonestFrom M' 50 ((y : Int) + 1) (c : Int) (M' 41 3))) 10000000 = nC (lgv (lst F p hold pace c y (L : Int)) (LF (lst F p hold pace) (yd F).toNat ((yd F).toNat - (y + 1)) c))
      revert hg hb'
      cases lst F p hold pace c y (L : Int) with
      | none =>
        intro hg _
        obtain ⟨h7, h3⟩ : M' 41 7 = 1 ∧ M' 41 3 = (L : Int) := hg
        rw [h7, h3, if_neg (by decide), ← en, T_sfC hF hp hb hI' (by omega) hc hL hW']
        have b := nC_rel (LF_b hst ((yd F).toNat - (y + 1)) (by omega) c hc (L : Int) (by omega) hL) (by omega)
        rw [mn_eq (by omega) (by omega) (by omega) (by omega)]
        show _ = (10000000 : Int)
        omega
      | some z =>
        obtain ⟨l, t, u, r⟩ := z
        intro hg hb'
        obtain ⟨h7, h3, h4⟩ : M' 41 7 = 0 ∧ M' 41 3 = l ∧ M' 41 4 = t := hg
        have hb2 : (0 ≤ l ∧ l ≤ ar F p) ∧ (0 ≤ t ∧ t ≤ 200) := hb'
        obtain ⟨l', rfl⟩ : ∃ l' : Nat, l = (l' : Int) := ⟨l.toNat, by omega⟩
        rw [h7, h3, h4, if_pos wr0, ← en, T_sfC hF hp hb hI' (by omega) hc hb2.1.2 hW']
        have b := nC_rel (LF_b hst ((yd F).toNat - (y + 1)) (by omega) c hc (l' : Int) (by omega) hb2.1.2) (by omega)
        show _ = nC (adN t (LF (lst F p hold pace) (yd F).toNat ((yd F).toNat - (y + 1)) c (l' : Int)))
        rw [mn_eq (by omega) (by omega) (by omega) (by omega)]
        rcases b with ⟨v1, v2, v3⟩ | ⟨v1, v2⟩
        · rw [adN_f (by omega), v3, nC_f (v := t + _) (by omega)]; omega
        · rw [v2, v1, adN_n, nC_n]; omega
    rw [key]
    exact hK M' hI' (f0 62 (by omega))
  have hcc : c = 0 ∨ c = 1 := by omega
  refine W5_goingIn_0_50_41 ⟨wb0, fun z => ?_, fun z => ?_⟩
  · have e : c = 0 := by rw [wr_id (by omega) (by omega)] at z; omega
    subst e
    obtain ⟨k1, k2, k3⟩ := c2 y hy
    refine T_gol_51 k3 hb (by omega) (by rw [hf 53 (by omega) (by omega)]; exact k1) (by rw [hf 55 (by omega) (by omega)]; exact k2) (by omega) (by omega) (by omega) (by omega) (fun M' f0 g0 g1 g2 hg => ⟨_, M', rfl, rfl, ?_⟩)
    rw [w0, w1, w2'] at hg
    exact fin M' f0 (by rw [g0]; exact w0) (by rw [g1]; exact w1) (by rw [g2]; exact w2') hg
  · have e : c = 1 := by rw [wr_id (by omega) (by omega)] at z; omega
    subst e
    obtain ⟨k1, k2, k3⟩ := d2 y hy
    refine T_gol_56 k3 hb (by omega) (by rw [hf 58 (by omega) (by omega)]; exact k1) (by rw [hf 60 (by omega) (by omega)]; exact k2) (by omega) (by omega) (by omega) (by omega) (fun M' f0 g0 g1 g2 hg => ⟨_, M', rfl, rfl, ?_⟩)
    rw [w0, w1, w2'] at hg
    exact fin M' f0 (by rw [g0]; exact w0) (by rw [g1]; exact w1) (by rw [g2]; exact w2') hg
theorem L_lsI {F : FS} (hF : FOK F) {p : Nat} (hp : p < 6) {hold pace : Int} (hb : BOK hold pace) {M0 : Mem} {y : Nat} (hy : y < (yd F).toNat) {Post : Option AV → GM → Prop}
    (hN : ∀ M', WL F p M0 M' → W62 (lst F p hold pace) (ar F p) (yd F).toNat y M' → TA i5_searches 26 [some (vr 50), some (vr 1), some (vr 41), some (vi hold), some (vi pace), some (vi ((y : Int) + -1)), none] [] (LC, M') Post) : ∀ (k L : Nat) (M : Mem), (L : Int) + (k : Int) = ar F p + 1 → WL F p M0 M → W62 (lst F p hold pace) (ar F p) (yd F).toNat (y + 1) M → (∀ L' : Nat, L' < L → ∀ c, c < 2 → M 62 (61 * (2 * y + c) + L') = nC (lG (lst F p hold pace) (yd F).toNat y c (L' : Int))) →
    TA i5_searches 34 [some (vr 50), some (vr 1), some (vr 41), some (vi hold), some (vi pace), some (vi (y : Int)), some (vi (L : Int))] [] (LC, M) Post
  | 0, L, M, hk, hI, hW, hS => by
    have hyd := hF.1
    obtain ⟨pa, ph, pd⟩ := hF.P hp
    refine W5_searches_34_50_1_41 ⟨fun _ => hN M hI (fun y' h1 h2 c hc L' h3 => ?_), fun z => ?_⟩
    · by_cases e : y' = y
      · rw [e]; exact hS L' (by omega) c hc
      · exact hW y' (by omega) h2 c hc L' h3
    · rw [hI.2.1, wlt (by omega) (by omega) (by omega) (by omega)] at z; omega
  | k + 1, L, M, hk, hI, hW, hS => by
    have hyd := hF.1
    obtain ⟨pa, ph, pd⟩ := hF.P hp
    have hL : (L : Int) ≤ ar F p := by omega
    have wup : ∀ {M' : Mem} {j : Nat} {v : Int}, WL F p M0 M' → WL F p M0 (up M' 62 j v) := fun ⟨a1, a2, a3, a4, a5⟩ => ⟨fun i h1 h2 => by rw [up_fr h2]; exact a1 i h1 h2, by rw [up_fr (by omega)]; exact a2, by rw [up_fr (by omega)]; exact a3, by rw [up_fr (by omega)]; exact a4, a5⟩
    refine W5_searches_34_50_1_41 ⟨fun z => ?_, fun _ => ?_⟩
    · rw [hI.2.1, wlt (by omega) (by omega) (by omega) (by omega)] at z; omega
    · refine T_gi (c := 0) hF hp hb hI hy (by omega) hL hW (fun M1 hI1 f1 => ?_)
      have p0 : f5_placeOf (y : Int) 0 (L : Int) = ((61 * (2 * y + 0) + L : Nat) : Int) := by show 61 * (2 * (y : Int) + 0) + (L : Int) = _; omega
      have p1 : f5_placeOf (y : Int) 1 (L : Int) = ((61 * (2 * y + 1) + L : Nat) : Int) := by show 61 * (2 * (y : Int) + 1) + (L : Int) = _; omega
      rw [p0, p1, wt_in (by omega) (by omega) (by omega), show (((61 * (2 * y + 0) + L : Nat)) : Int).toNat = 61 * (2 * y + 0) + L by omega]
      have hW1 : W62 (lst F p hold pace) (ar F p) (yd F).toNat (y + 1) (up M1 62 (61 * (2 * y + 0) + L) (nC (lG (lst F p hold pace) (yd F).toNat y 0 (L : Int)))) := fun y' h1 h2 c h3 L' h4 => by rw [up_sl (by omega), f1]; exact hW y' h1 h2 c h3 L' h4
      refine T_gi (c := 1) hF hp hb (wup hI1) hy (by omega) hL hW1 (fun M2 hI2 f2 => ?_)
      rw [wt_in (by omega) (by omega) (by omega), show (((61 * (2 * y + 1) + L : Nat)) : Int).toNat = 61 * (2 * y + 1) + L by omega]
      have ih := L_lsI hF hp hb hy hN k (L + 1) (up M2 62 (61 * (2 * y + 1) + L) (nC (lG (lst F p hold pace) (yd F).toNat y 1 (L : Int)))) (by omega) (wup hI2) (fun y' h1 h2 c h3 L' h4 => by rw [up_sl (by omega), f2]; exact hW1 y' h1 h2 c h3 L' h4) (fun L' h1 c hc => by
        by_cases e : L' = L
        · subst e
          have hcc : c = 0 ∨ c = 1 := by omega
          rcases hcc with rfl | rfl
          · rw [up_sl (by omega), f2, up_eq]
          · rw [up_eq]
        · rw [up_sl (by omega), f2, up_sl (by omega), f1]; exact hS L' (by omega) c hc)
      rw [show (((L + 1 : Nat)) : Int) = (L : Int) + 1 by omega] at ih
      exact ih
theorem L_ls {F : FS} (hF : FOK F) {p : Nat} (hp : p < 6) {hold pace : Int} (hb : BOK hold pace) {M0 : Mem} (h11 : M0 1 1 = ln F) {K : Int → Mem → Prop}
    (hK : ∀ M', WL F p M0 M' → W62 (lst F p hold pace) (ar F p) (yd F).toNat 0 M' → K (nC (LF (lst F p hold pace) (yd F).toNat (yd F).toNat (ln F).toNat (ar F p))) M') : ∀ (k : Nat) (M : Mem), k ≤ (yd F).toNat → WL F p M0 M → W62 (lst F p hold pace) (ar F p) (yd F).toNat k M →
    TA i5_searches 26 [some (vr 50), some (vr 1), some (vr 41), some (vi hold), some (vi pace), some (vi ((k : Int) - 1)), none] [] (LC, M) (fun rv G' => ∃ r M', rv = some (vi r) ∧ G' = (LC, M') ∧ K r M')
  | 0, M, hk, hI, hW => by
    have hyd := hF.1
    have hl := hF.2.1
    obtain ⟨pa, ph, pd⟩ := hF.P hp
    refine W5_searches_26_50_1_41 ⟨fun _ => ⟨_, M, rfl, rfl, ?_⟩, fun z => absurd (by decide) z⟩
    obtain ⟨A, hA⟩ : ∃ A : Nat, ar F p = (A : Int) := ⟨(ar F p).toNat, by omega⟩
    have e := T_sfC hF hp hb hI (y := 0) (c := (ln F).toNat) (L := A) (by omega) (by omega) (by omega) hW
    have e0 : ((0 : Nat) : Int) = 0 := rfl
    rw [e0, show (((ln F).toNat : Nat) : Int) = ln F by omega, ← hA, Nat.sub_zero] at e
    rw [hI.1 1 (by omega) (by omega), h11, hI.2.1, e]
    exact hK M hI hW
  | k + 1, M, hk, hI, hW => by
    have hyd := hF.1
    obtain ⟨pa, ph, pd⟩ := hF.P hp
    obtain ⟨A, hA⟩ : ∃ A : Nat, ar F p = (A : Int) := ⟨(ar F p).toNat, by omega⟩
    rw [show (((k + 1 : Nat)) : Int) - 1 = (k : Int) by omega]
    refine W5_searches_26_50_1_41 ⟨fun z => ?_, fun _ => ?_⟩
    · rw [wr_id (by omega) (by omega)] at z; omega
    · refine L_lsI hF hp hb (show k < (yd F).toNat by omega) (fun M' hI' hW' => ?_) (A + 1) 0 M (by omega) hI hW (fun L' h => absurd h (Nat.not_lt_zero _))
      have := L_ls hF hp hb h11 hK k M' (by omega) hI' hW'
      rw [show (k : Int) - 1 = (k : Int) + -1 by omega] at this
      exact this
/-- the way, up to a yard -/
theorem L_lo {F : FS} (hF : FOK F) {p : Nat} (hp : p < 6) {hold pace : Int} (hb : BOK hold pace) {M0 : Mem} {yy : Nat} (hyy : yy < (yd F).toNat) (hf : LF (lst F p hold pace) (yd F).toNat (yd F).toNat (ln F).toNat (ar F p) < 9999999) {K : Int → Mem → Prop}
    (hK : ∀ M', WL F p M0 M' → K (((plL (lst F p hold pace) (yd F).toNat (ar F p) (ln F).toNat (yy + 1)).1 : Nat) : Int) M') : ∀ (k y : Nat) (M : Mem), y + k = yy + 1 → WL F p M0 M → W62 (lst F p hold pace) (ar F p) (yd F).toNat 0 M →
    TA i5_laneOn 12 [some (vr 50), some (vi (yy : Int)), none, some (vr 41), some (vi hold), some (vi pace), some (vi (((plL (lst F p hold pace) (yd F).toNat (ar F p) (ln F).toNat y).1 : Nat) : Int)), some (vi (plL (lst F p hold pace) (yd F).toNat (ar F p) (ln F).toNat y).2), some (vi (y : Int)), none] [] (LC, M) (fun rv G' => ∃ r M', rv = some (vi r) ∧ G' = (LC, M') ∧ K r M')
  | 0, y, M, hk, hI, hW => by
    have hyd := hF.1
    have e : y = yy + 1 := by omega
    subst e
    refine W5_laneOn_12_50_41 ⟨fun _ => ⟨_, M, rfl, rfl, hK M hI⟩, fun z => ?_⟩
    rw [wlt (by omega) (by omega) (by omega) (by omega)] at z; omega
  | k + 1, y, M, hk, hI, hW => by
    have hyd := hF.1
    have hl := hF.2.1
    have hy : y < (yd F).toNat := by omega
    obtain ⟨pa, ph, pd⟩ := hF.P hp
    have hst := lst_ok hF hp hb
    obtain ⟨h1, h2, h3⟩ := pl_ok (show (yd F).toNat ≤ 20 by omega) pa.1 hst (show (ln F).toNat < 2 by omega) hf y (by omega)
    obtain ⟨l, t, u, r, es, hl', -⟩ := ch_fin hy (by omega) hst h1 h2.1 h2.2 h3
    have ep1 : (plL (lst F p hold pace) (yd F).toNat (ar F p) (ln F).toNat (y + 1)).1 = chL (lst F p hold pace) (yd F).toNat y (plL (lst F p hold pace) (yd F).toNat (ar F p) (ln F).toNat y).1 (plL (lst F p hold pace) (yd F).toNat (ar F p) (ln F).toNat y).2 := rfl
    have ep2 : (plL (lst F p hold pace) (yd F).toNat (ar F p) (ln F).toNat (y + 1)).2 = l := by
      show lft (lst F p hold pace (chL (lst F p hold pace) (yd F).toNat y (plL (lst F p hold pace) (yd F).toNat (ar F p) (ln F).toNat y).1 (plL (lst F p hold pace) (yd F).toNat (ar F p) (ln F).toNat y).2) y (plL (lst F p hold pace) (yd F).toNat (ar F p) (ln F).toNat y).2) = l
      rw [es]; rfl
    have ih : ∀ M' : Mem, WL F p M0 M' → M' 62 = M 62 → M' 41 3 = l → TA i5_laneOn 12 [some (vr 50), some (vi (yy : Int)), none, some (vr 41), some (vi hold), some (vi pace), some (vi ((chL (lst F p hold pace) (yd F).toNat y (plL (lst F p hold pace) (yd F).toNat (ar F p) (ln F).toNat y).1 (plL (lst F p hold pace) (yd F).toNat (ar F p) (ln F).toNat y).2 : Nat) : Int)), some (vi (M' 41 3)), some (vi ((y : Int) + 1)), none] [] (LC, M') (fun rv G' => ∃ r M', rv = some (vi r) ∧ G' = (LC, M') ∧ K r M') := by
      intro M' hI' f62 h3'
      have := L_lo hF hp hb hyy hf hK k (y + 1) M' (by omega) hI' (fun y h1 h2 c h3 L h4 => by rw [f62]; exact hW y h1 h2 c h3 L h4)
      rw [ep1, ep2, show (((y + 1 : Nat)) : Int) = (y : Int) + 1 by omega] at this
      rw [h3']; exact this
    obtain ⟨c, hc⟩ : ∃ c, c = (plL (lst F p hold pace) (yd F).toNat (ar F p) (ln F).toNat y).1 := ⟨_, rfl⟩
    obtain ⟨L, hL⟩ : ∃ L : Nat, (plL (lst F p hold pace) (yd F).toNat (ar F p) (ln F).toNat y).2 = (L : Int) := ⟨(plL (lst F p hold pace) (yd F).toNat (ar F p) (ln F).toNat y).2.toNat, by omega⟩
    rw [← hc] at h1 es ih ⊢
    rw [hL] at h2 es ih ⊢
    obtain ⟨hf0, w0, w1, w2', ⟨c0, c1, c2⟩, ⟨d0, d1, d2⟩⟩ := hI
    have hI : WL F p M0 M := ⟨hf0, w0, w1, w2', ⟨c0, c1, c2⟩, ⟨d0, d1, d2⟩⟩
    have go0 : ∀ e : chL (lst F p hold pace) (yd F).toNat y c (L : Int) = 0, TV i8_goes 9 [vr 41, vr 51, vi (y : Int), vi hold, vi pace] (LC, g8_goesOnWith M 41 (L : Int)) (fun M1 => TA i5_laneOn 12 [some (vr 50), some (vi (yy : Int)), none, some (vr 41), some (vi hold), some (vi pace), some (vi ((chL (lst F p hold pace) (yd F).toNat y c (L : Int) : Nat) : Int)), some (vi (M1 41 3)), some (vi ((y : Int) + 1)), none] [] (LC, M1) (fun rv G' => ∃ r M', rv = some (vi r) ∧ G' = (LC, M') ∧ K r M')) := by
      intro e
      obtain ⟨k1, k2, k3⟩ := c2 y hy
      refine T_gol_51 k3 hb (by omega) (by rw [hf0 53 (by omega) (by omega)]; exact k1) (by rw [hf0 55 (by omega) (by omega)]; exact k2) (by omega) (by omega) (by omega) (by omega) (fun M' f0 g0 g1 g2 hg => ?_)
      rw [w0, w1, w2'] at hg
      rw [e] at es
      have hg' : LG M' (lst F p hold pace 0 y (L : Int)) (L : Int) := hg
      rw [es] at hg'
      exact ih M' ⟨fun i a b => by rw [f0 i a]; exact hf0 i a b, by rw [g0]; exact w0, by rw [g1]; exact w1, by rw [g2]; exact w2', hI.2.2.2.2⟩ (f0 62 (by omega)) hg'.2.1
    have go1 : ∀ e : chL (lst F p hold pace) (yd F).toNat y c (L : Int) = 1, TV i8_goes 9 [vr 41, vr 56, vi (y : Int), vi hold, vi pace] (LC, g8_goesOnWith M 41 (L : Int)) (fun M1 => TA i5_laneOn 12 [some (vr 50), some (vi (yy : Int)), none, some (vr 41), some (vi hold), some (vi pace), some (vi ((chL (lst F p hold pace) (yd F).toNat y c (L : Int) : Nat) : Int)), some (vi (M1 41 3)), some (vi ((y : Int) + 1)), none] [] (LC, M1) (fun rv G' => ∃ r M', rv = some (vi r) ∧ G' = (LC, M') ∧ K r M')) := by
      intro e
      obtain ⟨k1, k2, k3⟩ := d2 y hy
      refine T_gol_56 k3 hb (by omega) (by rw [hf0 58 (by omega) (by omega)]; exact k1) (by rw [hf0 60 (by omega) (by omega)]; exact k2) (by omega) (by omega) (by omega) (by omega) (fun M' f0 g0 g1 g2 hg => ?_)
      rw [w0, w1, w2'] at hg
      rw [e] at es
      have hg' : LG M' (lst F p hold pace 1 y (L : Int)) (L : Int) := hg
      rw [es] at hg'
      exact ih M' ⟨fun i a b => by rw [f0 i a]; exact hf0 i a b, by rw [g0]; exact w0, by rw [g1]; exact w1, by rw [g2]; exact w2', hI.2.2.2.2⟩ (f0 62 (by omega)) hg'.2.1
    have b1 := nC_rel (lG_b hst hy h1 (show 0 ≤ (L : Int) by omega) h2.2) (by omega)
    have b2 := nC_rel (lG_b hst hy (show 1 - c < 2 by omega) (show 0 ≤ (L : Int) by omega) h2.2) (by omega)
    have e1 : rd M 62 2440 (f5_placeOf (y : Int) (c : Int) (L : Int)) = nC (lG (lst F p hold pace) (yd F).toNat y c (L : Int)) := by
      show rd M 62 2440 (61 * (2 * (y : Int) + (c : Int)) + (L : Int)) = _
      rw [rd_in (by omega) (by omega) (by omega), show (61 * (2 * (y : Int) + (c : Int)) + (L : Int)).toNat = 61 * (2 * y + c) + L by omega]
      exact hW y (Nat.zero_le _) hy c h1 L h2.2
    have e2 : rd M 62 2440 (f5_placeOf (y : Int) (1 - (c : Int)) (L : Int)) = nC (lG (lst F p hold pace) (yd F).toNat y (1 - c) (L : Int)) := by
      show rd M 62 2440 (61 * (2 * (y : Int) + (1 - (c : Int))) + (L : Int)) = _
      rw [rd_in (by omega) (by omega) (by omega), show (61 * (2 * (y : Int) + (1 - (c : Int))) + (L : Int)).toNat = 61 * (2 * y + (1 - c)) + L by omega]
      exact hW y (Nat.zero_le _) hy (1 - c) (by omega) L h2.2
    refine W5_laneOn_12_50_41 ⟨fun z => ?_, fun _ => ?_⟩
    · rw [wlt (by omega) (by omega) (by omega) (by omega)] at z; omega
    · rw [e1, e2]
      have eq : (wr (6 + nC (lG (lst F p hold pace) (yd F).toNat y (1 - c) (L : Int))) < wr (nC (lG (lst F p hold pace) (yd F).toNat y c (L : Int)))) ↔ adN 6 (lG (lst F p hold pace) (yd F).toNat y (1 - c) (L : Int)) < lG (lst F p hold pace) (yd F).toNat y c (L : Int) := by
        obtain ⟨u, hu⟩ : ∃ u, u = lG (lst F p hold pace) (yd F).toNat y c (L : Int) := ⟨_, rfl⟩
        obtain ⟨v, hv'⟩ : ∃ v, v = lG (lst F p hold pace) (yd F).toNat y (1 - c) (L : Int) := ⟨_, rfl⟩
        rw [← hu] at b1
        rw [← hv'] at b2
        rw [← hu, ← hv', wlt (by omega) (by omega) (by omega) (by omega)]
        by_cases e : v = 9999999
        · rw [e, adN_n, nC_n]; omega
        · rw [adN_f e]; omega
      rw [eq]
      refine ⟨fun g => ⟨wb0, fun z => ?_, fun z => ?_⟩, fun g => ⟨wb0, fun z => ?_, fun z => ?_⟩⟩
      · rw [wr_id (by omega) (by omega)] at z
        have ec : chL (lst F p hold pace) (yd F).toNat y c (L : Int) = 1 - c := if_pos g
        have := go0 (by omega)
        rw [ec, show (((1 - c : Nat)) : Int) = 1 - (c : Int) by omega] at this
        exact this
      · rw [wr_id (by omega) (by omega)] at z
        have ec : chL (lst F p hold pace) (yd F).toNat y c (L : Int) = 1 - c := if_pos g
        have := go1 (by omega)
        rw [ec, show (((1 - c : Nat)) : Int) = 1 - (c : Int) by omega] at this
        exact this
      · rw [wr_id (by omega) (by omega)] at z
        have ec : chL (lst F p hold pace) (yd F).toNat y c (L : Int) = c := if_neg g
        have := go0 (by omega)
        rw [ec] at this
        exact this
      · rw [wr_id (by omega) (by omega)] at z
        have ec : chL (lst F p hold pace) (yd F).toNat y c (L : Int) = c := if_neg g
        have := go1 (by omega)
        rw [ec] at this
        exact this

/-! a race in the reference, changed over too -/
abbrev PT : Type := Int × Int × Int
def PW (F : FS) (p : Nat) : PT := (ar F p, hv F p, hd F p)
def sTake (w : PT) (s : RS) : RS := match s with
  | none => none
  | some (_, t, n, r) => some (w.1, t + 40, n, r)
/-- who walks, the race, the yard of the first rest -/
def sAll (kf ff : Nat → Int) (hold pace : Int) (chg : Nat → Option PT) (w0 : PT) (s0 : RS) : Nat → PT × RS × Int
  | 0 => (w0, s0, -9)
  | n + 1 => match chg n with
    | none => ((sAll kf ff hold pace chg w0 s0 n).1, sStep (kf n) (ff n) (sAll kf ff hold pace chg w0 s0 n).1.1 (sAll kf ff hold pace chg w0 s0 n).1.2.1 (sAll kf ff hold pace chg w0 s0 n).1.2.2 hold pace (sAll kf ff hold pace chg w0 s0 n).2.1, sFR (sLoad (kf n) (ff n) (sAll kf ff hold pace chg w0 s0 n).1.2.1 hold + pace) (sAll kf ff hold pace chg w0 s0 n).2.2 n (sAll kf ff hold pace chg w0 s0 n).2.1)
    | some w => (w, sStep (kf n) (ff n) w.1 w.2.1 w.2.2 hold pace (sTake w (sAll kf ff hold pace chg w0 s0 n).2.1), sFR (sLoad (kf n) (ff n) w.2.1 hold + pace) (sAll kf ff hold pace chg w0 s0 n).2.2 n (sTake w (sAll kf ff hold pace chg w0 s0 n).2.1))
def tvM (s : RS) : Int := match s with
  | none => 9999999
  | some (_, t, _, _) => t
theorem sAll_plain {kf ff : Nat → Int} {hold pace : Int} {w0 : PT} {s0 : RS} : ∀ n : Nat, (sAll kf ff hold pace (fun _ => none) w0 s0 n).1 = w0 ∧ (sAll kf ff hold pace (fun _ => none) w0 s0 n).2.1 = sRun kf ff w0.1 w0.2.1 w0.2.2 hold pace s0 n
  | 0 => ⟨rfl, rfl⟩
  | n + 1 => by
    obtain ⟨h1, h2⟩ := sAll_plain (kf := kf) (ff := ff) (hold := hold) (pace := pace) (w0 := w0) (s0 := s0) n
    refine ⟨h1, ?_⟩
    simp only [sAll, sRun]
    rw [h1, h2]
theorem sAll_none {kf ff : Nat → Int} {hold pace : Int} {chg : Nat → Option PT} {w0 : PT} {s0 : RS} {y : Nat} (h : (sAll kf ff hold pace chg w0 s0 y).2.1 = none) : ∀ k : Nat, (sAll kf ff hold pace chg w0 s0 (y + k)).2.1 = none ∧ (sAll kf ff hold pace chg w0 s0 (y + k)).2.2 = (sAll kf ff hold pace chg w0 s0 y).2.2
  | 0 => ⟨h, rfl⟩
  | k + 1 => by
    obtain ⟨h1, h2⟩ := sAll_none h k
    rw [show y + (k + 1) = (y + k) + 1 by omega]
    simp only [sAll]
    split
    · rw [h1]; exact ⟨rfl, h2⟩
    · rw [h1]; exact ⟨rfl, h2⟩
theorem RMf.fr {F : FS} {M M' : Mem} (h : RMf F M) (h1 : ∀ i, 1 ≤ i → i ≤ 5 → M' i = M i) (h2 : ∀ j, 2 ≤ j → j ≤ 4 → M' 0 j = M 0 j) : RMf F M' := by
  obtain ⟨a1, a2, a3, a4, a5, a6⟩ := h
  refine ⟨?_, ?_, ?_, ?_, ?_, ?_⟩
  · rw [h2 2 (by omega) (by omega)]; exact a1
  · rw [h2 3 (by omega) (by omega)]; exact a2
  · rw [h2 4 (by omega) (by omega)]; exact a3
  · rw [h1 1 (by omega) (by omega)]; exact a4
  · rw [h1 2 (by omega) (by omega)]; exact a5
  · rw [h1 3 (by omega) (by omega), h1 4 (by omega) (by omega), h1 5 (by omega) (by omega)]; exact a6
/-- what a race of the reference may change -/
def FrR (M M' : Mem) : Prop := (∀ i, i ≠ 0 → i ≠ 7 → M' i = M i) ∧ (∀ j, (j < 10 ∨ 18 < j) → M' 0 j = M 0 j)
theorem FrR.rf (M : Mem) : FrR M M := ⟨fun _ _ _ => rfl, fun _ _ => rfl⟩
theorem FrR.tr {M M1 M2 : Mem} (h1 : FrR M M1) (h2 : FrR M1 M2) : FrR M M2 := ⟨fun i a b => (h2.1 i a b).trans (h1.1 i a b), fun j hj => (h2.2 j hj).trans (h1.2 j hj)⟩
theorem FrR.s {M M1 M2 : Mem} (h1 : FrR M M1) (h2 : FrS M1 M2) : FrR M M2 := ⟨fun i a b => (h2.1 i a).trans (h1.1 i a b), fun j hj => (h2.2 j (by omega)).trans (h1.2 j hj)⟩
theorem FrR.w {M M1 : Mem} (h1 : FrR M M1) {k : Nat} {v : Int} (hk : 10 ≤ k ∧ k ≤ 18) : FrR M (up M1 0 k v) := ⟨fun i a b => by rw [up_fr a]; exact h1.1 i a b, fun j hj => by rw [up_sl (by omega)]; exact h1.2 j hj⟩
theorem FrR.w7 {M M1 : Mem} (h1 : FrR M M1) {k : Nat} {v : Int} : FrR M (up M1 7 k v) := ⟨fun i a b => by rw [up_fr b]; exact h1.1 i a b, fun j hj => by rw [up_fr (by omega)]; exact h1.2 j hj⟩
theorem FrR.F {F : FS} {M M' : Mem} (h : FrR M M') (hR : RMf F M) : RMf F M' := hR.fr (fun i _ _ => h.1 i (by omega) (by omega)) (fun j _ _ => h.2 j (by omega))
theorem walkAs_ok {F : FS} (hF : FOK F) {M : Mem} (hR : RMf F M) {p : Nat} (hp : p < 6) : FrR M (g10_walkAs M (p : Int)) ∧ g10_walkAs M (p : Int) 0 10 = ar F p ∧ g10_walkAs M (p : Int) 0 11 = hv F p ∧ g10_walkAs M (p : Int) 0 12 = hd F p ∧ (∀ j, 13 ≤ j → g10_walkAs M (p : Int) 0 j = M 0 j) ∧ g10_walkAs M (p : Int) 7 = M 7 := by
  obtain ⟨-, -, -, -, -, a6⟩ := hR
  obtain ⟨b1, b2, b3⟩ := a6 p hp
  unfold g10_walkAs
  rw [wr_id (by omega) (by omega), show ((p : Int)).toNat = p by omega, b1, b2, b3]
  refine ⟨(((FrR.rf M).w (by omega)).w (by omega)).w (by omega), by simp [up], by simp [up], by simp [up], fun j hj => ?_, ?_⟩
  · rw [up_sl (by omega), up_sl (by omega), up_sl (by omega)]
  · rw [up_fr (by omega), up_fr (by omega), up_fr (by omega)]
theorem start_ok {M : Mem} (h1 : 0 ≤ M 0 10 ∧ M 0 10 ≤ 60) (h2 : 0 ≤ M 0 11 ∧ M 0 11 ≤ 9) (h3 : 0 ≤ M 0 12 ∧ M 0 12 ≤ 9) : FrS M (g10_start M) ∧ WM (g10_start M) (some (M 0 10, 0, 0, 0)) 0 ∧ g10_start M 0 18 = -9 := by
  unfold g10_start
  refine ⟨((((((FrS.rf M).up (by omega)).up (by omega)).up (by omega)).up (by omega)).up (by omega)).up (by omega), ?_, by simp [up]⟩
  refine ⟨⟨by simp [up]; omega, by simp [up]; omega, by simp [up]; omega⟩, by omega, by simp [up], ?_⟩
  simp [up]
  omega
def overC (F : FS) (c : Int) (o : Nat) : Nat → Option PT := fun y => if (y : Int) = c then some (PW F o) else none
/-- what is known behind a race -/
def RanM (F : FS) (M0 M : Mem) (lane : Nat) (hold pace : Int) (chg : Nat → Option PT) (w0 : PT) (s0 : RS) (n : Nat) : Prop :=
  FrR M0 M ∧ (∀ l t a b, (sAll (lk F lane) (lf F lane) hold pace chg w0 s0 n).2.1 = some (l, t, a, b) → M 0 16 = l ∧ M 0 13 = t ∧ M 0 14 = a ∧ M 0 15 = b) ∧ M 0 18 = (sAll (lk F lane) (lf F lane) hold pace chg w0 s0 n).2.2 ∧
  (∀ y, y < n → ∀ l t a b, (sAll (lk F lane) (lf F lane) hold pace chg w0 s0 (y + 1)).2.1 = some (l, t, a, b) → M 7 y = t)
theorem L_run {q : Option Nat} {F : FS} (hF : FOK F) {hold pace : Int} (hb : BOK hold pace) {c : Int} (hc : -100 ≤ c ∧ c ≤ 100) {o : Nat} (ho : o < 6) {M0 : Mem} (hR : RMf F M0) {w0 : PT} {s0 : RS} {K : Int → Mem → Prop}
    (h : ∀ M', RanM F M0 M' (ln F).toNat hold pace (overC F c o) w0 s0 (yd F).toNat → K (tvM (sAll (lk F (ln F).toNat) (lf F (ln F).toNat) hold pace (overC F c o) w0 s0 (yd F).toNat).2.1) M') :
    ∀ (k y : Nat) (M : Mem), y + k = (yd F).toNat → FrR M0 M → M 0 10 = (sAll (lk F (ln F).toNat) (lf F (ln F).toNat) hold pace (overC F c o) w0 s0 y).1.1 → M 0 11 = (sAll (lk F (ln F).toNat) (lf F (ln F).toNat) hold pace (overC F c o) w0 s0 y).1.2.1 → M 0 12 = (sAll (lk F (ln F).toNat) (lf F (ln F).toNat) hold pace (overC F c o) w0 s0 y).1.2.2 →
      WM M (sAll (lk F (ln F).toNat) (lf F (ln F).toNat) hold pace (overC F c o) w0 s0 y).2.1 (2 * (y : Int)) → M 0 18 = (sAll (lk F (ln F).toNat) (lf F (ln F).toNat) hold pace (overC F c o) w0 s0 y).2.2 → (∀ z, z < y → ∀ l t a b, (sAll (lk F (ln F).toNat) (lf F (ln F).toNat) hold pace (overC F c o) w0 s0 (z + 1)).2.1 = some (l, t, a, b) → M 7 z = t) →
      TA i10_run 12 [some (vr 0), none, some (vi hold), some (vi pace), some (vi c), some (vi (o : Int)), some (vi (y : Int))] [] (LM q, M) (fun rv G' => ∃ r M', rv = some (vi r) ∧ G' = (LM q, M') ∧ K r M') := by
  intro k
  obtain ⟨hy1, hy2⟩ := hF.1
  obtain ⟨hl1, hl2⟩ := hF.2.1
  induction k with
  | zero =>
    intro y M hy hfr w1 w2' w3 hW h18 h7
    have hRM := hfr.F hR
    have hyn : y = (yd F).toNat := by omega
    subst hyn
    have hout : TA i10_run 109 [none, none, none, none, none, none, none] [vi (if wr (M 0 17) = 0 then M 0 13 else 9999999)] (LM q, M) (fun rv G' => ∃ r M', rv = some (vi r) ∧ G' = (LM q, M') ∧ K r M') := by
      refine W10_run_109 ⟨_, M, rfl, rfl, ?_⟩
      obtain ⟨-, -, -, hs⟩ := hW
      have h9 := h M
      revert hs h9
      generalize hse : (sAll (lk F (ln F).toNat) (lf F (ln F).toNat) hold pace (overC F c o) w0 s0 (yd F).toNat).2.1 = se
      cases se with
      | none =>
        intro hs h9
        rw [show M 0 17 = 1 from hs, wr_id (by omega) (by omega)]
        exact h9 ⟨hfr, fun l t a b e => (by rw [hse] at e; cases e), h18, h7⟩
      | some z =>
        intro hs h9
        obtain ⟨l, t, a, b⟩ := z
        obtain ⟨s7, s16, s13, s14, s15, -⟩ := hs
        rw [s7, wr_id (by omega) (by omega), s13]
        exact h9 ⟨hfr, fun l' t' a' b' e => (by rw [hse] at e; cases e; exact ⟨s16, s13, s14, s15⟩), h18, h7⟩
    refine W10_run_12 ⟨fun p => ?_, fun p => hout⟩
    rw [hRM.1, wlt (by omega) (by omega) (by omega) (by omega)] at p
    omega
  | succ k ih =>
    intro y M hy hfr w1 w2' w3 hW h18 h7
    have hRM := hfr.F hR
    have hK := hF.K (lane := (ln F).toNat) (y := y) (by omega) (by omega)
    have e20 : (20 * ln F + (y : Int)).toNat = 20 * (ln F).toNat + y := by omega
    have hkd : ∀ M2 : Mem, M2 1 = M 1 → M2 1 (20 * ln F + (y : Int)).toNat = lk F (ln F).toNat y := fun M2 e => by rw [e, hRM.2.2.2.1 _ (by omega), e20]; rfl
    have hfg : ∀ M2 : Mem, M2 2 = M 2 → M2 2 (20 * ln F + (y : Int)).toNat = lf F (ln F).toNat y := fun M2 e => by rw [e, hRM.2.2.2.2.1 _ (by omega), e20]; rfl
    have cy : 0 ≤ wr (y : Int) ∧ wr (y : Int) < ((20 : Nat) : Int) := by rw [wr_id (by omega) (by omega)]; omega
    have ey : (wr (y : Int)).toNat = y := by rw [wr_id (by omega) (by omega)]; omega
    have emod : (20 * ln F + (y : Int)) % 20 = (y : Int) := by omega
    have sFRy : ∀ T fr s, sFR T fr (20 * ln F + (y : Int)) s = sFR T fr (y : Int) s := by
      intro T fr s
      unfold sFR
      split
      · rfl
      · rw [emod, show (y : Int) % 20 = (y : Int) by omega]
    have next : ∀ (M1 M2 : Mem), FrR M M1 → M1 7 = M 7 → FrS M1 M2 → M1 0 10 = (sAll (lk F (ln F).toNat) (lf F (ln F).toNat) hold pace (overC F c o) w0 s0 (y + 1)).1.1 → M1 0 11 = (sAll (lk F (ln F).toNat) (lf F (ln F).toNat) hold pace (overC F c o) w0 s0 (y + 1)).1.2.1 → M1 0 12 = (sAll (lk F (ln F).toNat) (lf F (ln F).toNat) hold pace (overC F c o) w0 s0 (y + 1)).1.2.2 →
        WM M2 (sAll (lk F (ln F).toNat) (lf F (ln F).toNat) hold pace (overC F c o) w0 s0 (y + 1)).2.1 (2 * ((y + 1 : Nat) : Int)) → M2 0 18 = (sAll (lk F (ln F).toNat) (lf F (ln F).toNat) hold pace (overC F c o) w0 s0 (y + 1)).2.2 →
        (0 ≤ wr (y : Int) ∧ wr (y : Int) < ((20 : Nat) : Int)) ∧ TA i10_run 12 [some (vr 0), none, some (vi hold), some (vi pace), some (vi c), some (vi (o : Int)), some (vi ((y : Int) + 1))] [] (LM q, up M2 7 ((wr (y : Int)).toNat) (M2 0 13)) (fun rv G' => ∃ r M', rv = some (vi r) ∧ G' = (LM q, M') ∧ K r M') := by
      intro M1 M2 f1 g7 f2 v1 v2 v3 hW2 h182
      refine ⟨cy, ?_⟩
      rw [ey]
      have e9 : (y : Int) + 1 = ((y + 1 : Nat) : Int) := by omega
      rw [e9]
      have hf2 : FrR M M2 := f1.s f2
      refine ih (y + 1) _ (by omega) ((hfr.tr hf2).w7) ?_ ?_ ?_ ?_ ?_ (fun z hz l t a b e => ?_)
      · rw [up_fr (by omega), f2.2 10 (by omega)]; exact v1
      · rw [up_fr (by omega), f2.2 11 (by omega)]; exact v2
      · rw [up_fr (by omega), f2.2 12 (by omega)]; exact v3
      · unfold WM; rw [up_fr (by omega)]; exact hW2
      · rw [up_fr (by omega)]; exact h182
      · by_cases hzy : z = y
        · subst hzy
          rw [up_eq]
          obtain ⟨-, -, -, hs⟩ := hW2
          rw [e] at hs
          exact hs.2.2.1
        · rw [up_sl hzy, f2.1 7 (by omega), g7]
          exact h7 z (by omega) l t a b e
    refine W10_run_12 ⟨fun p => ⟨fun p7 => ⟨fun px => ⟨?_, ?_⟩, fun px => ?_⟩, fun p7 => ?_⟩, fun p => ?_⟩
    · rw [wr_id (by omega) (by omega)]; omega
    · -- changed over here
      rw [weq (by omega) (by omega) (by omega) (by omega)] at px
      have hch : overC F c o y = some (PW F o) := by unfold overC; rw [if_pos px]
      obtain ⟨pa, ph, pd⟩ := hF.P ho
      rw [hRM.2.1, wr_id (x := (o : Int)) (by omega) (by omega), show ((o : Int)).toNat = o by omega, (hRM.2.2.2.2.2 o ho).1]
      have hR2 : RMf F (up M 0 13 (M 0 13 + 40)) := ((FrR.rf M).w (by omega) : FrR M _).F hRM
      obtain ⟨g1, g2, g3, g4, g5, g6⟩ := walkAs_ok hF hR2 ho
      obtain ⟨M1, hM1⟩ : ∃ M1, M1 = up (g10_walkAs (up M 0 13 (M 0 13 + 40)) (o : Int)) 0 16 (ar F o) := ⟨_, rfl⟩
      rw [← hM1]
      have f1 : FrR M M1 := by rw [hM1]; exact (((FrR.rf M).w (by omega)).tr g1).w (by omega)
      have a10 : M1 0 10 = ar F o := by rw [hM1, up_sl (by omega)]; exact g2
      have a11 : M1 0 11 = hv F o := by rw [hM1, up_sl (by omega)]; exact g3
      have a12 : M1 0 12 = hd F o := by rw [hM1, up_sl (by omega)]; exact g4
      have a13 : M1 0 13 = M 0 13 + 40 := by rw [hM1, up_sl (by omega), g5 13 (by omega), up_eq]
      have a14 : M1 0 14 = M 0 14 := by rw [hM1, up_sl (by omega), g5 14 (by omega), up_sl (by omega)]
      have a15 : M1 0 15 = M 0 15 := by rw [hM1, up_sl (by omega), g5 15 (by omega), up_sl (by omega)]
      have a16 : M1 0 16 = ar F o := by rw [hM1, up_eq]
      have a17 : M1 0 17 = M 0 17 := by rw [hM1, up_sl (by omega), g5 17 (by omega), up_sl (by omega)]
      have a18 : M1 0 18 = M 0 18 := by rw [hM1, up_sl (by omega), g5 18 (by omega), up_sl (by omega)]
      have a7 : M1 7 = M 7 := by rw [hM1, up_fr (by omega), g6, up_fr (by omega)]
      have m1 : M1 1 = M 1 := f1.1 1 (by omega) (by omega)
      have m2 : M1 2 = M 2 := f1.1 2 (by omega) (by omega)
      have hW1 : WM M1 (sTake (PW F o) (sAll (lk F (ln F).toNat) (lf F (ln F).toNat) hold pace (overC F c o) w0 s0 y).2.1) (2 * (y : Int) + 1) := by
        obtain ⟨-, hjj, h8, hs⟩ := hW
        refine ⟨⟨by rw [a10]; omega, by rw [a11]; omega, by rw [a12]; omega⟩, by omega, by rw [a18]; omega, ?_⟩
        revert hs
        cases (sAll (lk F (ln F).toNat) (lf F (ln F).toNat) hold pace (overC F c o) w0 s0 y).2.1 with
        | none => intro hs; exact (show M1 0 17 = 1 by rw [a17]; exact hs)
        | some z =>
          intro hs
          obtain ⟨l, t, a, b⟩ := z
          obtain ⟨s7, s16, s13, s14, s15, hl, ht, hn, hr⟩ := hs
          refine ⟨by rw [a17]; exact s7, a16, by rw [a13, s13], by rw [a14]; exact s14, by rw [a15]; exact s15, ?_, by omega, by omega, by omega⟩
          rw [a10]
          show 0 ≤ ar F o ∧ ar F o ≤ ar F o
          omega
      refine T_stepOn (j := 2 * (y : Int) + 1) (by omega) hK hb (hkd M1 m1) (hfg M1 m2) hW1 (by omega) (fun M2 f2 hW2 h182 => ?_)
      rw [a10, a11, a12] at hW2
      rw [a11, a18, h18, sFRy] at h182
      have eA : sAll (lk F (ln F).toNat) (lf F (ln F).toNat) hold pace (overC F c o) w0 s0 (y + 1) = (PW F o, sStep (lk F (ln F).toNat y) (lf F (ln F).toNat y) (ar F o) (hv F o) (hd F o) hold pace (sTake (PW F o) (sAll (lk F (ln F).toNat) (lf F (ln F).toNat) hold pace (overC F c o) w0 s0 y).2.1), sFR (sLoad (lk F (ln F).toNat y) (lf F (ln F).toNat y) (hv F o) hold + pace) (sAll (lk F (ln F).toNat) (lf F (ln F).toNat) hold pace (overC F c o) w0 s0 y).2.2 (y : Int) (sTake (PW F o) (sAll (lk F (ln F).toNat) (lf F (ln F).toNat) hold pace (overC F c o) w0 s0 y).2.1)) := by
        simp only [sAll]
        rw [hch]
        rfl
      refine next M1 M2 f1 a7 f2 (by rw [eA]; exact a10) (by rw [eA]; exact a11) (by rw [eA]; exact a12) ?_ (by rw [eA]; exact h182)
      rw [eA, show 2 * ((y + 1 : Nat) : Int) = 2 * (y : Int) + 1 + 1 by omega]
      exact hW2
    · rw [weq (by omega) (by omega) (by omega) (by omega)] at px
      have hch : overC F c o y = none := by unfold overC; rw [if_neg px]
      rw [hRM.2.1]
      refine T_stepOn (j := 2 * (y : Int)) (by omega) hK hb (hkd M rfl) (hfg M rfl) hW (by omega) (fun M2 f2 hW2 h182 => ?_)
      rw [w1, w2', w3] at hW2
      rw [w2', h18, sFRy] at h182
      have eA : sAll (lk F (ln F).toNat) (lf F (ln F).toNat) hold pace (overC F c o) w0 s0 (y + 1) = ((sAll (lk F (ln F).toNat) (lf F (ln F).toNat) hold pace (overC F c o) w0 s0 y).1, sStep (lk F (ln F).toNat y) (lf F (ln F).toNat y) (sAll (lk F (ln F).toNat) (lf F (ln F).toNat) hold pace (overC F c o) w0 s0 y).1.1 (sAll (lk F (ln F).toNat) (lf F (ln F).toNat) hold pace (overC F c o) w0 s0 y).1.2.1 (sAll (lk F (ln F).toNat) (lf F (ln F).toNat) hold pace (overC F c o) w0 s0 y).1.2.2 hold pace (sAll (lk F (ln F).toNat) (lf F (ln F).toNat) hold pace (overC F c o) w0 s0 y).2.1, sFR (sLoad (lk F (ln F).toNat y) (lf F (ln F).toNat y) (sAll (lk F (ln F).toNat) (lf F (ln F).toNat) hold pace (overC F c o) w0 s0 y).1.2.1 hold + pace) (sAll (lk F (ln F).toNat) (lf F (ln F).toNat) hold pace (overC F c o) w0 s0 y).2.2 (y : Int) (sAll (lk F (ln F).toNat) (lf F (ln F).toNat) hold pace (overC F c o) w0 s0 y).2.1) := by
        simp only [sAll]
        rw [hch]
      refine next M M2 (FrR.rf M) rfl f2 (by rw [eA]; exact w1) (by rw [eA]; exact w2') (by rw [eA]; exact w3) ?_ (by rw [eA]; exact h182)
      rw [eA]
      obtain ⟨z1, z2, z3, z4⟩ := hW2
      refine ⟨z1, by omega, z3, ?_⟩
      revert z4
      cases sStep (lk F (ln F).toNat y) (lf F (ln F).toNat y) (sAll (lk F (ln F).toNat) (lf F (ln F).toNat) hold pace (overC F c o) w0 s0 y).1.1 (sAll (lk F (ln F).toNat) (lf F (ln F).toNat) hold pace (overC F c o) w0 s0 y).1.2.1 (sAll (lk F (ln F).toNat) (lf F (ln F).toNat) hold pace (overC F c o) w0 s0 y).1.2.2 hold pace (sAll (lk F (ln F).toNat) (lf F (ln F).toNat) hold pace (overC F c o) w0 s0 y).2.1 with
      | none => exact fun z4 => z4
      | some z =>
        obtain ⟨l, t, a, b⟩ := z
        intro z4
        obtain ⟨s7, s16, s13, s14, s15, hl, ht, hn, hr⟩ := z4
        exact ⟨s7, s16, s13, s14, s15, hl, by omega, by omega, by omega⟩
    · -- never over already
      refine W10_run_109 ⟨_, M, rfl, rfl, ?_⟩
      obtain ⟨-, -, -, hs⟩ := hW
      have hnone : (sAll (lk F (ln F).toNat) (lf F (ln F).toNat) hold pace (overC F c o) w0 s0 y).2.1 = none := by
        revert hs
        cases (sAll (lk F (ln F).toNat) (lf F (ln F).toNat) hold pace (overC F c o) w0 s0 y).2.1 with
        | none => exact fun _ => rfl
        | some z =>
          intro hs
          rw [show M 0 17 = 0 from hs.1, wr_id (by omega) (by omega)] at p7
          exact absurd rfl p7
      obtain ⟨n1, n2⟩ := sAll_none hnone (k + 1)
      have eyn : y + (k + 1) = (yd F).toNat := by omega
      rw [eyn] at n1 n2
      rw [if_neg p7]
      have h9 := h M
      rw [n1] at h9
      refine h9 ⟨hfr, fun l t a b e => (by rw [n1] at e; cases e), by rw [n2]; exact h18, fun z hz l t a b e => ?_⟩
      by_cases hzy : z < y
      · exact h7 z hzy l t a b e
      · have e5 := (sAll_none hnone (z + 1 - y)).1
        rw [show y + (z + 1 - y) = z + 1 by omega] at e5
        rw [e5] at e
        cases e
    · rw [hRM.1, wlt (by omega) (by omega) (by omega) (by omega)] at p
      omega

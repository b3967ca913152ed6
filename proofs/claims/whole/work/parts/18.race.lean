/-! a step of a race, in the class -/
def WR (M : Mem) (w : Nat) (s : RS) (j : Int) : Prop := ((0 ≤ M w 0 ∧ M w 0 ≤ 60) ∧ (0 ≤ M w 1 ∧ M w 1 ≤ 9) ∧ (0 ≤ M w 2 ∧ M w 2 ≤ 9)) ∧ (0 ≤ j ∧ j ≤ 100000) ∧ match s with
  | none => M w 7 = 1
  | some (l, t, n, r) => M w 7 = 0 ∧ M w 3 = l ∧ M w 4 = t ∧ M w 5 = n ∧ M w 6 = r ∧ (0 ≤ l ∧ l ≤ M w 0) ∧ (0 ≤ t ∧ t ≤ 200 * j) ∧ (0 ≤ n ∧ n ≤ j) ∧ (0 ≤ r ∧ r ≤ 6 * j)
theorem w2 : wr 2 ≠ 0 := by rw [wr_id (by omega) (by omega)]; omega
theorem wlt {x y : Int} (h1 : -2147483648 ≤ x) (h2 : x < 2147483648) (h3 : -2147483648 ≤ y) (h4 : y < 2147483648) : wr x < wr y ↔ x < y := by rw [wr_id h1 h2, wr_id h3 h4]
theorem weq {x y : Int} (h1 : -2147483648 ≤ x) (h2 : x < 2147483648) (h3 : -2147483648 ≤ y) (h4 : y < 2147483648) : wr x = wr y ↔ x = y := by rw [wr_id h1 h2, wr_id h3 h4]
def tl_goes (w : Nat) (x3 x4 x5 x6 x7 : Int) (Post : Option AV → GM → Prop) (M : Mem) : Prop :=
  (wr (f4_limitOn x5 (M w 2)) < wr x4 → Post none (LC, up (up (up (up (up M w 3 ((M w 3) - x7)) w 4 ((M w 4) + (f4_tenthsOf x5 x6 x3 x4))) w 5 ((M w 5) + 1)) w 4 (((M w 4) + (f4_tenthsOf x5 x6 x3 x4)) + 40)) w 3 (mn (((M w 3) - x7) + 5) (M w 0)))) ∧ (¬ (wr (f4_limitOn x5 (M w 2)) < wr x4) → Post none (LC, up (up M w 3 ((M w 3) - x7)) w 4 ((M w 4) + (f4_tenthsOf x5 x6 x3 x4))))
theorem L_goes_41_36 {x3 x4 x5 x6 T : Int} {Post : Option AV → GM → Prop} (hT : 0 ≤ T ∧ T ≤ 100) : ∀ (n : Nat) (x8 : Int) (M : Mem), x8 + (n : Int) = 6 → (0 ≤ M 41 0 ∧ M 41 0 ≤ 60) → (0 ≤ M 41 3 ∧ M 41 3 ≤ M 41 0) →
    (∀ M', (∀ i, i ≠ 41 → M' i = M i) → (∀ j, j ≠ 3 → j ≠ 4 → j ≠ 6 → M' 41 j = M 41 j) → M' 41 3 = (sRest (M 41 0) T n (M 41 3)).1 → M' 41 4 = M 41 4 + 15 * (sRest (M 41 0) T n (M 41 3)).2 → M' 41 6 = M 41 6 + (sRest (M 41 0) T n (M 41 3)).2 → tl_goes 41 x3 x4 x5 x6 T Post M') →
    n ≤ 6 → TA i8_goes 62 [some (vr 41), none, none, some (vi x3), some (vi x4), some (vi x5), some (vi x6), some (vi T), some (vi x8)] [] (LC, M) Post
  | 0, x8, M, hx, ha, hl, h, hn => by
    refine W8_goes_62_41_36 ⟨fun q => ?_, fun q => ?_⟩
    · rw [wlt (by omega) (by omega) (by omega) (by omega)] at q
      omega
    · exact h M (fun i _ => rfl) (fun j _ _ _ => rfl) rfl (by simp [sRest]) (by simp [sRest])
  | n + 1, x8, M, hx, ha, hl, h, hn => by
    refine W8_goes_62_41_36 ⟨fun q => ⟨fun q2 => ?_, fun q2 => ?_⟩, fun q => ?_⟩
    · rw [wlt (by omega) (by omega) (by omega) (by omega)] at q2
      have e : mn (M 41 3 + 10) (M 41 0) = min (M 41 3 + 10) (M 41 0) := mn_eq (by omega) (by omega) (by omega) (by omega)
      rw [e]
      generalize hM1 : up (up (up M 41 6 (M 41 6 + 1)) 41 4 (M 41 4 + 15)) 41 3 (min (M 41 3 + 10) (M 41 0)) = M1
      have a0 : M1 41 0 = M 41 0 := by subst hM1; simp [up]
      have a3 : M1 41 3 = min (M 41 3 + 10) (M 41 0) := by subst hM1; simp [up]
      have a4 : M1 41 4 = M 41 4 + 15 := by subst hM1; simp [up]
      have a6 : M1 41 6 = M 41 6 + 1 := by subst hM1; simp [up]
      refine L_goes_41_36 hT n (x8 + 1) M1 (by omega) (by omega) (by omega) (fun M' f1 f2 f3 f4 f6 => ?_) (by omega)
      rw [a0, a3] at f3 f4 f6
      rw [a4] at f4
      rw [a6] at f6
      have e1 : sRest (M 41 0) T (n + 1) (M 41 3) = ((sRest (M 41 0) T n (min (M 41 3 + 10) (M 41 0))).1, (sRest (M 41 0) T n (min (M 41 3 + 10) (M 41 0))).2 + 1) := by simp only [sRest]; rw [if_pos q2]
      refine h M' (fun i hi => ?_) (fun j j3 j4 j6 => ?_) ?_ ?_ ?_
      · rw [f1 i hi]; subst hM1; rw [up_fr hi, up_fr hi, up_fr hi]
      · rw [f2 j j3 j4 j6]; subst hM1; rw [up_sl j3, up_sl j4, up_sl j6]
      · rw [e1, f3]
      · rw [e1, f4]; dsimp only; omega
      · rw [e1, f6]; dsimp only; omega
    · rw [wlt (by omega) (by omega) (by omega) (by omega)] at q2
      have e1 : sRest (M 41 0) T (n + 1) (M 41 3) = (M 41 3, 0) := by simp only [sRest]; rw [if_neg q2]
      exact h M (fun i _ => rfl) (fun j _ _ _ => rfl) (by rw [e1]) (by rw [e1]; simp) (by rw [e1]; simp)
    · rw [wlt (by omega) (by omega) (by omega) (by omega)] at q
      omega
theorem T_goes_41_36 {y hold pace k f j : Int} {M : Mem} {s : RS} {K : Mem → Prop} (hk : KOK k f) (hb : BOK hold pace) (hy : 0 ≤ y ∧ y < 20) (hkd : M 38 y.toNat = k) (hfg : M 40 y.toNat = f) (hW : WR M 41 s j) (hj : j < 10000)
    (h : ∀ M', (∀ i, i ≠ 41 → M' i = M i) → M' 41 0 = M 41 0 → M' 41 1 = M 41 1 → M' 41 2 = M 41 2 → WR M' 41 (sStep k f (M 41 0) (M 41 1) (M 41 2) hold pace s) (j + 1) → K M') : TV i8_goes 9 [vr 41, vr 36, vi y, vi hold, vi pace] (LC, M) K := by
  obtain ⟨⟨hA, hH, hD⟩, hjj, hs⟩ := hW
  have e1 : rd M 38 20 y = k := by rw [rd_in hy.1 (by omega) (by omega)]; exact hkd
  have e2 : rd M 40 20 y = f := by rw [rd_in hy.1 (by omega) (by omega)]; exact hfg
  have hb0 := hb
  obtain ⟨⟨b1, b2⟩, b3, b4⟩ := hb
  have e3 := f4_load (h := M 41 1) (hold := hold) hk hH.1 hH.2 b1 b2
  have hLd := sLoad_le (h := M 41 1) (hold := hold) hk hH.1 hH.2 b1 b2
  have e4 := f4_ten hk hb0
  have hTn := sTen_le hk hb0
  have e5 : f4_limitOn k (M 41 2) = sLim k (M 41 2) := f4_lim hk.1.1 hk.1.2 hD.1 hD.2
  have hLm := sLim_le (k := k) hD.1 hD.2
  have never : ∀ (hn : sStep k f (M 41 0) (M 41 1) (M 41 2) hold pace s = none), (wr 1 = 0 ∨ wr 1 = 1) ∧ (∃ M', (LC, up M 41 7 1) = (LC, M') ∧ K M') := by
    intro hn
    refine ⟨wb1, _, rfl, h _ (fun i hi => up_fr hi) (by simp [up]) (by simp [up]) (by simp [up]) ?_⟩
    rw [hn]
    exact ⟨by simp [up]; omega, by omega, by simp [up]⟩
  refine W8_goes_0_41_36 ?_
  rw [e1, e2, e3]
  obtain ⟨L, hL⟩ : ∃ L, L = sLoad k f (M 41 1) hold := ⟨_, rfl⟩
  rw [← hL] at hLd ⊢
  refine ⟨w2, fun q7 => ⟨fun q => ?_, fun q => ?_⟩, fun q7 => ?_⟩
  · rw [wlt (by omega) (by omega) (by omega) (by omega)] at q
    obtain ⟨z1, z2⟩ := never (by
      cases s with
      | none => rfl
      | some z => obtain ⟨l, t, n, r⟩ := z; simp only [sStep]; rw [if_pos (by rw [← hL]; exact q)])
    exact ⟨z1, rfl, z2⟩
  · rw [wlt (by omega) (by omega) (by omega) (by omega)] at q
    cases s with
    | none =>
      have h7 : M 41 7 = 1 := hs
      rw [h7] at q7
      exact absurd q7 (by rw [wr_id (by omega) (by omega)]; omega)
    | some z =>
      obtain ⟨l, t, n, r⟩ := z
      obtain ⟨s7, s3, s4, s5, s6, hl, ht, hn, hr⟩ := hs
      have hSR := sRest_ok (a := M 41 0) (t := L + pace) (by omega) (by omega) 6 l (by omega) (by omega) (by omega)
      refine L_goes_41_36 (T := L + pace) (by omega) 6 0 M (by omega) (by omega) (by omega) (fun M' f1 f2 f3 f4 f6 => ?_) (by omega)
      have g0 := f2 0 (by omega) (by omega) (by omega)
      have g1 := f2 1 (by omega) (by omega) (by omega)
      have g2 := f2 2 (by omega) (by omega) (by omega)
      have g5 := f2 5 (by omega) (by omega) (by omega)
      have g7 := f2 7 (by omega) (by omega) (by omega)
      rw [s3] at f3 f4 f6
      obtain ⟨R, hR⟩ : ∃ R, R = sRest (M 41 0) (L + pace) 6 l := ⟨_, rfl⟩
      rw [← hR] at f3 f4 f6 hSR
      obtain ⟨R1, R2⟩ := R
      dsimp only at f3 f4 f6 hSR
      refine ⟨fun p => ?_, fun p => ?_⟩
      · rw [g2, e5, wlt (by omega) (by omega) (by omega) (by omega)] at p
        rw [e4, mn_eq (by omega) (by omega) (by omega) (by omega)]
        refine ⟨rfl, _, rfl, h _ (fun i hi => ?_) (by simp [up]; exact g0) (by simp [up]; exact g1) (by simp [up]; exact g2) ?_⟩
        · rw [up_fr hi, up_fr hi, up_fr hi, up_fr hi, up_fr hi]; exact f1 i hi
        · have e9 : sStep k f (M 41 0) (M 41 1) (M 41 2) hold pace (some (l, t, n, r)) = some (min (R1 - (L + pace) + 5) (M 41 0), t + 15 * R2 + sTen k f hold pace + 40, n + 1, r + R2) := by
            simp only [sStep]
            rw [← hL, if_neg q, if_pos p, ← hR]
          rw [e9]
          refine ⟨by simp [up]; omega, by omega, ?_⟩
          simp [up]
          refine ⟨by omega, by omega, by omega, by omega, by omega, by omega, by omega, by omega, by omega⟩
      · rw [g2, e5, wlt (by omega) (by omega) (by omega) (by omega)] at p
        rw [e4]
        refine ⟨rfl, _, rfl, h _ (fun i hi => ?_) (by simp [up]; exact g0) (by simp [up]; exact g1) (by simp [up]; exact g2) ?_⟩
        · rw [up_fr hi, up_fr hi]; exact f1 i hi
        · have e9 : sStep k f (M 41 0) (M 41 1) (M 41 2) hold pace (some (l, t, n, r)) = some (R1 - (L + pace), t + 15 * R2 + sTen k f hold pace, n, r + R2) := by
            simp only [sStep]
            rw [← hL, if_neg q, if_neg p, ← hR]
          rw [e9]
          refine ⟨by simp [up]; omega, by omega, ?_⟩
          simp [up]
          refine ⟨by omega, by omega, by omega, by omega, by omega, by omega, by omega, by omega, by omega⟩
  · cases s with
    | none =>
      obtain ⟨z1, z2⟩ := never rfl
      exact ⟨z1, rfl, z2⟩
    | some z =>
      obtain ⟨l, t, n, r⟩ := z
      have h7 : M 41 7 = 0 := hs.1
      rw [h7] at q7
      exact absurd (wr_id (x := 0) (by omega) (by omega)) q7
theorem L_goes_42_36 {x3 x4 x5 x6 T : Int} {Post : Option AV → GM → Prop} (hT : 0 ≤ T ∧ T ≤ 100) : ∀ (n : Nat) (x8 : Int) (M : Mem), x8 + (n : Int) = 6 → (0 ≤ M 42 0 ∧ M 42 0 ≤ 60) → (0 ≤ M 42 3 ∧ M 42 3 ≤ M 42 0) →
    (∀ M', (∀ i, i ≠ 42 → M' i = M i) → (∀ j, j ≠ 3 → j ≠ 4 → j ≠ 6 → M' 42 j = M 42 j) → M' 42 3 = (sRest (M 42 0) T n (M 42 3)).1 → M' 42 4 = M 42 4 + 15 * (sRest (M 42 0) T n (M 42 3)).2 → M' 42 6 = M 42 6 + (sRest (M 42 0) T n (M 42 3)).2 → tl_goes 42 x3 x4 x5 x6 T Post M') →
    n ≤ 6 → TA i8_goes 62 [some (vr 42), none, none, some (vi x3), some (vi x4), some (vi x5), some (vi x6), some (vi T), some (vi x8)] [] (LC, M) Post
  | 0, x8, M, hx, ha, hl, h, hn => by
    refine W8_goes_62_42_36 ⟨fun q => ?_, fun q => ?_⟩
    · rw [wlt (by omega) (by omega) (by omega) (by omega)] at q
      omega
    · exact h M (fun i _ => rfl) (fun j _ _ _ => rfl) rfl (by simp [sRest]) (by simp [sRest])
  | n + 1, x8, M, hx, ha, hl, h, hn => by
    refine W8_goes_62_42_36 ⟨fun q => ⟨fun q2 => ?_, fun q2 => ?_⟩, fun q => ?_⟩
    · rw [wlt (by omega) (by omega) (by omega) (by omega)] at q2
      have e : mn (M 42 3 + 10) (M 42 0) = min (M 42 3 + 10) (M 42 0) := mn_eq (by omega) (by omega) (by omega) (by omega)
      rw [e]
      generalize hM1 : up (up (up M 42 6 (M 42 6 + 1)) 42 4 (M 42 4 + 15)) 42 3 (min (M 42 3 + 10) (M 42 0)) = M1
      have a0 : M1 42 0 = M 42 0 := by subst hM1; simp [up]
      have a3 : M1 42 3 = min (M 42 3 + 10) (M 42 0) := by subst hM1; simp [up]
      have a4 : M1 42 4 = M 42 4 + 15 := by subst hM1; simp [up]
      have a6 : M1 42 6 = M 42 6 + 1 := by subst hM1; simp [up]
      refine L_goes_42_36 hT n (x8 + 1) M1 (by omega) (by omega) (by omega) (fun M' f1 f2 f3 f4 f6 => ?_) (by omega)
      rw [a0, a3] at f3 f4 f6
      rw [a4] at f4
      rw [a6] at f6
      have e1 : sRest (M 42 0) T (n + 1) (M 42 3) = ((sRest (M 42 0) T n (min (M 42 3 + 10) (M 42 0))).1, (sRest (M 42 0) T n (min (M 42 3 + 10) (M 42 0))).2 + 1) := by simp only [sRest]; rw [if_pos q2]
      refine h M' (fun i hi => ?_) (fun j j3 j4 j6 => ?_) ?_ ?_ ?_
      · rw [f1 i hi]; subst hM1; rw [up_fr hi, up_fr hi, up_fr hi]
      · rw [f2 j j3 j4 j6]; subst hM1; rw [up_sl j3, up_sl j4, up_sl j6]
      · rw [e1, f3]
      · rw [e1, f4]; dsimp only; omega
      · rw [e1, f6]; dsimp only; omega
    · rw [wlt (by omega) (by omega) (by omega) (by omega)] at q2
      have e1 : sRest (M 42 0) T (n + 1) (M 42 3) = (M 42 3, 0) := by simp only [sRest]; rw [if_neg q2]
      exact h M (fun i _ => rfl) (fun j _ _ _ => rfl) (by rw [e1]) (by rw [e1]; simp) (by rw [e1]; simp)
    · rw [wlt (by omega) (by omega) (by omega) (by omega)] at q
      omega
theorem T_goes_42_36 {y hold pace k f j : Int} {M : Mem} {s : RS} {K : Mem → Prop} (hk : KOK k f) (hb : BOK hold pace) (hy : 0 ≤ y ∧ y < 20) (hkd : M 38 y.toNat = k) (hfg : M 40 y.toNat = f) (hW : WR M 42 s j) (hj : j < 10000)
    (h : ∀ M', (∀ i, i ≠ 42 → M' i = M i) → M' 42 0 = M 42 0 → M' 42 1 = M 42 1 → M' 42 2 = M 42 2 → WR M' 42 (sStep k f (M 42 0) (M 42 1) (M 42 2) hold pace s) (j + 1) → K M') : TV i8_goes 9 [vr 42, vr 36, vi y, vi hold, vi pace] (LC, M) K := by
  obtain ⟨⟨hA, hH, hD⟩, hjj, hs⟩ := hW
  have e1 : rd M 38 20 y = k := by rw [rd_in hy.1 (by omega) (by omega)]; exact hkd
  have e2 : rd M 40 20 y = f := by rw [rd_in hy.1 (by omega) (by omega)]; exact hfg
  have hb0 := hb
  obtain ⟨⟨b1, b2⟩, b3, b4⟩ := hb
  have e3 := f4_load (h := M 42 1) (hold := hold) hk hH.1 hH.2 b1 b2
  have hLd := sLoad_le (h := M 42 1) (hold := hold) hk hH.1 hH.2 b1 b2
  have e4 := f4_ten hk hb0
  have hTn := sTen_le hk hb0
  have e5 : f4_limitOn k (M 42 2) = sLim k (M 42 2) := f4_lim hk.1.1 hk.1.2 hD.1 hD.2
  have hLm := sLim_le (k := k) hD.1 hD.2
  have never : ∀ (hn : sStep k f (M 42 0) (M 42 1) (M 42 2) hold pace s = none), (wr 1 = 0 ∨ wr 1 = 1) ∧ (∃ M', (LC, up M 42 7 1) = (LC, M') ∧ K M') := by
    intro hn
    refine ⟨wb1, _, rfl, h _ (fun i hi => up_fr hi) (by simp [up]) (by simp [up]) (by simp [up]) ?_⟩
    rw [hn]
    exact ⟨by simp [up]; omega, by omega, by simp [up]⟩
  refine W8_goes_0_42_36 ?_
  rw [e1, e2, e3]
  obtain ⟨L, hL⟩ : ∃ L, L = sLoad k f (M 42 1) hold := ⟨_, rfl⟩
  rw [← hL] at hLd ⊢
  refine ⟨w2, fun q7 => ⟨fun q => ?_, fun q => ?_⟩, fun q7 => ?_⟩
  · rw [wlt (by omega) (by omega) (by omega) (by omega)] at q
    obtain ⟨z1, z2⟩ := never (by
      cases s with
      | none => rfl
      | some z => obtain ⟨l, t, n, r⟩ := z; simp only [sStep]; rw [if_pos (by rw [← hL]; exact q)])
    exact ⟨z1, rfl, z2⟩
  · rw [wlt (by omega) (by omega) (by omega) (by omega)] at q
    cases s with
    | none =>
      have h7 : M 42 7 = 1 := hs
      rw [h7] at q7
      exact absurd q7 (by rw [wr_id (by omega) (by omega)]; omega)
    | some z =>
      obtain ⟨l, t, n, r⟩ := z
      obtain ⟨s7, s3, s4, s5, s6, hl, ht, hn, hr⟩ := hs
      have hSR := sRest_ok (a := M 42 0) (t := L + pace) (by omega) (by omega) 6 l (by omega) (by omega) (by omega)
      refine L_goes_42_36 (T := L + pace) (by omega) 6 0 M (by omega) (by omega) (by omega) (fun M' f1 f2 f3 f4 f6 => ?_) (by omega)
      have g0 := f2 0 (by omega) (by omega) (by omega)
      have g1 := f2 1 (by omega) (by omega) (by omega)
      have g2 := f2 2 (by omega) (by omega) (by omega)
      have g5 := f2 5 (by omega) (by omega) (by omega)
      have g7 := f2 7 (by omega) (by omega) (by omega)
      rw [s3] at f3 f4 f6
      obtain ⟨R, hR⟩ : ∃ R, R = sRest (M 42 0) (L + pace) 6 l := ⟨_, rfl⟩
      rw [← hR] at f3 f4 f6 hSR
      obtain ⟨R1, R2⟩ := R
      dsimp only at f3 f4 f6 hSR
      refine ⟨fun p => ?_, fun p => ?_⟩
      · rw [g2, e5, wlt (by omega) (by omega) (by omega) (by omega)] at p
        rw [e4, mn_eq (by omega) (by omega) (by omega) (by omega)]
        refine ⟨rfl, _, rfl, h _ (fun i hi => ?_) (by simp [up]; exact g0) (by simp [up]; exact g1) (by simp [up]; exact g2) ?_⟩
        · rw [up_fr hi, up_fr hi, up_fr hi, up_fr hi, up_fr hi]; exact f1 i hi
        · have e9 : sStep k f (M 42 0) (M 42 1) (M 42 2) hold pace (some (l, t, n, r)) = some (min (R1 - (L + pace) + 5) (M 42 0), t + 15 * R2 + sTen k f hold pace + 40, n + 1, r + R2) := by
            simp only [sStep]
            rw [← hL, if_neg q, if_pos p, ← hR]
          rw [e9]
          refine ⟨by simp [up]; omega, by omega, ?_⟩
          simp [up]
          refine ⟨by omega, by omega, by omega, by omega, by omega, by omega, by omega, by omega, by omega⟩
      · rw [g2, e5, wlt (by omega) (by omega) (by omega) (by omega)] at p
        rw [e4]
        refine ⟨rfl, _, rfl, h _ (fun i hi => ?_) (by simp [up]; exact g0) (by simp [up]; exact g1) (by simp [up]; exact g2) ?_⟩
        · rw [up_fr hi, up_fr hi]; exact f1 i hi
        · have e9 : sStep k f (M 42 0) (M 42 1) (M 42 2) hold pace (some (l, t, n, r)) = some (R1 - (L + pace), t + 15 * R2 + sTen k f hold pace, n, r + R2) := by
            simp only [sStep]
            rw [← hL, if_neg q, if_neg p, ← hR]
          rw [e9]
          refine ⟨by simp [up]; omega, by omega, ?_⟩
          simp [up]
          refine ⟨by omega, by omega, by omega, by omega, by omega, by omega, by omega, by omega, by omega⟩
  · cases s with
    | none =>
      obtain ⟨z1, z2⟩ := never rfl
      exact ⟨z1, rfl, z2⟩
    | some z =>
      obtain ⟨l, t, n, r⟩ := z
      have h7 : M 42 7 = 0 := hs.1
      rw [h7] at q7
      exact absurd (wr_id (x := 0) (by omega) (by omega)) q7
theorem L_goes_41_51 {x3 x4 x5 x6 T : Int} {Post : Option AV → GM → Prop} (hT : 0 ≤ T ∧ T ≤ 100) : ∀ (n : Nat) (x8 : Int) (M : Mem), x8 + (n : Int) = 6 → (0 ≤ M 41 0 ∧ M 41 0 ≤ 60) → (0 ≤ M 41 3 ∧ M 41 3 ≤ M 41 0) →
    (∀ M', (∀ i, i ≠ 41 → M' i = M i) → (∀ j, j ≠ 3 → j ≠ 4 → j ≠ 6 → M' 41 j = M 41 j) → M' 41 3 = (sRest (M 41 0) T n (M 41 3)).1 → M' 41 4 = M 41 4 + 15 * (sRest (M 41 0) T n (M 41 3)).2 → M' 41 6 = M 41 6 + (sRest (M 41 0) T n (M 41 3)).2 → tl_goes 41 x3 x4 x5 x6 T Post M') →
    n ≤ 6 → TA i8_goes 62 [some (vr 41), none, none, some (vi x3), some (vi x4), some (vi x5), some (vi x6), some (vi T), some (vi x8)] [] (LC, M) Post
  | 0, x8, M, hx, ha, hl, h, hn => by
    refine W8_goes_62_41_51 ⟨fun q => ?_, fun q => ?_⟩
    · rw [wlt (by omega) (by omega) (by omega) (by omega)] at q
      omega
    · exact h M (fun i _ => rfl) (fun j _ _ _ => rfl) rfl (by simp [sRest]) (by simp [sRest])
  | n + 1, x8, M, hx, ha, hl, h, hn => by
    refine W8_goes_62_41_51 ⟨fun q => ⟨fun q2 => ?_, fun q2 => ?_⟩, fun q => ?_⟩
    · rw [wlt (by omega) (by omega) (by omega) (by omega)] at q2
      have e : mn (M 41 3 + 10) (M 41 0) = min (M 41 3 + 10) (M 41 0) := mn_eq (by omega) (by omega) (by omega) (by omega)
      rw [e]
      generalize hM1 : up (up (up M 41 6 (M 41 6 + 1)) 41 4 (M 41 4 + 15)) 41 3 (min (M 41 3 + 10) (M 41 0)) = M1
      have a0 : M1 41 0 = M 41 0 := by subst hM1; simp [up]
      have a3 : M1 41 3 = min (M 41 3 + 10) (M 41 0) := by subst hM1; simp [up]
      have a4 : M1 41 4 = M 41 4 + 15 := by subst hM1; simp [up]
      have a6 : M1 41 6 = M 41 6 + 1 := by subst hM1; simp [up]
      refine L_goes_41_51 hT n (x8 + 1) M1 (by omega) (by omega) (by omega) (fun M' f1 f2 f3 f4 f6 => ?_) (by omega)
      rw [a0, a3] at f3 f4 f6
      rw [a4] at f4
      rw [a6] at f6
      have e1 : sRest (M 41 0) T (n + 1) (M 41 3) = ((sRest (M 41 0) T n (min (M 41 3 + 10) (M 41 0))).1, (sRest (M 41 0) T n (min (M 41 3 + 10) (M 41 0))).2 + 1) := by simp only [sRest]; rw [if_pos q2]
      refine h M' (fun i hi => ?_) (fun j j3 j4 j6 => ?_) ?_ ?_ ?_
      · rw [f1 i hi]; subst hM1; rw [up_fr hi, up_fr hi, up_fr hi]
      · rw [f2 j j3 j4 j6]; subst hM1; rw [up_sl j3, up_sl j4, up_sl j6]
      · rw [e1, f3]
      · rw [e1, f4]; dsimp only; omega
      · rw [e1, f6]; dsimp only; omega
    · rw [wlt (by omega) (by omega) (by omega) (by omega)] at q2
      have e1 : sRest (M 41 0) T (n + 1) (M 41 3) = (M 41 3, 0) := by simp only [sRest]; rw [if_neg q2]
      exact h M (fun i _ => rfl) (fun j _ _ _ => rfl) (by rw [e1]) (by rw [e1]; simp) (by rw [e1]; simp)
    · rw [wlt (by omega) (by omega) (by omega) (by omega)] at q
      omega
theorem T_goes_41_51 {y hold pace k f j : Int} {M : Mem} {s : RS} {K : Mem → Prop} (hk : KOK k f) (hb : BOK hold pace) (hy : 0 ≤ y ∧ y < 20) (hkd : M 53 y.toNat = k) (hfg : M 55 y.toNat = f) (hW : WR M 41 s j) (hj : j < 10000)
    (h : ∀ M', (∀ i, i ≠ 41 → M' i = M i) → M' 41 0 = M 41 0 → M' 41 1 = M 41 1 → M' 41 2 = M 41 2 → WR M' 41 (sStep k f (M 41 0) (M 41 1) (M 41 2) hold pace s) (j + 1) → K M') : TV i8_goes 9 [vr 41, vr 51, vi y, vi hold, vi pace] (LC, M) K := by
  obtain ⟨⟨hA, hH, hD⟩, hjj, hs⟩ := hW
  have e1 : rd M 53 20 y = k := by rw [rd_in hy.1 (by omega) (by omega)]; exact hkd
  have e2 : rd M 55 20 y = f := by rw [rd_in hy.1 (by omega) (by omega)]; exact hfg
  have hb0 := hb
  obtain ⟨⟨b1, b2⟩, b3, b4⟩ := hb
  have e3 := f4_load (h := M 41 1) (hold := hold) hk hH.1 hH.2 b1 b2
  have hLd := sLoad_le (h := M 41 1) (hold := hold) hk hH.1 hH.2 b1 b2
  have e4 := f4_ten hk hb0
  have hTn := sTen_le hk hb0
  have e5 : f4_limitOn k (M 41 2) = sLim k (M 41 2) := f4_lim hk.1.1 hk.1.2 hD.1 hD.2
  have hLm := sLim_le (k := k) hD.1 hD.2
  have never : ∀ (hn : sStep k f (M 41 0) (M 41 1) (M 41 2) hold pace s = none), (wr 1 = 0 ∨ wr 1 = 1) ∧ (∃ M', (LC, up M 41 7 1) = (LC, M') ∧ K M') := by
    intro hn
    refine ⟨wb1, _, rfl, h _ (fun i hi => up_fr hi) (by simp [up]) (by simp [up]) (by simp [up]) ?_⟩
    rw [hn]
    exact ⟨by simp [up]; omega, by omega, by simp [up]⟩
  refine W8_goes_0_41_51 ?_
  rw [e1, e2, e3]
  obtain ⟨L, hL⟩ : ∃ L, L = sLoad k f (M 41 1) hold := ⟨_, rfl⟩
  rw [← hL] at hLd ⊢
  refine ⟨w2, fun q7 => ⟨fun q => ?_, fun q => ?_⟩, fun q7 => ?_⟩
  · rw [wlt (by omega) (by omega) (by omega) (by omega)] at q
    obtain ⟨z1, z2⟩ := never (by
      cases s with
      | none => rfl
      | some z => obtain ⟨l, t, n, r⟩ := z; simp only [sStep]; rw [if_pos (by rw [← hL]; exact q)])
    exact ⟨z1, rfl, z2⟩
  · rw [wlt (by omega) (by omega) (by omega) (by omega)] at q
    cases s with
    | none =>
      have h7 : M 41 7 = 1 := hs
      rw [h7] at q7
      exact absurd q7 (by rw [wr_id (by omega) (by omega)]; omega)
    | some z =>
      obtain ⟨l, t, n, r⟩ := z
      obtain ⟨s7, s3, s4, s5, s6, hl, ht, hn, hr⟩ := hs
      have hSR := sRest_ok (a := M 41 0) (t := L + pace) (by omega) (by omega) 6 l (by omega) (by omega) (by omega)
      refine L_goes_41_51 (T := L + pace) (by omega) 6 0 M (by omega) (by omega) (by omega) (fun M' f1 f2 f3 f4 f6 => ?_) (by omega)
      have g0 := f2 0 (by omega) (by omega) (by omega)
      have g1 := f2 1 (by omega) (by omega) (by omega)
      have g2 := f2 2 (by omega) (by omega) (by omega)
      have g5 := f2 5 (by omega) (by omega) (by omega)
      have g7 := f2 7 (by omega) (by omega) (by omega)
      rw [s3] at f3 f4 f6
      obtain ⟨R, hR⟩ : ∃ R, R = sRest (M 41 0) (L + pace) 6 l := ⟨_, rfl⟩
      rw [← hR] at f3 f4 f6 hSR
      obtain ⟨R1, R2⟩ := R
      dsimp only at f3 f4 f6 hSR
      refine ⟨fun p => ?_, fun p => ?_⟩
      · rw [g2, e5, wlt (by omega) (by omega) (by omega) (by omega)] at p
        rw [e4, mn_eq (by omega) (by omega) (by omega) (by omega)]
        refine ⟨rfl, _, rfl, h _ (fun i hi => ?_) (by simp [up]; exact g0) (by simp [up]; exact g1) (by simp [up]; exact g2) ?_⟩
        · rw [up_fr hi, up_fr hi, up_fr hi, up_fr hi, up_fr hi]; exact f1 i hi
        · have e9 : sStep k f (M 41 0) (M 41 1) (M 41 2) hold pace (some (l, t, n, r)) = some (min (R1 - (L + pace) + 5) (M 41 0), t + 15 * R2 + sTen k f hold pace + 40, n + 1, r + R2) := by
            simp only [sStep]
            rw [← hL, if_neg q, if_pos p, ← hR]
          rw [e9]
          refine ⟨by simp [up]; omega, by omega, ?_⟩
          simp [up]
          refine ⟨by omega, by omega, by omega, by omega, by omega, by omega, by omega, by omega, by omega⟩
      · rw [g2, e5, wlt (by omega) (by omega) (by omega) (by omega)] at p
        rw [e4]
        refine ⟨rfl, _, rfl, h _ (fun i hi => ?_) (by simp [up]; exact g0) (by simp [up]; exact g1) (by simp [up]; exact g2) ?_⟩
        · rw [up_fr hi, up_fr hi]; exact f1 i hi
        · have e9 : sStep k f (M 41 0) (M 41 1) (M 41 2) hold pace (some (l, t, n, r)) = some (R1 - (L + pace), t + 15 * R2 + sTen k f hold pace, n, r + R2) := by
            simp only [sStep]
            rw [← hL, if_neg q, if_neg p, ← hR]
          rw [e9]
          refine ⟨by simp [up]; omega, by omega, ?_⟩
          simp [up]
          refine ⟨by omega, by omega, by omega, by omega, by omega, by omega, by omega, by omega, by omega⟩
  · cases s with
    | none =>
      obtain ⟨z1, z2⟩ := never rfl
      exact ⟨z1, rfl, z2⟩
    | some z =>
      obtain ⟨l, t, n, r⟩ := z
      have h7 : M 41 7 = 0 := hs.1
      rw [h7] at q7
      exact absurd (wr_id (x := 0) (by omega) (by omega)) q7
theorem L_goes_41_56 {x3 x4 x5 x6 T : Int} {Post : Option AV → GM → Prop} (hT : 0 ≤ T ∧ T ≤ 100) : ∀ (n : Nat) (x8 : Int) (M : Mem), x8 + (n : Int) = 6 → (0 ≤ M 41 0 ∧ M 41 0 ≤ 60) → (0 ≤ M 41 3 ∧ M 41 3 ≤ M 41 0) →
    (∀ M', (∀ i, i ≠ 41 → M' i = M i) → (∀ j, j ≠ 3 → j ≠ 4 → j ≠ 6 → M' 41 j = M 41 j) → M' 41 3 = (sRest (M 41 0) T n (M 41 3)).1 → M' 41 4 = M 41 4 + 15 * (sRest (M 41 0) T n (M 41 3)).2 → M' 41 6 = M 41 6 + (sRest (M 41 0) T n (M 41 3)).2 → tl_goes 41 x3 x4 x5 x6 T Post M') →
    n ≤ 6 → TA i8_goes 62 [some (vr 41), none, none, some (vi x3), some (vi x4), some (vi x5), some (vi x6), some (vi T), some (vi x8)] [] (LC, M) Post
  | 0, x8, M, hx, ha, hl, h, hn => by
    refine W8_goes_62_41_56 ⟨fun q => ?_, fun q => ?_⟩
    · rw [wlt (by omega) (by omega) (by omega) (by omega)] at q
      omega
    · exact h M (fun i _ => rfl) (fun j _ _ _ => rfl) rfl (by simp [sRest]) (by simp [sRest])
  | n + 1, x8, M, hx, ha, hl, h, hn => by
    refine W8_goes_62_41_56 ⟨fun q => ⟨fun q2 => ?_, fun q2 => ?_⟩, fun q => ?_⟩
    · rw [wlt (by omega) (by omega) (by omega) (by omega)] at q2
      have e : mn (M 41 3 + 10) (M 41 0) = min (M 41 3 + 10) (M 41 0) := mn_eq (by omega) (by omega) (by omega) (by omega)
      rw [e]
      generalize hM1 : up (up (up M 41 6 (M 41 6 + 1)) 41 4 (M 41 4 + 15)) 41 3 (min (M 41 3 + 10) (M 41 0)) = M1
      have a0 : M1 41 0 = M 41 0 := by subst hM1; simp [up]
      have a3 : M1 41 3 = min (M 41 3 + 10) (M 41 0) := by subst hM1; simp [up]
      have a4 : M1 41 4 = M 41 4 + 15 := by subst hM1; simp [up]
      have a6 : M1 41 6 = M 41 6 + 1 := by subst hM1; simp [up]
      refine L_goes_41_56 hT n (x8 + 1) M1 (by omega) (by omega) (by omega) (fun M' f1 f2 f3 f4 f6 => ?_) (by omega)
      rw [a0, a3] at f3 f4 f6
      rw [a4] at f4
      rw [a6] at f6
      have e1 : sRest (M 41 0) T (n + 1) (M 41 3) = ((sRest (M 41 0) T n (min (M 41 3 + 10) (M 41 0))).1, (sRest (M 41 0) T n (min (M 41 3 + 10) (M 41 0))).2 + 1) := by simp only [sRest]; rw [if_pos q2]
      refine h M' (fun i hi => ?_) (fun j j3 j4 j6 => ?_) ?_ ?_ ?_
      · rw [f1 i hi]; subst hM1; rw [up_fr hi, up_fr hi, up_fr hi]
      · rw [f2 j j3 j4 j6]; subst hM1; rw [up_sl j3, up_sl j4, up_sl j6]
      · rw [e1, f3]
      · rw [e1, f4]; dsimp only; omega
      · rw [e1, f6]; dsimp only; omega
    · rw [wlt (by omega) (by omega) (by omega) (by omega)] at q2
      have e1 : sRest (M 41 0) T (n + 1) (M 41 3) = (M 41 3, 0) := by simp only [sRest]; rw [if_neg q2]
      exact h M (fun i _ => rfl) (fun j _ _ _ => rfl) (by rw [e1]) (by rw [e1]; simp) (by rw [e1]; simp)
    · rw [wlt (by omega) (by omega) (by omega) (by omega)] at q
      omega
theorem T_goes_41_56 {y hold pace k f j : Int} {M : Mem} {s : RS} {K : Mem → Prop} (hk : KOK k f) (hb : BOK hold pace) (hy : 0 ≤ y ∧ y < 20) (hkd : M 58 y.toNat = k) (hfg : M 60 y.toNat = f) (hW : WR M 41 s j) (hj : j < 10000)
    (h : ∀ M', (∀ i, i ≠ 41 → M' i = M i) → M' 41 0 = M 41 0 → M' 41 1 = M 41 1 → M' 41 2 = M 41 2 → WR M' 41 (sStep k f (M 41 0) (M 41 1) (M 41 2) hold pace s) (j + 1) → K M') : TV i8_goes 9 [vr 41, vr 56, vi y, vi hold, vi pace] (LC, M) K := by
  obtain ⟨⟨hA, hH, hD⟩, hjj, hs⟩ := hW
  have e1 : rd M 58 20 y = k := by rw [rd_in hy.1 (by omega) (by omega)]; exact hkd
  have e2 : rd M 60 20 y = f := by rw [rd_in hy.1 (by omega) (by omega)]; exact hfg
  have hb0 := hb
  obtain ⟨⟨b1, b2⟩, b3, b4⟩ := hb
  have e3 := f4_load (h := M 41 1) (hold := hold) hk hH.1 hH.2 b1 b2
  have hLd := sLoad_le (h := M 41 1) (hold := hold) hk hH.1 hH.2 b1 b2
  have e4 := f4_ten hk hb0
  have hTn := sTen_le hk hb0
  have e5 : f4_limitOn k (M 41 2) = sLim k (M 41 2) := f4_lim hk.1.1 hk.1.2 hD.1 hD.2
  have hLm := sLim_le (k := k) hD.1 hD.2
  have never : ∀ (hn : sStep k f (M 41 0) (M 41 1) (M 41 2) hold pace s = none), (wr 1 = 0 ∨ wr 1 = 1) ∧ (∃ M', (LC, up M 41 7 1) = (LC, M') ∧ K M') := by
    intro hn
    refine ⟨wb1, _, rfl, h _ (fun i hi => up_fr hi) (by simp [up]) (by simp [up]) (by simp [up]) ?_⟩
    rw [hn]
    exact ⟨by simp [up]; omega, by omega, by simp [up]⟩
  refine W8_goes_0_41_56 ?_
  rw [e1, e2, e3]
  obtain ⟨L, hL⟩ : ∃ L, L = sLoad k f (M 41 1) hold := ⟨_, rfl⟩
  rw [← hL] at hLd ⊢
  refine ⟨w2, fun q7 => ⟨fun q => ?_, fun q => ?_⟩, fun q7 => ?_⟩
  · rw [wlt (by omega) (by omega) (by omega) (by omega)] at q
    obtain ⟨z1, z2⟩ := never (by
      cases s with
      | none => rfl
      | some z => obtain ⟨l, t, n, r⟩ := z; simp only [sStep]; rw [if_pos (by rw [← hL]; exact q)])
    exact ⟨z1, rfl, z2⟩
  · rw [wlt (by omega) (by omega) (by omega) (by omega)] at q
    cases s with
    | none =>
      have h7 : M 41 7 = 1 := hs
      rw [h7] at q7
      exact absurd q7 (by rw [wr_id (by omega) (by omega)]; omega)
    | some z =>
      obtain ⟨l, t, n, r⟩ := z
      obtain ⟨s7, s3, s4, s5, s6, hl, ht, hn, hr⟩ := hs
      have hSR := sRest_ok (a := M 41 0) (t := L + pace) (by omega) (by omega) 6 l (by omega) (by omega) (by omega)
      refine L_goes_41_56 (T := L + pace) (by omega) 6 0 M (by omega) (by omega) (by omega) (fun M' f1 f2 f3 f4 f6 => ?_) (by omega)
      have g0 := f2 0 (by omega) (by omega) (by omega)
      have g1 := f2 1 (by omega) (by omega) (by omega)
      have g2 := f2 2 (by omega) (by omega) (by omega)
      have g5 := f2 5 (by omega) (by omega) (by omega)
      have g7 := f2 7 (by omega) (by omega) (by omega)
      rw [s3] at f3 f4 f6
      obtain ⟨R, hR⟩ : ∃ R, R = sRest (M 41 0) (L + pace) 6 l := ⟨_, rfl⟩
      rw [← hR] at f3 f4 f6 hSR
      obtain ⟨R1, R2⟩ := R
      dsimp only at f3 f4 f6 hSR
      refine ⟨fun p => ?_, fun p => ?_⟩
      · rw [g2, e5, wlt (by omega) (by omega) (by omega) (by omega)] at p
        rw [e4, mn_eq (by omega) (by omega) (by omega) (by omega)]
        refine ⟨rfl, _, rfl, h _ (fun i hi => ?_) (by simp [up]; exact g0) (by simp [up]; exact g1) (by simp [up]; exact g2) ?_⟩
        · rw [up_fr hi, up_fr hi, up_fr hi, up_fr hi, up_fr hi]; exact f1 i hi
        · have e9 : sStep k f (M 41 0) (M 41 1) (M 41 2) hold pace (some (l, t, n, r)) = some (min (R1 - (L + pace) + 5) (M 41 0), t + 15 * R2 + sTen k f hold pace + 40, n + 1, r + R2) := by
            simp only [sStep]
            rw [← hL, if_neg q, if_pos p, ← hR]
          rw [e9]
          refine ⟨by simp [up]; omega, by omega, ?_⟩
          simp [up]
          refine ⟨by omega, by omega, by omega, by omega, by omega, by omega, by omega, by omega, by omega⟩
      · rw [g2, e5, wlt (by omega) (by omega) (by omega) (by omega)] at p
        rw [e4]
        refine ⟨rfl, _, rfl, h _ (fun i hi => ?_) (by simp [up]; exact g0) (by simp [up]; exact g1) (by simp [up]; exact g2) ?_⟩
        · rw [up_fr hi, up_fr hi]; exact f1 i hi
        · have e9 : sStep k f (M 41 0) (M 41 1) (M 41 2) hold pace (some (l, t, n, r)) = some (R1 - (L + pace), t + 15 * R2 + sTen k f hold pace, n, r + R2) := by
            simp only [sStep]
            rw [← hL, if_neg q, if_neg p, ← hR]
          rw [e9]
          refine ⟨by simp [up]; omega, by omega, ?_⟩
          simp [up]
          refine ⟨by omega, by omega, by omega, by omega, by omega, by omega, by omega, by omega, by omega⟩
  · cases s with
    | none =>
      obtain ⟨z1, z2⟩ := never rfl
      exact ⟨z1, rfl, z2⟩
    | some z =>
      obtain ⟨l, t, n, r⟩ := z
      have h7 : M 41 7 = 0 := hs.1
      rw [h7] at q7
      exact absurd (wr_id (x := 0) (by omega) (by omega)) q7

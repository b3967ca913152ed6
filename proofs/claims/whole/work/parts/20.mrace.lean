/-! a step of a race, a race, in the reference -/
def WM (M : Mem) (s : RS) (j : Int) : Prop := ((0 ≤ M 0 10 ∧ M 0 10 ≤ 60) ∧ (0 ≤ M 0 11 ∧ M 0 11 ≤ 9) ∧ (0 ≤ M 0 12 ∧ M 0 12 ≤ 9)) ∧ (0 ≤ j ∧ j ≤ 100000) ∧ (-9 ≤ M 0 18 ∧ M 0 18 ≤ 20) ∧ match s with
  | none => M 0 17 = 1
  | some (l, t, n, r) => M 0 17 = 0 ∧ M 0 16 = l ∧ M 0 13 = t ∧ M 0 14 = n ∧ M 0 15 = r ∧ (0 ≤ l ∧ l ≤ M 0 10) ∧ (0 ≤ t ∧ t ≤ 200 * j) ∧ (0 ≤ n ∧ n ≤ j) ∧ (0 ≤ r ∧ r ≤ 6 * j)
/-- what a step of the reference may change: the numbers of the race -/
def FrS (M M' : Mem) : Prop := (∀ i, i ≠ 0 → M' i = M i) ∧ (∀ j, (j < 13 ∨ 18 < j) → M' 0 j = M 0 j)
theorem FrS.rf (M : Mem) : FrS M M := ⟨fun _ _ => rfl, fun _ _ => rfl⟩
theorem FrS.tr {M M1 M2 : Mem} (h1 : FrS M M1) (h2 : FrS M1 M2) : FrS M M2 := ⟨fun i hi => (h2.1 i hi).trans (h1.1 i hi), fun j hj => (h2.2 j hj).trans (h1.2 j hj)⟩
theorem FrS.up {M M1 : Mem} (h1 : FrS M M1) {k : Nat} {v : Int} (hk : 13 ≤ k ∧ k ≤ 18) : FrS M (up M1 0 k v) := ⟨fun i hi => by rw [up_fr hi]; exact h1.1 i hi, fun j hj => by rw [up_sl (by omega)]; exact h1.2 j hj⟩
theorem al1 {x : Int} (h1 : -2147483648 ≤ x) (h2 : x < 2147483648) : f10_atLeastOne x = max x 1 := by
  unfold f10_atLeastOne; rw [wr_id h1 h2, wr_id (by omega) (by omega)]; split <;> omega
theorem les {x y : Int} (h1 : -2147483648 ≤ x) (h2 : x < 2147483648) (h3 : -2147483648 ≤ y) (h4 : y < 2147483648) : f10_lesser x y = min x y := by
  unfold f10_lesser; rw [wr_id h1 h2, wr_id h3 h4]; split <;> omega
theorem m_load {M : Mem} {i k f hold : Int} (hi : 0 ≤ i ∧ i < 40) (hkd : M 1 i.toNat = k) (hfg : M 2 i.toNat = f) (hk : KOK k f) (h1 : 0 ≤ M 0 11) (h2 : M 0 11 ≤ 9) (h3 : 0 ≤ hold) (h4 : hold ≤ 2) : f10_loadOf M i hold = sLoad k f (M 0 11) hold := by
  obtain ⟨⟨a, b⟩, c, d⟩ := hk
  have := hv_half h1 h2 h3 h4
  unfold f10_loadOf sLoad
  rw [wr_id (x := i) (by omega) (by omega), hkd, hfg]
  generalize M 0 11 * (4 - hold) = z at *
  rw [wr_id (by omega) (by omega), dv_nat (x := z) (by omega) (by omega) (by omega) (by omega), dv_nat (x := f) (by omega) (by omega) (by omega) (by omega), al1 (by omega) (by omega)]
theorem m_ten {M : Mem} {i k f hold pace : Int} (hi : 0 ≤ i ∧ i < 40) (hkd : M 1 i.toNat = k) (hfg : M 2 i.toNat = f) (hk : KOK k f) (hb : BOK hold pace) : f10_tenthsOf M i hold pace = sTen k f hold pace := by
  obtain ⟨⟨a, b⟩, c, d⟩ := hk
  obtain ⟨⟨b1, b2⟩, b3, b4⟩ := hb
  unfold f10_tenthsOf sTen
  rw [wr_id (x := i) (by omega) (by omega), hkd, hfg, wr_id (by omega) (by omega), al1 (by omega) (by omega)]
theorem m_limB {M : Mem} {i k h : Int} (hi : 0 ≤ i ∧ i < 40) (hkd : M 1 i.toNat = k) (hk : 0 ≤ k ∧ k ≤ 5) (h3 : 0 ≤ h) (h4 : h ≤ 9) : f10_limitBy M i h = sLim k h := by
  unfold f10_limitBy sLim
  rw [wr_id (x := i) (by omega) (by omega), hkd, wr_id (by omega) (by omega), al1 (x := h - 1) (by omega) (by omega), al1 (x := h - 2) (by omega) (by omega)]
theorem m_lim {M : Mem} {i k : Int} (hi : 0 ≤ i ∧ i < 40) (hkd : M 1 i.toNat = k) (hk : 0 ≤ k ∧ k ≤ 5) (h3 : 0 ≤ M 0 12) (h4 : M 0 12 ≤ 9) : f10_limitOf M i = sLim k (M 0 12) := m_limB hi hkd hk h3 h4
def tl_step (q : Option Nat) (x1 x2 x3 x4 : Int) (Post : Option AV → GM → Prop) (M : Mem) : Prop :=
  (wr (M 0 17) = 0 → (0 ≤ wr x1 ∧ wr x1 < ((40 : Nat) : Int)) ∧ ((0 ≤ wr x1 ∧ wr x1 < ((40 : Nat) : Int)) ∧ ((wr (f10_limitOf (up (up M 0 16 ((M 0 16) - x4)) 0 13 ((M 0 13) + (f10_tenthsOf (up M 0 16 ((M 0 16) - x4)) x1 x2 x3))) x1) < wr x3 → Post none (LM q, up (up (up (up (up M 0 16 ((M 0 16) - x4)) 0 13 ((M 0 13) + (f10_tenthsOf (up M 0 16 ((M 0 16) - x4)) x1 x2 x3))) 0 14 ((M 0 14) + 1)) 0 13 (((M 0 13) + (f10_tenthsOf (up M 0 16 ((M 0 16) - x4)) x1 x2 x3)) + 40)) 0 16 (f10_lesser (M 0 10) (((M 0 16) - x4) + 5)))) ∧ (¬ (wr (f10_limitOf (up (up M 0 16 ((M 0 16) - x4)) 0 13 ((M 0 13) + (f10_tenthsOf (up M 0 16 ((M 0 16) - x4)) x1 x2 x3))) x1) < wr x3) → Post none (LM q, up (up M 0 16 ((M 0 16) - x4)) 0 13 ((M 0 13) + (f10_tenthsOf (up M 0 16 ((M 0 16) - x4)) x1 x2 x3))))))) ∧ (¬ (wr (M 0 17) = 0) → Post none (LM q, M))
/-- the rests; some of the fuel is left -/
theorem L_step {q : Option Nat} {x1 x2 x3 T : Int} {Post : Option AV → GM → Prop} (hT : 0 ≤ T ∧ T ≤ 100) (hi : 0 ≤ x1 ∧ x1 < 40) : ∀ (n : Nat) (M : Mem), (0 ≤ M 0 10 ∧ M 0 10 ≤ 60) → T ≤ M 0 10 → M 0 17 = 0 → (-9 ≤ M 0 18 ∧ M 0 18 ≤ 20) → (0 ≤ M 0 16 ∧ M 0 16 ≤ M 0 10) → 60 - 10 * (n : Int) ≤ M 0 16 →
    (∀ M', FrS M M' → M' 0 17 = 0 → M' 0 14 = M 0 14 → M' 0 16 = (sRest (M 0 10) T n (M 0 16)).1 → M' 0 13 = M 0 13 + 15 * (sRest (M 0 10) T n (M 0 16)).2 → M' 0 15 = M 0 15 + (sRest (M 0 10) T n (M 0 16)).2 → M' 0 18 = (if M 0 16 < T ∧ M 0 18 < 0 then x1 % 20 else M 0 18) → tl_step q x1 x2 x3 T Post M') →
    TA i10_stepOn 10 [some (vr 0), some (vi x1), some (vi x2), some (vi x3), some (vi T)] [] (LM q, M) Post
  | 0, M, ha, hTa, h7, h8, hl, hlo, h => by
    refine W10_stepOn_10 ⟨fun p => ?_, fun p => ?_⟩
    · rw [wlt (by omega) (by omega) (by omega) (by omega)] at p
      omega
    · rw [wlt (by omega) (by omega) (by omega) (by omega)] at p
      exact h M (FrS.rf M) h7 rfl rfl (by simp [sRest]) (by simp [sRest]) (by rw [if_neg (by omega)])
  | n + 1, M, ha, hTa, h7, h8, hl, hlo, h => by
    have go : ∀ (v : Int), (-9 ≤ v ∧ v ≤ 20) → ¬ v < 0 → v = (if M 0 16 < T ∧ M 0 18 < 0 then x1 % 20 else M 0 18) → M 0 16 < T →
        TA i10_stepOn 10 [some (vr 0), some (vi x1), some (vi x2), some (vi x3), some (vi T)] [] (LM q, up (up (up (up M 0 18 v) 0 15 ((M 0 15) + 1)) 0 13 ((M 0 13) + 15)) 0 16 (f10_lesser (M 0 10) ((M 0 16) + 10))) Post := by
      intro v hv hv2 hve q2
      rw [les (by omega) (by omega) (by omega) (by omega)]
      obtain ⟨M1, hM1⟩ : ∃ M1, M1 = up (up (up (up M 0 18 v) 0 15 ((M 0 15) + 1)) 0 13 ((M 0 13) + 15)) 0 16 (min (M 0 10) (M 0 16 + 10)) := ⟨_, rfl⟩
      rw [← hM1]
      have fr1 : FrS M M1 := by rw [hM1]; exact ((((FrS.rf M).up (by omega)).up (by omega)).up (by omega)).up (by omega)
      have a10 : M1 0 10 = M 0 10 := fr1.2 10 (by omega)
      have a13 : M1 0 13 = M 0 13 + 15 := by rw [hM1]; simp [up]
      have a14 : M1 0 14 = M 0 14 := by rw [hM1]; simp [up]
      have a15 : M1 0 15 = M 0 15 + 1 := by rw [hM1]; simp [up]
      have a16 : M1 0 16 = min (M 0 16 + 10) (M 0 10) := by rw [hM1]; simp [up]; omega
      have a17 : M1 0 17 = M 0 17 := by rw [hM1]; simp [up]
      have a18 : M1 0 18 = v := by rw [hM1]; simp [up]
      have e1 : sRest (M 0 10) T (n + 1) (M 0 16) = ((sRest (M 0 10) T n (min (M 0 16 + 10) (M 0 10))).1, (sRest (M 0 10) T n (min (M 0 16 + 10) (M 0 10))).2 + 1) := by simp only [sRest]; rw [if_pos q2]
      have fin : ∀ M', FrS M1 M' → M' 0 17 = 0 → M' 0 14 = M1 0 14 → M' 0 16 = (sRest (M 0 10) T n (min (M 0 16 + 10) (M 0 10))).1 → M' 0 13 = M1 0 13 + 15 * (sRest (M 0 10) T n (min (M 0 16 + 10) (M 0 10))).2 → M' 0 15 = M1 0 15 + (sRest (M 0 10) T n (min (M 0 16 + 10) (M 0 10))).2 → M' 0 18 = v → tl_step q x1 x2 x3 T Post M' := by
        intro M' f1 f2 f3 f4 f5 f6 f7
        exact h M' (fr1.tr f1) f2 (by rw [f3, a14]) (by rw [e1, f4]) (by rw [e1, f5, a13]; dsimp only; omega) (by rw [e1, f6, a15]; dsimp only; omega) (by rw [f7]; exact hve)
      by_cases hfull : 60 - 10 * (n : Int) ≤ M1 0 16
      · refine L_step hT hi n M1 (by omega) (by omega) (by omega) (by omega) (by omega) hfull (fun M' f1 f2 f3 f4 f5 f6 f7 => ?_)
        rw [a10, a16] at f4 f5 f6
        exact fin M' f1 f2 f3 f4 f5 f6 (by rw [f7, a18, if_neg (by omega)])
      · have h16 : min (M 0 16 + 10) (M 0 10) = M 0 10 := by omega
        have e6 : sRest (M 0 10) T n (M 0 10) = (M 0 10, 0) := by
          cases n with
          | zero => rfl
          | succ n => simp only [sRest]; rw [if_neg (by omega)]
        rw [h16] at a16 fin
        rw [e6] at fin
        refine W10_stepOn_10 ⟨fun p => ?_, fun p => ?_⟩
        · rw [wlt (by omega) (by omega) (by omega) (by omega)] at p
          omega
        · exact fin M1 (FrS.rf M1) (by omega) rfl (by rw [a16]) (by simp) (by simp) a18
    refine W10_stepOn_10 ⟨fun p => ⟨fun p7 => ⟨fun p8 => ⟨by rw [wr_id (by omega) (by omega)]; omega, fun pa => ?_, fun pa => ?_⟩, fun p8 => ⟨fun pa => ?_, fun pa => ?_⟩⟩, fun p7 => ?_⟩, fun p => ?_⟩
    · rw [wlt (by omega) (by omega) (by omega) (by omega)] at pa
      omega
    · rw [wlt (by omega) (by omega) (by omega) (by omega)] at p
      rw [wr_id (by omega) (by omega)] at p8
      have e20 : rmd x1 20 = x1 % 20 := rmd_nat (by omega) (by omega) (by omega) (by omega)
      rw [e20]
      exact go _ (by omega) (by omega) (by rw [if_pos ⟨p, p8⟩]) p
    · rw [wlt (by omega) (by omega) (by omega) (by omega)] at pa
      omega
    · rw [wlt (by omega) (by omega) (by omega) (by omega)] at p
      rw [wr_id (by omega) (by omega)] at p8
      exact go _ (by omega) (by omega) (by rw [if_neg (by omega)]) p
    · rw [h7, wr_id (by omega) (by omega)] at p7
      exact absurd rfl p7
    · rw [wlt (by omega) (by omega) (by omega) (by omega)] at p
      have e1 : sRest (M 0 10) T (n + 1) (M 0 16) = (M 0 16, 0) := by simp only [sRest]; rw [if_neg p]
      exact h M (FrS.rf M) h7 rfl (by rw [e1]) (by rw [e1]; simp) (by rw [e1]; simp) (by rw [if_neg (by omega)])
def sFR (T fr i : Int) (s : RS) : Int := match s with
  | none => fr
  | some (l, _, _, _) => if l < T ∧ fr < 0 then i % 20 else fr
/-- the step, when the race is never over already -/
theorem N_step {q : Option Nat} {x1 x2 x3 x4 : Int} {Post : Option AV → GM → Prop} {M : Mem} (h7 : M 0 17 = 1) (h : Post none (LM q, M)) : TA i10_stepOn 10 [some (vr 0), some (vi x1), some (vi x2), some (vi x3), some (vi x4)] [] (LM q, M) Post := by
  have hn : ¬ wr (M 0 17) = 0 := by rw [h7, wr_id (by omega) (by omega)]; omega
  exact W10_stepOn_10 ⟨fun _ => ⟨fun p => absurd p hn, fun _ => ⟨fun p => absurd p hn, fun _ => h⟩⟩, fun _ => ⟨fun p => absurd p hn, fun _ => h⟩⟩
theorem T_stepOn {q : Option Nat} {i hold pace k f j : Int} {M : Mem} {s : RS} {K : Mem → Prop} (hi : 0 ≤ i ∧ i < 40) (hk : KOK k f) (hb : BOK hold pace) (hkd : M 1 i.toNat = k) (hfg : M 2 i.toNat = f) (hW : WM M s j) (hj : j < 10000)
    (h : ∀ M', FrS M M' → WM M' (sStep k f (M 0 10) (M 0 11) (M 0 12) hold pace s) (j + 1) → M' 0 18 = sFR (sLoad k f (M 0 11) hold + pace) (M 0 18) i s → K M') : TV i10_stepOn 5 [vr 0, vi i, vi hold, vi pace] (LM q, M) K := by
  obtain ⟨⟨hA, hH, hD⟩, hjj, h8, hs⟩ := hW
  have hb0 := hb
  obtain ⟨⟨b1, b2⟩, b3, b4⟩ := hb
  have e3 := m_load hi hkd hfg hk hH.1 hH.2 b1 b2
  have hLd := sLoad_le (h := M 0 11) (hold := hold) hk hH.1 hH.2 b1 b2
  have hTn := sTen_le hk hb0
  have hLm := sLim_le (k := k) hD.1 hD.2
  have hci : 0 ≤ wr i ∧ wr i < ((40 : Nat) : Int) := by rw [wr_id (by omega) (by omega)]; omega
  refine W10_stepOn_0 ⟨w2, hci, ?_⟩
  rw [e3]
  obtain ⟨L, hL⟩ : ∃ L, L = sLoad k f (M 0 11) hold := ⟨_, rfl⟩
  rw [← hL] at hLd h ⊢
  cases s with
  | none =>
    refine N_step hs ⟨rfl, M, rfl, h M (FrS.rf M) ?_ rfl⟩
    exact ⟨⟨hA, hH, hD⟩, by omega, h8, hs⟩
  | some z =>
    obtain ⟨l, t, n, r⟩ := z
    obtain ⟨s7, s16, s13, s14, s15, hl, ht, hn, hr⟩ := hs
    by_cases hT : M 0 10 < L + pace
    · have e9 : sStep k f (M 0 10) (M 0 11) (M 0 12) hold pace (some (l, t, n, r)) = none := by simp only [sStep]; rw [← hL, if_pos hT]
      rw [e9] at h
      have go : ∀ v : Int, (-9 ≤ v ∧ v ≤ 20) → v = sFR (L + pace) (M 0 18) i (some (l, t, n, r)) → TA i10_stepOn 10 [some (vr 0), some (vi i), some (vi hold), some (vi pace), some (vi (L + pace))] [] (LM q, up (up M 0 18 v) 0 17 1) (fun rv G' => rv = none ∧ ∃ M', G' = ((LM q, M).1, M') ∧ K M') := by
        intro v hv hve
        refine N_step (by simp [up]) ⟨rfl, _, rfl, h _ (((FrS.rf M).up (by omega)).up (by omega)) ?_ ?_⟩
        · exact ⟨⟨by simp [up]; omega, by simp [up]; omega, by simp [up]; omega⟩, by omega, by simp [up]; omega, by simp [up]⟩
        · rw [← hve]; simp [up]
      refine W10_stepOn_10 ⟨fun p => ⟨fun p7 => ⟨fun p8 => ⟨by rw [wr_id (by omega) (by omega)]; omega, fun pa => ⟨wb1, ?_⟩, fun pa => ?_⟩, fun p8 => ⟨fun pa => ⟨wb1, ?_⟩, fun pa => ?_⟩⟩, fun p7 => ?_⟩, fun p => ?_⟩
      · rw [wr_id (by omega) (by omega)] at p8
        have e20 : rmd i 20 = i % 20 := rmd_nat (by omega) (by omega) (by omega) (by omega)
        rw [e20]
        exact go _ (by omega) (by simp only [sFR]; rw [if_pos ⟨by omega, p8⟩])
      · rw [wlt (by omega) (by omega) (by omega) (by omega)] at pa
        omega
      · rw [wr_id (by omega) (by omega)] at p8
        exact go _ (by omega) (by simp only [sFR]; rw [if_neg (by omega)])
      · rw [wlt (by omega) (by omega) (by omega) (by omega)] at pa
        omega
      · rw [s7, wr_id (by omega) (by omega)] at p7
        exact absurd rfl p7
      · rw [wlt (by omega) (by omega) (by omega) (by omega)] at p
        omega
    · have hSR := sRest_ok (a := M 0 10) (t := L + pace) (by omega) (by omega) 6 l (by omega) (by omega) (by omega)
      refine L_step (by omega) hi 6 M (by omega) (by omega) s7 h8 (by omega) (by omega) (fun M' f1 f7 f14 f16 f13 f15 f18 => ?_)
      have g10 : M' 0 10 = M 0 10 := f1.2 10 (by omega)
      have g11 : M' 0 11 = M 0 11 := f1.2 11 (by omega)
      have g12 : M' 0 12 = M 0 12 := f1.2 12 (by omega)
      have m1 : M' 1 = M 1 := f1.1 1 (by omega)
      have m2 : M' 2 = M 2 := f1.1 2 (by omega)
      rw [s16] at f16 f13 f15 f18
      obtain ⟨R, hR⟩ : ∃ R, R = sRest (M 0 10) (L + pace) 6 l := ⟨_, rfl⟩
      rw [← hR] at f16 f13 f15 hSR
      obtain ⟨R1, R2⟩ := R
      dsimp only at f16 f13 f15 hSR
      have hfr : M' 0 18 = sFR (L + pace) (M 0 18) i (some (l, t, n, r)) := f18
      have h18 : -9 ≤ M' 0 18 ∧ M' 0 18 ≤ 20 := by rw [f18]; split <;> omega
      have et : f10_tenthsOf (up M' 0 16 (M' 0 16 - (L + pace))) i hold pace = sTen k f hold pace := m_ten hi (by rw [up_fr (by omega), m1]; exact hkd) (by rw [up_fr (by omega), m2]; exact hfg) hk hb0
      have el : f10_limitOf (up (up M' 0 16 (M' 0 16 - (L + pace))) 0 13 (M' 0 13 + sTen k f hold pace)) i = sLim k (M 0 12) := by
        have e12 : (up (up M' 0 16 (M' 0 16 - (L + pace))) 0 13 (M' 0 13 + sTen k f hold pace)) 0 12 = M 0 12 := by rw [up_sl (by omega), up_sl (by omega)]; exact g12
        rw [m_lim (k := k) hi (by rw [up_fr (by omega), up_fr (by omega), m1]; exact hkd) hk.1 (by rw [e12]; exact hD.1) (by rw [e12]; exact hD.2), e12]
      unfold tl_step
      rw [et, el]
      refine ⟨fun _ => ⟨hci, hci, fun p => ?_, fun p => ?_⟩, fun p7 => ?_⟩
      · rw [wlt (by omega) (by omega) (by omega) (by omega)] at p
        rw [les (by omega) (by omega) (by omega) (by omega)]
        have e9 : sStep k f (M 0 10) (M 0 11) (M 0 12) hold pace (some (l, t, n, r)) = some (min (R1 - (L + pace) + 5) (M 0 10), t + 15 * R2 + sTen k f hold pace + 40, n + 1, r + R2) := by
          simp only [sStep]
          rw [← hL, if_neg hT, if_pos p, ← hR]
        rw [e9] at h
        refine ⟨rfl, _, rfl, h _ (((((f1.up (by omega)).up (by omega)).up (by omega)).up (by omega)).up (by omega)) ?_ ?_⟩
        · refine ⟨⟨by simp [up]; omega, by simp [up]; omega, by simp [up]; omega⟩, by omega, by simp [up]; omega, ?_⟩
          simp [up]
          refine ⟨by omega, by omega, by omega, by omega, by omega, by omega, by omega, by omega, by omega⟩
        · rw [← hfr]; simp [up]
      · rw [wlt (by omega) (by omega) (by omega) (by omega)] at p
        have e9 : sStep k f (M 0 10) (M 0 11) (M 0 12) hold pace (some (l, t, n, r)) = some (R1 - (L + pace), t + 15 * R2 + sTen k f hold pace, n, r + R2) := by
          simp only [sStep]
          rw [← hL, if_neg hT, if_neg p, ← hR]
        rw [e9] at h
        refine ⟨rfl, _, rfl, h _ ((f1.up (by omega)).up (by omega)) ?_ ?_⟩
        · refine ⟨⟨by simp [up]; omega, by simp [up]; omega, by simp [up]; omega⟩, by omega, by simp [up]; omega, ?_⟩
          simp [up]
          refine ⟨by omega, by omega, by omega, by omega, by omega, by omega, by omega, by omega, by omega⟩
        · rw [← hfr]; simp [up]
      · rw [f7, wr_id (by omega) (by omega)] at p7
        exact absurd rfl p7

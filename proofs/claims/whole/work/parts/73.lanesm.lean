/-! lanes, in the reference; lanes: both sides answer alike -/
def RL (F : FS) (p : Nat) (M : Mem) : Prop := RMf F M ∧ M 0 10 = ar F p ∧ M 0 11 = hv F p ∧ M 0 12 = hd F p
def FrN (M M' : Mem) : Prop := (∀ i, i ≠ 0 → i ≠ 19 → i ≠ 20 → M' i = M i) ∧ (∀ j, (j < 13 ∨ 18 < j) → M' 0 j = M 0 j)
theorem FrN.rf (M : Mem) : FrN M M := ⟨fun _ _ _ _ => rfl, fun _ _ => rfl⟩
theorem FrN.tr {M M1 M2 : Mem} (h1 : FrN M M1) (h2 : FrN M1 M2) : FrN M M2 := ⟨fun i a b c => (h2.1 i a b c).trans (h1.1 i a b c), fun j hj => (h2.2 j hj).trans (h1.2 j hj)⟩
theorem FrS.n {M M1 : Mem} (h : FrS M M1) : FrN M M1 := ⟨fun i a _ _ => h.1 i a, fun j hj => h.2 j hj⟩
theorem FrN.q {M M1 : Mem} (h : FrN M M1) : FrQ M M1 := ⟨fun i a b => h.1 i (by omega) (by omega) (by omega), fun j hj => h.2 j (by omega)⟩
theorem RL.fr {F : FS} {p : Nat} {M M' : Mem} (h : RL F p M) (f : FrN M M') : RL F p M' := ⟨h.1.fr (fun i a b => f.1 i (by omega) (by omega) (by omega)) (fun j a b => f.2 j (by omega)), by rw [f.2 10 (by omega)]; exact h.2.1, by rw [f.2 11 (by omega)]; exact h.2.2.1, by rw [f.2 12 (by omega)]; exact h.2.2.2⟩
def LGM (M : Mem) (s : RS) : Prop := match s with
  | none => M 0 17 = 1
  | some (l, t, _, _) => M 0 17 = 0 ∧ M 0 16 = l ∧ M 0 13 = t
theorem T_sf {q : Option Nat} {F : FS} (hF : FOK F) {p : Nat} (hp : p < 6) {hold pace : Int} (hb : BOK hold pace) {M : Mem} (hR : RL F p M) {c y L : Nat} (hc : c < 2) (hy : y < 20) (hL : (L : Int) ≤ ar F p) {K : Mem → Prop}
    (hK : ∀ M', FrS M M' → LGM M' (lst F p hold pace c y (L : Int)) → K M') : TV i10_stepFrom 5 [vr 0, vi (L : Int), vi (20 * (c : Int) + (y : Int)), vi hold, vi pace] (LM q, M) K := by
  obtain ⟨pa, ph, pd⟩ := hF.P hp
  obtain ⟨r1, r2, r3, r4⟩ := hR
  obtain ⟨s1, s2, s3⟩ := start_ok (M := M) (by omega) (by omega) (by omega)
  obtain ⟨M1, hM1⟩ : ∃ M1, M1 = up (g10_start M) 0 16 (L : Int) := ⟨_, rfl⟩
  have f1 : FrS M M1 := by rw [hM1]; exact s1.up (by omega)
  have e10 : M1 0 10 = ar F p := by rw [f1.2 10 (by omega)]; exact r2
  have e11 : M1 0 11 = hv F p := by rw [f1.2 11 (by omega)]; exact r3
  have e12 : M1 0 12 = hd F p := by rw [f1.2 12 (by omega)]; exact r4
  have hW : WM M1 (some ((L : Int), 0, 0, 0)) 0 := by
    obtain ⟨b1, b2, b3, b4⟩ := s2
    obtain ⟨d1, d2, d3, d4, d5, d6⟩ := b4
    refine ⟨by omega, by omega, ?_, ?_, ?_, ?_, ?_, ?_, by omega, by omega, by omega, by omega⟩
    · rw [hM1, up_sl (by omega)]; exact b3
    · rw [hM1, up_sl (by omega)]; exact d1
    · rw [hM1, up_eq]
    · rw [hM1, up_sl (by omega)]; exact d3
    · rw [hM1, up_sl (by omega)]; exact d4
    · rw [hM1, up_sl (by omega)]; exact d5
  have ei : (20 * (c : Int) + (y : Int)).toNat = 20 * c + y := by omega
  refine W10_stepFrom_0 ⟨wb0, ?_⟩
  rw [← hM1]
  refine T_stepOn (k := lk F c y) (f := lf F c y) (j := 0) (by omega) (hF.K hc hy) hb (by rw [ei, f1.1 1 (by omega)]; exact r1.2.2.2.1 _ (by omega)) (by rw [ei, f1.1 2 (by omega)]; exact r1.2.2.2.2.1 _ (by omega)) hW (by omega) (fun M2 f2 hW2 _ => ⟨rfl, M2, rfl, hK M2 (f1.tr f2) ?_⟩)
  rw [e10, e11, e12] at hW2
  have h4 := hW2.2.2.2
  revert h4
  show (match lst F p hold pace c y (L : Int) with
    | none => M2 0 17 = 1
    | some (l, t, n, r) => M2 0 17 = 0 ∧ M2 0 16 = l ∧ M2 0 13 = t ∧ M2 0 14 = n ∧ M2 0 15 = r ∧ (0 ≤ l ∧ l ≤ M2 0 10) ∧ (0 ≤ t ∧ t ≤ 200 * (0 + 1)) ∧ (0 ≤ n ∧ n ≤ 0 + 1) ∧ (0 ≤ r ∧ r ≤ 6 * (0 + 1))) → LGM M2 (lst F p hold pace c y (L : Int))
  cases lst F p hold pace c y (L : Int) with
  | none => exact fun h => h
  | some z =>
    obtain ⟨l, t, u, r⟩ := z
    exact fun h => ⟨h.1, h.2.1, h.2.2.1⟩
theorem L_194 {q : Option Nat} {x1 x2 x3 x4 x5 x7 x8 x9 : Int} {k : Nat} (hk : k < 2562) {M : Mem} {Post : Option AV → GM → Prop} {c : Prop} [Decidable c]
    (hy : c → TA i10_layLanes 78 [some (vr 0), some (vi x1), some (vi x2), some (vi x3), some (vi x4), some (vi x5), some (vi (k : Int)), some (vi (x7 + 1)), none, none, none] [] (LM q, up (up M 20 k x8) 19 k x9) Post)
    (hn : ¬ c → TA i10_layLanes 78 [some (vr 0), some (vi x1), some (vi x2), some (vi x3), some (vi x4), some (vi x5), some (vi (k : Int)), some (vi (x7 + 1)), none, none, none] [] (LM q, M) Post) :
    TA i10_layLanes 194 [some (vr 0), some (vi x1), some (vi x2), some (vi x3), some (vi x4), some (vi x5), some (vi (k : Int)), some (vi x7), some (vi x8), some (vi x9), none] [vi (if c then 1 else 0)] (LM q, M) Post := by
  have wk : wr (k : Int) = (k : Int) := wr_id (by omega) (by omega)
  have b : 0 ≤ (k : Int) ∧ (k : Int) < ((2562 : Nat) : Int) := by omega
  refine W10_layLanes_194 ?_
  rw [wk, show ((k : Int)).toNat = k by omega]
  by_cases g : c
  · rw [if_pos g]
    have w1 : ¬ wr 1 = 0 := by rw [wr1]; omega
    exact ⟨fun z => absurd z w1, fun _ => ⟨b, fun z => absurd z w1, fun _ => ⟨b, hy g⟩⟩⟩
  · rw [if_neg g]
    have e : up (up M 20 k (M 20 k)) 19 k (M 19 k) = M := by rw [up_same, up_same]
    rw [e]
    exact ⟨fun _ => ⟨b, b, fun _ => ⟨b, b, hn g⟩, fun z => absurd wr0 z⟩, fun z => absurd wr0 z⟩
def MKL (M0 M : Mem) (k : Nat) (v w : Int) : Prop := FrN M0 M ∧ (∀ j, j ≠ k → M 19 j = M0 19 j ∧ M 20 j = M0 20 j) ∧ M 19 k = v ∧ (v < 9999999 → M 20 k = w)
def R19 (st : StF) (a : Int) (n y0 : Nat) (M : Mem) : Prop := ∀ y, y0 ≤ y → y ≤ n → ∀ c, c < 2 → ∀ L : Nat, (L : Int) ≤ a → M 19 (122 * y + 61 * c + L) = LF st n (n - y) c (L : Int) ∧ (y < n → LF st n (n - y) c (L : Int) < 9999999 → M 20 (122 * y + 61 * c + L) = ((chL st n y c (L : Int) : Nat) : Int))
theorem L_lt {q : Option Nat} {F : FS} (hF : FOK F) {p : Nat} (hp : p < 6) {hold pace : Int} (hb : BOK hold pace) {M0 : Mem} (hR : RL F p M0) {y c L : Nat} (hy : y < (yd F).toNat) (hc : c < 2) (hL : (L : Int) ≤ ar F p) (hW : R19 (lst F p hold pace) (ar F p) (yd F).toNat (y + 1) M0) {t : Int} {to : Nat} (ht : t = 0 ∨ t = 1) (hto : to < 2) (eto : (if wr t = 0 then (c : Int) else 1 - (c : Int)) = (to : Int)) {v w v' w' : Int} (hv : 0 ≤ v ∧ v ≤ 9999999) (ev : (if adN (6 * t) (lG (lst F p hold pace) (yd F).toNat y to (L : Int)) < v then adN (6 * t) (lG (lst F p hold pace) (yd F).toNat y to (L : Int)) else v) = v') (ew : (if adN (6 * t) (lG (lst F p hold pace) (yd F).toNat y to (L : Int)) < v then (to : Int) else w) = w') {Post : Option AV → GM → Prop}
    (hN : ∀ M', MKL M0 M' (122 * y + 61 * c + L) v' w' → TA i10_layLanes 78 [some (vr 0), some (vi hold), some (vi pace), some (vi (y : Int)), some (vi ((61 * c + L : Nat) : Int)), some (vi (c : Int)), some (vi ((122 * y + 61 * c + L : Nat) : Int)), some (vi (t + 1)), none, none, none] [] (LM q, M') Post) {M : Mem} (hM : MKL M0 M (122 * y + 61 * c + L) v w) :
    TA i10_layLanes 78 [some (vr 0), some (vi hold), some (vi pace), some (vi (y : Int)), some (vi ((61 * c + L : Nat) : Int)), some (vi (c : Int)), some (vi ((122 * y + 61 * c + L : Nat) : Int)), some (vi t), none, none, none] [] (LM q, M) Post := by
  have hyd := hF.1
  obtain ⟨pa, ph, pd⟩ := hF.P hp
  have hst := lst_ok hF hp hb
  have hRM := hR.fr hM.1
  have eL : rmd (((61 * c + L : Nat)) : Int) 61 = (L : Int) := by rw [rmd_nat (by omega) (by omega) (by omega) (by omega)]; omega
  have wk : wr (((122 * y + 61 * c + L : Nat)) : Int) = ((122 * y + 61 * c + L : Nat) : Int) := wr_id (by omega) (by omega)
  have tk : ((((122 * y + 61 * c + L : Nat)) : Int)).toNat = 122 * y + 61 * c + L := by omega
  refine W10_layLanes_78 ⟨fun _ => ⟨by decide, fun z => ?_, fun _ => ?_⟩, fun z => ?_⟩
  · rw [eL, hRM.2.1, wlt (by omega) (by omega) (by omega) (by omega)] at z; omega
  · rw [eto]
    refine W10_layLanes_110 ⟨by decide, ?_⟩
    rw [eL]
    refine T_sf hF hp hb hRM hto (by omega) hL (fun M1 f1 hg => ?_)
    have hM1 : MKL M0 M1 (122 * y + 61 * c + L) v w := ⟨hM.1.tr f1.n, fun j hj => by rw [f1.1 19 (by omega), f1.1 20 (by omega)]; exact hM.2.1 j hj, by rw [f1.1 19 (by omega)]; exact hM.2.2.1, fun z => by rw [f1.1 20 (by omega)]; exact hM.2.2.2 z⟩
    have set : ∀ x : Int, x = v' → (to : Int) = w' → MKL M0 (up (up M1 20 (122 * y + 61 * c + L) (to : Int)) 19 (122 * y + 61 * c + L) x) (122 * y + 61 * c + L) v' w' := fun x e1 e2 => ⟨⟨fun i a b d => by rw [up_fr b, up_fr d]; exact hM1.1.1 i a b d, fun j hj => by rw [up_fr (by omega), up_fr (by omega)]; exact hM1.1.2 j hj⟩, fun j hj => ⟨by rw [up_sl hj, up_fr (by omega)]; exact (hM1.2.1 j hj).1, by rw [up_fr (by omega), up_sl hj]; exact (hM1.2.1 j hj).2⟩, by rw [up_eq]; exact e1, fun _ => by rw [up_fr (by omega), up_eq]; exact e2⟩
    have hst' := hst to y hto hy (L : Int) (by omega) hL
    revert hg ev ew hst'
    show (if adN (6 * t) (lgv (lst F p hold pace to y (L : Int)) (LF (lst F p hold pace) (yd F).toNat ((yd F).toNat - (y + 1)) to)) < v then adN (6 * t) (lgv (lst F p hold pace to y (L : Int)) (LF (lst F p hold pace) (yd F).toNat ((yd F).toNat - (y + 1)) to)) else v) = v' → (if adN (6 * t) (lgv (lst F p hold pace to y (L : Int)) (LF (lst F p hold pace) (yd F).toNat ((yd F).toNat - (y + 1)) to)) < v then (to : Int) else w) = w' → LGM M1 (lst F p hold pace to y (L : Int)) → LB (lst F p hold pace to y (L : Int)) (ar F p) → _
    cases lst F p hold pace to y (L : Int) with
    | none =>
      intro ev ew hg _
      have h7 : M1 0 17 = 1 := hg
      have e9 : lgv none (LF (lst F p hold pace) (yd F).toNat ((yd F).toNat - (y + 1)) to) = 9999999 := rfl
      rw [e9, adN_n, if_neg (by omega)] at ev ew
      refine ⟨fun z => by rw [h7, wr1] at z; omega, fun _ => ⟨by rw [wk]; omega, ?_⟩⟩
      rw [wk, tk, hM1.2.2.1]
      refine L_194 (by omega) (fun g => ?_) (fun _ => hN M1 (by rw [← ev, ← ew]; exact hM1))
      rw [wlt (by omega) (by omega) (by omega) (by omega)] at g; omega
    | some z =>
      obtain ⟨l, u, n, r⟩ := z
      intro ev ew hg hlb
      obtain ⟨h7, h16, h13⟩ : M1 0 17 = 0 ∧ M1 0 16 = l ∧ M1 0 13 = u := hg
      have hlb2 : (0 ≤ l ∧ l ≤ ar F p) ∧ (0 ≤ u ∧ u ≤ 200) := hlb
      obtain ⟨l', rfl⟩ : ∃ l' : Nat, l = (l' : Int) := ⟨l.toNat, by omega⟩
      have e9 : lgv (some ((l' : Int), u, n, r)) (LF (lst F p hold pace) (yd F).toNat ((yd F).toNat - (y + 1)) to) = adN u (LF (lst F p hold pace) (yd F).toNat ((yd F).toNat - (y + 1)) to (l' : Int)) := rfl
      rw [e9] at ev ew
      have bX := LF_b hst ((yd F).toNat - (y + 1)) (by omega) to hto (l' : Int) hlb2.1.1 hlb2.1.2
      have eX : M1 19 (122 * (y + 1) + 61 * to + l') = LF (lst F p hold pace) (yd F).toNat ((yd F).toNat - (y + 1)) to (l' : Int) := by
        rw [(hM1.2.1 _ (by omega)).1]
        exact (hW (y + 1) (Nat.le_refl _) (by omega) to hto l' hlb2.1.2).1
      refine ⟨fun _ => ?_, fun z => absurd (by rw [h7]; exact wr0) z⟩
      rw [h16, h13]
      have w9 : wr (122 * ((y : Int) + 1) + 61 * (to : Int) + (l' : Int)) = 122 * ((y : Int) + 1) + 61 * (to : Int) + (l' : Int) := wr_id (by omega) (by omega)
      have t9 : (122 * ((y : Int) + 1) + 61 * (to : Int) + (l' : Int)).toNat = 122 * (y + 1) + 61 * to + l' := by omega
      rw [w9, t9, eX, wk, tk, hM1.2.2.1]
      obtain ⟨X, hX⟩ : ∃ X, X = LF (lst F p hold pace) (yd F).toNat ((yd F).toNat - (y + 1)) to (l' : Int) := ⟨_, rfl⟩
      rw [← hX] at bX ev ew ⊢
      have hA : (X = 9999999 ∧ adN (6 * t) (adN u X) = 9999999) ∨ (X ≠ 9999999 ∧ adN (6 * t) (adN u X) = 6 * t + (u + X)) := by
        by_cases e : X = 9999999
        · rw [e, adN_n, adN_n]; exact Or.inl ⟨rfl, rfl⟩
        · unfold VB at bX
          rw [adN_f e, adN_f (by omega)]; exact Or.inr ⟨e, rfl⟩
      have bX' := bX.le (by omega)
      refine ⟨by omega, by omega, L_194 (by omega) (fun g => ?_) (fun g => ?_)⟩
      · rw [wlt (by omega) (by omega) (by omega) (by omega)] at g
        rw [if_pos (by omega)] at ev ew
        exact hN _ (set _ (by omega) ew)
      · rw [wlt (by omega) (by omega) (by omega) (by omega)] at g
        rw [if_neg (by omega)] at ev ew
        exact hN _ (by rw [← ev, ← ew]; exact hM1)
  · rw [wlt (by omega) (by omega) (by omega) (by omega)] at z; omega
theorem L_kl {q : Option Nat} {F : FS} (hF : FOK F) {p : Nat} (hp : p < 6) {hold pace : Int} (hb : BOK hold pace) {M00 : Mem} (hR : RL F p M00) {y : Nat} (hy : y < (yd F).toNat) {Post : Option AV → GM → Prop}
    (hN : ∀ M', FrN M00 M' → R19 (lst F p hold pace) (ar F p) (yd F).toNat y M' → TA i10_layLanes 36 [some (vr 0), some (vi hold), some (vi pace), some (vi ((y : Int) + -1)), none, none, none, none, none, none, none] [] (LM q, M') Post) : ∀ (k x : Nat) (M : Mem), x + k = 122 → FrN M00 M → R19 (lst F p hold pace) (ar F p) (yd F).toNat (y + 1) M → (∀ c, c < 2 → ∀ L : Nat, (L : Int) ≤ ar F p → 61 * c + L < x → M 19 (122 * y + 61 * c + L) = LF (lst F p hold pace) (yd F).toNat ((yd F).toNat - y) c (L : Int) ∧ (LF (lst F p hold pace) (yd F).toNat ((yd F).toNat - y) c (L : Int) < 9999999 → M 20 (122 * y + 61 * c + L) = ((chL (lst F p hold pace) (yd F).toNat y c (L : Int) : Nat) : Int))) →
    TA i10_layLanes 43 [some (vr 0), some (vi hold), some (vi pace), some (vi (y : Int)), some (vi (x : Int)), none, none, none, none, none, none] [] (LM q, M) Post
  | 0, x, M, hk, hM, hW, hS => by
    have hyd := hF.1
    obtain ⟨pa, ph, pd⟩ := hF.P hp
    refine W10_layLanes_43 ⟨fun z => ?_, fun _ => hN M hM (fun y' h1 h2 c hc L h3 => ?_)⟩
    · rw [wlt (by omega) (by omega) (by omega) (by omega)] at z; omega
    · by_cases e : y' = y
      · rw [e]; have := hS c hc L h3 (by omega); exact ⟨this.1, fun _ => this.2⟩
      · exact hW y' (by omega) h2 c hc L h3
  | k + 1, x, M, hk, hM, hW, hS => by
    have hyd := hF.1
    obtain ⟨pa, ph, pd⟩ := hF.P hp
    have hst := lst_ok hF hp hb
    obtain ⟨c, L, hc, hL61, hx⟩ : ∃ c L : Nat, c < 2 ∧ L < 61 ∧ x = 61 * c + L := ⟨x / 61, x % 61, by omega, by omega, by omega⟩
    have ec : dv (x : Int) 61 = (c : Int) := by rw [dv_nat (by omega) (by omega) (by omega) (by omega)]; omega
    have eI : 122 * (y : Int) + (x : Int) = ((122 * y + 61 * c + L : Nat) : Int) := by omega
    have en : ((x + 1 : Nat) : Int) = (x : Int) + 1 := by omega
    refine W10_layLanes_43 ⟨fun _ => ⟨by decide, ?_⟩, fun z => ?_⟩
    · rw [eI, ec, wr_id (x := ((122 * y + 61 * c + L : Nat) : Int)) (by omega) (by omega), show (((122 * y + 61 * c + L : Nat) : Int)).toNat = 122 * y + 61 * c + L by omega]
      refine ⟨by omega, ?_⟩
      obtain ⟨M1, hM1⟩ : ∃ M1, M1 = up M 19 (122 * y + 61 * c + L) 9999999 := ⟨_, rfl⟩
      have f1 : ∀ i, i ≠ 19 → M1 i = M i := fun i hi => by rw [hM1]; exact up_fr hi
      have f2 : ∀ j, j ≠ 122 * y + 61 * c + L → M1 19 j = M 19 j := fun j hj => by rw [hM1]; exact up_sl hj
      have f3 : M1 19 (122 * y + 61 * c + L) = 9999999 := by rw [hM1]; exact up_eq
      rw [← hM1]
      have hW1 : R19 (lst F p hold pace) (ar F p) (yd F).toNat (y + 1) M1 := fun y' h1 h2 c' hc' L' h3 => by
        rw [f2 _ (by omega), f1 20 (by omega)]
        exact hW y' h1 h2 c' hc' L' h3
      have hM1' : FrN M00 M1 := ⟨fun i a b d => by rw [f1 i b]; exact hM.1 i a b d, fun j hj => by rw [f1 0 (by omega)]; exact hM.2 j hj⟩
      have hR1 := hR.fr hM1'
      have nxt : ∀ M2, FrN M00 M2 → (∀ j, j ≠ 122 * y + 61 * c + L → M2 19 j = M1 19 j ∧ M2 20 j = M1 20 j) → ((L : Int) ≤ ar F p → M2 19 (122 * y + 61 * c + L) = LF (lst F p hold pace) (yd F).toNat ((yd F).toNat - y) c (L : Int) ∧ (LF (lst F p hold pace) (yd F).toNat ((yd F).toNat - y) c (L : Int) < 9999999 → M2 20 (122 * y + 61 * c + L) = ((chL (lst F p hold pace) (yd F).toNat y c (L : Int) : Nat) : Int))) → TA i10_layLanes 43 [some (vr 0), some (vi hold), some (vi pace), some (vi (y : Int)), some (vi ((x : Int) + 1)), none, none, none, none, none, none] [] (LM q, M2) Post := by
        intro M2 g1 g2 g3
        have ih := L_kl hF hp hb hR hy hN (q := q) k (x + 1) M2 (by omega) g1 (fun y' h1 h2 c' hc' L' h3 => by
          have := g2 (122 * y' + 61 * c' + L') (by omega)
          rw [this.1, this.2]
          exact hW1 y' h1 h2 c' hc' L' h3) (fun c' hc' L' h3 h4 => by
          by_cases e : c' = c ∧ L' = L
          · rw [e.1, e.2]; rw [e.2] at h3; exact g3 h3
          · have hne : 61 * c' + L' ≠ 61 * c + L := fun z => e (by omega)
            have := g2 (122 * y + 61 * c' + L') (by omega)
            rw [this.1, this.2, f2 _ (by omega), f1 20 (by omega)]
            exact hS c' hc' L' h3 (by omega))
        rw [en] at ih; exact ih
      by_cases hL : (L : Int) ≤ ar F p
      · have b1 := lG_b hst hy hc (show 0 ≤ (L : Int) by omega) hL
        have b2 := lG_b hst hy (show 1 - c < 2 by omega) (show 0 ≤ (L : Int) by omega) hL
        have b1' := b1.le (by omega)
        have a0 : ∀ u : Int, adN (6 * 0) u = u := by
          intro u
          by_cases e : u = 9999999
          · rw [e, adN_n]
          · rw [adN_f e]; omega
        obtain ⟨u, hu⟩ : ∃ u, u = lG (lst F p hold pace) (yd F).toNat y c (L : Int) := ⟨_, rfl⟩
        obtain ⟨v, hv'⟩ : ∃ v, v = lG (lst F p hold pace) (yd F).toNat y (1 - c) (L : Int) := ⟨_, rfl⟩
        rw [hx]
        refine L_lt (t := 0) (to := c) (v := 9999999) (w := 0) (v' := u) (w' := if u < 9999999 then (c : Int) else 0) hF hp hb hR1 hy hc hL hW1 (Or.inl rfl) hc (if_pos wr0) (by omega) ?_ ?_ (fun M2 hM2 => ?_) ⟨FrN.rf M1, fun _ _ => ⟨rfl, rfl⟩, f3, fun z => absurd z (by decide)⟩
        · rw [a0, ← hu]
          by_cases e : u < 9999999
          · rw [if_pos e]
          · rw [if_neg e]; rw [← hu] at b1'; omega
        · rw [a0, ← hu]
        · refine L_lt (t := 0 + 1) (to := 1 - c) (v := u) (w := if u < 9999999 then (c : Int) else 0) (v' := LF (lst F p hold pace) (yd F).toNat ((yd F).toNat - y) c (L : Int)) (w' := if adN 6 v < u then (((1 - c : Nat)) : Int) else if u < 9999999 then (c : Int) else 0) hF hp hb hR1 hy hc hL hW1 (Or.inr rfl) (by omega) ?_ (by rw [hu]; omega) ?_ ?_ (fun M3 hM3 => ?_) hM2
          · rw [if_neg (by decide)]; omega
          · rw [show (6 * (0 + 1) : Int) = 6 from rfl, LF_s hy, ← hu, ← hv']
            by_cases e : adN 6 v < u
            · rw [if_pos e]; omega
            · rw [if_neg e]; omega
          · rw [show (6 * (0 + 1) : Int) = 6 from rfl, ← hv']
          · obtain ⟨g1, g2, g3, g4⟩ := hM3
            refine W10_layLanes_78 ⟨fun z => absurd z (by decide), fun _ => ?_⟩
            rw [← hx]
            refine nxt M3 (hM1'.tr g1) g2 (fun _ => ⟨g3, fun z => ?_⟩)
            rw [g4 z]
            rw [LF_s hy, ← hu, ← hv'] at z
            unfold chL
            rw [← hu, ← hv']
            by_cases e : adN 6 v < u
            · rw [if_pos e, if_pos e]
            · rw [if_neg e, if_neg e, if_pos (by omega)]
      · have eL : rmd (x : Int) 61 = (L : Int) := by rw [rmd_nat (by omega) (by omega) (by omega) (by omega)]; omega
        refine W10_layLanes_78 ⟨fun _ => ⟨by decide, fun _ => nxt M1 hM1' (fun _ _ => ⟨rfl, rfl⟩) (fun z => absurd z hL), fun z => ?_⟩, fun z => absurd (by decide) z⟩
        rw [eL, hR1.2.1, wlt (by omega) (by omega) (by omega) (by omega)] at z; omega
    · rw [wlt (by omega) (by omega) (by omega) (by omega)] at z; omega
theorem L_yll {q : Option Nat} {F : FS} (hF : FOK F) {p : Nat} (hp : p < 6) {hold pace : Int} (hb : BOK hold pace) {M00 : Mem} (hR : RL F p M00) {K : Mem → Prop}
    (hK : ∀ M', FrN M00 M' → R19 (lst F p hold pace) (ar F p) (yd F).toNat 0 M' → K M') : ∀ (k : Nat) (M : Mem), k ≤ (yd F).toNat → FrN M00 M → R19 (lst F p hold pace) (ar F p) (yd F).toNat k M →
    TA i10_layLanes 36 [some (vr 0), some (vi hold), some (vi pace), some (vi ((k : Int) - 1)), none, none, none, none, none, none, none] [] (LM q, M) (fun rv G' => rv = none ∧ ∃ M', G' = (LM q, M') ∧ K M')
  | 0, M, hk, hM, hW => W10_layLanes_36 ⟨fun _ => ⟨rfl, M, rfl, hK M hM hW⟩, fun z => absurd (by decide) z⟩
  | k + 1, M, hk, hM, hW => by
    have hyd := hF.1
    rw [show (((k + 1 : Nat)) : Int) - 1 = (k : Int) by omega]
    refine W10_layLanes_36 ⟨fun z => ?_, fun _ => ?_⟩
    · rw [wr_id (by omega) (by omega)] at z; omega
    · refine L_kl hF hp hb hR (show k < (yd F).toNat by omega) (fun M' hM' hW' => ?_) 122 0 M rfl hM hW (fun c _ L _ h => absurd h (Nat.not_lt_zero _))
      have := L_yll hF hp hb hR hK (q := q) k M' (by omega) hM' hW'
      rw [show (k : Int) - 1 = (k : Int) + -1 by omega] at this
      exact this
theorem L_z19 {q : Option Nat} {F : FS} (hF : FOK F) {p : Nat} (hp : p < 6) {hold pace : Int} (hb : BOK hold pace) {M00 : Mem} (hR : RL F p M00) {K : Mem → Prop}
    (hK : ∀ M', FrN M00 M' → R19 (lst F p hold pace) (ar F p) (yd F).toNat 0 M' → K M') : ∀ (k j : Nat) (M : Mem), j + k = 122 → FrN M00 M → (∀ i, i < j → M 19 (122 * (yd F).toNat + i) = 0) →
    TA i10_layLanes 2 [some (vr 0), some (vi hold), some (vi pace), some (vi (j : Int)), none, none, none, none, none, none, none] [] (LM q, M) (fun rv G' => rv = none ∧ ∃ M', G' = (LM q, M') ∧ K M')
  | 0, j, M, hj, hM, hS => by
    have hyd := hF.1
    obtain ⟨pa, ph, pd⟩ := hF.P hp
    have hR1 := hR.fr hM
    refine W10_layLanes_2 ⟨fun z => ?_, fun _ => ?_⟩
    · rw [wlt (by omega) (by omega) (by omega) (by omega)] at z; omega
    · rw [hR1.1.1, show yd F - 1 = (((yd F).toNat : Nat) : Int) - 1 by omega]
      refine L_yll hF hp hb hR hK (yd F).toNat M (Nat.le_refl _) hM (fun y h1 h2 c hc L h3 => ?_)
      have ey : y = (yd F).toNat := by omega
      rw [ey, Nat.sub_self]
      exact ⟨by rw [Nat.add_assoc]; exact hS (61 * c + L) (by omega), fun z => absurd z (by omega)⟩
  | k + 1, j, M, hj, hM, hS => by
    have hyd := hF.1
    have hR1 := hR.fr hM
    refine W10_layLanes_2 ⟨fun _ => ?_, fun z => ?_⟩
    · rw [hR1.1.1, wr_id (by omega) (by omega), show (122 * (yd F) + (j : Int)).toNat = 122 * (yd F).toNat + j by omega]
      have ih := L_z19 hF hp hb hR hK (q := q) k (j + 1) (up M 19 (122 * (yd F).toNat + j) 0) (by omega) ⟨fun i a b d => by rw [up_fr b]; exact hM.1 i a b d, fun j hj => by rw [up_fr (by omega)]; exact hM.2 j hj⟩ (fun i hi => by
        by_cases e : i = j
        · rw [e, up_eq]
        · rw [up_sl (by omega)]; exact hS i (by omega))
      rw [show (((j + 1 : Nat)) : Int) = (j : Int) + 1 by omega] at ih
      exact ⟨by omega, ih⟩
    · rw [wlt (by omega) (by omega) (by omega) (by omega)] at z; omega
theorem L_lpM {q : Option Nat} {S : ST} (hF : FOK (sF S)) {p : Nat} (hp : p < 6) {hold pace : Int} (hb : BOK hold pace) (hf : LF (lst (sF S) p hold pace) (yd (sF S)).toNat (yd (sF S)).toNat (ln (sF S)).toNat (ar (sF S) p) < 9999999) {yy : Nat} (hyy : yy < (yd (sF S)).toNat) : ∀ (k y : Nat) (M : Mem), y + k = yy → RM S M → RL (sF S) p M → R19 (lst (sF S) p hold pace) (ar (sF S) p) (yd (sF S)).toNat 0 M →
    TA i10_lanes 118 [some (vr 0), none, some (vi hold), some (vi pace), some (vi (yy : Int)), none, none, some (vi (((plL (lst (sF S) p hold pace) (yd (sF S)).toNat (ar (sF S) p) (ln (sF S)).toNat y).1 : Nat) : Int)), some (vi (plL (lst (sF S) p hold pace) (yd (sF S)).toNat (ar (sF S) p) (ln (sF S)).toNat y).2), some (vi (y : Int))] [] (LM q, M) (MP S (((plL (lst (sF S) p hold pace) (yd (sF S)).toNat (ar (sF S) p) (ln (sF S)).toNat (yy + 1)).1 : Nat) : Int))
  | k, y, M, hk, hM, hR, hW => by
    have hyd := hF.1
    have hl := hF.2.1
    obtain ⟨pa, ph, pd⟩ := hF.P hp
    have hst := lst_ok hF hp hb
    have hy : y < (yd (sF S)).toNat := by omega
    obtain ⟨h1, h2, h3⟩ := pl_ok (show (yd (sF S)).toNat ≤ 20 by omega) pa.1 hst (show (ln (sF S)).toNat < 2 by omega) hf y (by omega)
    obtain ⟨l, t, u, r, es, hl', -⟩ := ch_fin hy (by omega) hst h1 h2.1 h2.2 h3
    have ep1 : (plL (lst (sF S) p hold pace) (yd (sF S)).toNat (ar (sF S) p) (ln (sF S)).toNat (y + 1)).1 = chL (lst (sF S) p hold pace) (yd (sF S)).toNat y (plL (lst (sF S) p hold pace) (yd (sF S)).toNat (ar (sF S) p) (ln (sF S)).toNat y).1 (plL (lst (sF S) p hold pace) (yd (sF S)).toNat (ar (sF S) p) (ln (sF S)).toNat y).2 := rfl
    have ep2 : (plL (lst (sF S) p hold pace) (yd (sF S)).toNat (ar (sF S) p) (ln (sF S)).toNat (y + 1)).2 = l := by
      show lft (lst (sF S) p hold pace (chL (lst (sF S) p hold pace) (yd (sF S)).toNat y (plL (lst (sF S) p hold pace) (yd (sF S)).toNat (ar (sF S) p) (ln (sF S)).toNat y).1 (plL (lst (sF S) p hold pace) (yd (sF S)).toNat (ar (sF S) p) (ln (sF S)).toNat y).2) y (plL (lst (sF S) p hold pace) (yd (sF S)).toNat (ar (sF S) p) (ln (sF S)).toNat y).2) = l
      rw [es]; rfl
    obtain ⟨c, hc⟩ : ∃ c, c = (plL (lst (sF S) p hold pace) (yd (sF S)).toNat (ar (sF S) p) (ln (sF S)).toNat y).1 := ⟨_, rfl⟩
    obtain ⟨L, hL⟩ : ∃ L : Nat, (plL (lst (sF S) p hold pace) (yd (sF S)).toNat (ar (sF S) p) (ln (sF S)).toNat y).2 = (L : Int) := ⟨(plL (lst (sF S) p hold pace) (yd (sF S)).toNat (ar (sF S) p) (ln (sF S)).toNat y).2.toNat, by omega⟩
    rw [← hc] at h1 h3 es ep1 ⊢
    rw [hL] at h2 h3 es ep1 ⊢
    have hv := (hW y (Nat.zero_le _) (by omega) c h1 L h2.2).2 hy h3
    have hcc := ch_lt (st := lst (sF S) p hold pace) (n := (yd (sF S)).toNat) (y := y) h1 (L := (L : Int))
    have wk : wr (122 * (y : Int) + 61 * (c : Int) + (L : Int)) = 122 * (y : Int) + 61 * (c : Int) + (L : Int) := wr_id (by omega) (by omega)
    have tk : (122 * (y : Int) + 61 * (c : Int) + (L : Int)).toNat = 122 * y + 61 * c + L := by omega
    refine W10_lanes_118 ⟨fun z => ?_, fun z => ?_⟩
    · rw [wlt (by omega) (by omega) (by omega) (by omega)] at z
      cases k with
      | zero => omega
      | succ k =>
        rw [wk, tk, hv]
        refine ⟨by omega, T_sf hF hp hb hR hcc (by omega) h2.2 (fun M1 f1 hg => ?_)⟩
        rw [es] at hg
        have ih := L_lpM hF hp hb hf hyy (q := q) k (y + 1) M1 (by omega) (hM.fr f1.n.q) (hR.fr f1.n) (fun y h1 h2 c h3 L h4 => by rw [f1.1 19 (by omega), f1.1 20 (by omega)]; exact hW y h1 h2 c h3 L h4)
        rw [ep1, ep2, show (((y + 1 : Nat)) : Int) = (y : Int) + 1 by omega] at ih
        rw [hg.2.1]; exact ih
    · rw [wlt (by omega) (by omega) (by omega) (by omega)] at z
      have ey : yy = y := by omega
      subst ey
      rw [wk, tk, hv, ep1]
      exact ⟨by omega, q, M, rfl, rfl, hM⟩
theorem SIM_lanes {a h p y : Int} (ia : IR a) (ih : IR h) (ip : IR p) (iy : IR y) : SIM i9_lanes 7 i10_lanes 10 [vi a, vi h, vi p, vi y] := by
  intro S hS
  have hF := hS.1
  have hy := hF.1
  have hl := hF.2.1
  have im : IR (-1) := by unfold IR; omega
  have cb := sBy_le h p
  obtain ⟨W, hW⟩ : ∃ W : Int, W = if sWho (sF S) a ∧ (-1 ≤ y ∧ y < yd (sF S)) then sBy h p else -1 := ⟨_, rfl⟩
  have hWb : -6 ≤ W ∧ W ≤ 0 := by
    rw [hW]; split <;> omega
  have k1 : ∀ M, RC S M → f9_firstOf (if wr (f9_nobody M a) = 0 then (if wr (f9_noYardNorAll M y) = 0 then 0 else 1) else 1) (f9_low h p) (f9_high h p) = W := by
    intro M hM
    have e0 : (if wr (f9_nobody M a) = 0 then (if wr (f9_noYardNorAll M y) = 0 then (0 : Int) else 1) else 1) = if ¬ (sWho (sF S) a ∧ (-1 ≤ y ∧ y < yd (sF S))) then 1 else 0 := by
      unfold f9_noYardNorAll
      rw [nobody_eq hF hM.1 ia, noYard_eq hF hM.1 iy, iy.w, im.w]
      by_cases g1 : sWho (sF S) a
      · rw [if_pos g1, if_pos wr0]
        by_cases g2 : y = -1
        · rw [if_pos g2, if_pos wr0, if_neg (fun c => c ⟨g1, by omega, by omega⟩)]
        · rw [if_neg g2]
          by_cases g3 : 0 ≤ y ∧ y < yd (sF S)
          · rw [if_pos g3, if_pos wr0, if_pos wr0, if_neg (fun c => c ⟨g1, by omega, by omega⟩)]
          · rw [if_neg g3, if_neg (c := wr 1 = 0) (by rw [wr1]; omega), if_neg (c := wr 1 = 0) (by rw [wr1]; omega), if_pos (fun c => g3 (by omega))]
      · rw [if_neg g1, if_neg (c := wr 1 = 0) (by rw [wr1]; omega), if_pos (fun c => g1 c.1)]
    rw [by_eq (F := sF S) ih ip e0, hW]
    by_cases g : sWho (sF S) a ∧ (-1 ≤ y ∧ y < yd (sF S))
    · rw [if_neg (c := ¬ _) (fun z => z g), if_pos g]
    · rw [if_pos (c := ¬ _) g, if_neg g]
  have k2 : ∀ M, RM S M → (if wr (f10_isOne (up M 0 8 0) a) = 0 then (-1) else if wr (f10_in (wr y) ((-1)) (wr ((M 0 2) - 1))) = 0 then (-1) else f10_wrongBy h p) = W := by
    intro M hM
    rw [isOne_eq hF hM.thr.1 ia, iy.w, hM.1.1, wr_id (x := yd (sF S) - 1) (by omega) (by omega), in_eq iy im (by unfold IR; omega), wrongBy_eq ih ip, hW]
    by_cases g1 : sWho (sF S) a
    · rw [if_pos g1, if_neg (c := wr 1 = 0) (by rw [wr1]; omega)]
      by_cases g2 : -1 ≤ y ∧ y ≤ yd (sF S) - 1
      · rw [if_pos g2, if_neg (c := wr 1 = 0) (by rw [wr1]; omega), if_pos ⟨g1, by omega⟩]
      · rw [if_neg g2, if_pos wr0, if_neg (fun c => g2 (by omega))]
    · rw [if_neg g1, if_pos wr0, if_neg (fun c => g1 c.1)]
  by_cases e : W = 0
  · have g : sWho (sF S) a ∧ (-1 ≤ y ∧ y < yd (sF S)) := by
      apply Classical.byContradiction
      intro c; rw [if_neg c] at hW; omega
    have hB : BOK h p := by rw [if_pos g] at hW; exact sBy_ok (by omega)
    obtain ⟨n, hn6, rfl, -⟩ := g.1.n hF
    obtain ⟨pa, ph, pd⟩ := hF.P hn6
    have hst := lst_ok hF hn6 hB
    obtain ⟨A, hA⟩ : ∃ A : Nat, ar (sF S) n = (A : Int) := ⟨(ar (sF S) n).toNat, by omega⟩
    have hVB := VB.mono (c := 5000) (LF_b hst (yd (sF S)).toNat (Nat.le_refl _) (ln (sF S)).toNat (hln hF) (ar (sF S) n) pa.1 (Int.le_refl _)) (by omega)
    obtain ⟨V, hV⟩ : ∃ V, V = LF (lst (sF S) n h p) (yd (sF S)).toNat (yd (sF S)).toNat (ln (sF S)).toNat (ar (sF S) n) := ⟨_, rfl⟩
    rw [← hV] at hVB
    have hrel := nC_rel hVB (by omega)
    have run1 : ∀ M Post, RC S M → (∀ M', RC S M' → M' 1 1 = ln (sF S) → M' 41 0 = ar (sF S) n → WL (sF S) n M' M' → W62 (lst (sF S) n h p) (ar (sF S) n) (yd (sF S)).toNat 0 M' → (wr (nC V) < wr 10000000 → (wr y = wr ((-1)) → Post (some (vi (f9_toldTime (nC V)))) (LC, M')) ∧ (¬ (wr y = wr ((-1))) → TI i5_laneOn 10 [vr 50, vi y, vi (M' 1 1), vr 41, vi h, vi p] (LC, M') (fun r2 M2 => Post (some (vi r2)) (LC, M2)))) ∧ (¬ (wr (nC V) < wr 10000000) → Post (some (vi (f9_toldTime (nC V)))) (LC, M'))) → TA i9_lanes 0 [some (vr 0), some (vi (n : Int)), some (vi h), some (vi p), some (vi y), none, none] [] (LC, M) Post := by
      intro M Post hM hK
      refine W9_lanes_0 (W9_lanes_22 ⟨fun _ => ⟨wb0, W5_searches_0_50_1_41 ?_⟩, fun z => ?_⟩)
      · rw [starts_eq hM.1 hn6]
        obtain ⟨g1, g2, g3, g4, g5⟩ := startsAs_ok (M := M) (w := 41) pa ph pd
        obtain ⟨M1, e1⟩ : ∃ M1, M1 = g8_startsAs M 41 (ar (sF S) n) (hv (sF S) n) (hd (sF S) n) := ⟨_, rfl⟩
        rw [← e1] at g1 g2 g3 g4 ⊢
        have hM1 := hM.fr (M' := M1) (fun i hi => g1 i (by omega))
        refine T_takes_51 (l := 0) hF (by omega) hM1.1 (fun M2 f2 hC2 => ?_)
        have hM2 := hM1.fr (M' := M2) (fun i hi => f2 i (by omega) (by omega) (by omega))
        refine T_takes_56 (l := 1) hF (by omega) hM2.1 (fun M3 f3 hC3 => ?_)
        have hM3 := hM2.fr (M' := M3) (fun i hi => f3 i (by omega) (by omega) (by omega))
        rw [hM3.1.1, show yd (sF S) - 1 = (((yd (sF S)).toNat : Nat) : Int) - 1 by omega]
        have e41 : M3 41 = M1 41 := by rw [f3 41 (by omega) (by omega) (by omega), f2 41 (by omega) (by omega) (by omega)]
        have hWL : WL (sF S) n M3 M3 := ⟨fun _ _ _ => rfl, by rw [e41]; exact g2, by rw [e41]; exact g3, by rw [e41]; exact g4, by
          obtain ⟨c0, c1, c2⟩ := hC2
          exact ⟨by rw [f3 51 (by omega) (by omega) (by omega)]; exact c0, c1, fun y hy => by rw [f3 (51 + 2) (by omega) (by omega) (by omega), f3 (51 + 4) (by omega) (by omega) (by omega)]; exact c2 y hy⟩, hC3⟩
        refine L_ls hF hn6 hB hM3.1.2.1 (fun M' hI hW => ?_) (yd (sF S)).toNat M3 (Nat.le_refl _) hWL (fun y h1 h2 => absurd h2 (by omega))
        have hM' := hM3.fr (M' := M') (fun i hi => hI.1 i (by omega) (by omega))
        rw [← hV]
        refine hK M' hM' hM'.1.2.1 hI.2.1 ⟨fun _ _ _ => rfl, hI.2.1, hI.2.2.1, hI.2.2.2.1, ?_, ?_⟩ hW
        · obtain ⟨c0, c1, c2⟩ := hI.2.2.2.2.1
          exact ⟨by rw [hI.1 51 (by omega) (by omega)]; exact c0, c1, fun y hy => by rw [hI.1 (51 + 2) (by omega) (by omega), hI.1 (51 + 4) (by omega) (by omega)]; exact c2 y hy⟩
        · obtain ⟨c0, c1, c2⟩ := hI.2.2.2.2.2
          exact ⟨by rw [hI.1 56 (by omega) (by omega)]; exact c0, c1, fun y hy => by rw [hI.1 (56 + 2) (by omega) (by omega), hI.1 (56 + 4) (by omega) (by omega)]; exact c2 y hy⟩
      · rw [k1 M hM, e] at z; exact absurd wr0 z
    have run2 : ∀ q M Post, RM S M → (∀ M', RM S M' → RL (sF S) n M' → R19 (lst (sF S) n h p) (ar (sF S) n) (yd (sF S)).toNat 0 M' → (wr y < 0 → Post (some (vi (f10_told0 V))) (LM q, M')) ∧ (¬ (wr y < 0) → (wr V < wr 9999999 → TA i10_lanes 118 [some (vr 0), none, some (vi h), some (vi p), some (vi y), none, none, some (vi (ln (sF S))), some (vi (ar (sF S) n)), some (vi 0)] [] (LM q, M') Post) ∧ (¬ (wr V < wr 9999999) → Post (some (vi (f10_told0 V))) (LM q, M')))) → TA i10_lanes 0 [some (vr 0), some (vi (n : Int)), some (vi h), some (vi p), some (vi y), none, none, none, none, none] [] (LM q, M) Post := by
      intro q M Post hM hK
      refine W10_lanes_0 ⟨isOne_01 hF hM.1 ia, W10_lanes_41 ⟨fun z => ?_, fun _ => ⟨by rw [wr_id (by omega) (by omega)]; omega, ?_⟩⟩⟩
      · rw [k2 M hM, e, wr0] at z; omega
      · have hT := hM.thr
        obtain ⟨f, w10, w11, w12, -, -⟩ := walkAs_ok hF hT.1 hn6
        have hM1 := hT.fr f.q
        have hRL : RL (sF S) n (g10_walkAs (up M 0 8 0) (n : Int)) := ⟨hM1.1, w10, w11, w12⟩
        refine W10_layLanes_0 (L_z19 hF hn6 hB hRL (fun M' hf' hW' => ?_) 122 0 _ rfl (FrN.rf _) (fun i h => absurd h (Nat.not_lt_zero _)))
        have hM' := hM1.fr hf'.q
        have hR' := hRL.fr hf'
        have v0 := (hW' 0 (Nat.le_refl _) (Nat.zero_le _) (ln (sF S)).toNat (hln hF) A (by omega)).1
        rw [← hA, Nat.sub_zero, ← hV] at v0
        have wk : wr (61 * ln (sF S) + ar (sF S) n) = 61 * ln (sF S) + ar (sF S) n := wr_id (by omega) (by omega)
        have tk : (61 * ln (sF S) + ar (sF S) n).toNat = 122 * 0 + 61 * (ln (sF S)).toNat + A := by omega
        rw [hR'.1.2.1, hR'.2.1, wk, tk, v0]
        exact ⟨by omega, hK M' hM' hR' hW'⟩
    by_cases gn : V = 9999999
    · have e1 : nC V = 10000000 := by omega
      refine ⟨-9, S, hS, fun M hM => run1 M _ hM (fun M' hM' _ _ _ _ => ?_), fun q M hM => run2 q M _ hM (fun M' hM' _ _ => ?_)⟩
      · rw [e1]; exact ⟨fun z => absurd z (by omega), fun _ => ⟨M', rfl, rfl, hM'⟩⟩
      · rw [gn]; exact ⟨fun _ => ⟨q, M', rfl, rfl, hM'⟩, fun _ => ⟨fun z => absurd z (by omega), fun _ => ⟨q, M', rfl, rfl, hM'⟩⟩⟩
    · have e1 : nC V = V := by omega
      have eT : f9_toldTime V = V := by unfold f9_toldTime; rw [if_pos (by rw [wlt (by omega) (by omega) (by omega) (by omega)]; omega)]
      have e0 : f10_told0 V = V := by unfold f10_told0; rw [if_pos (by rw [wlt (by omega) (by omega) (by omega) (by omega)]; omega)]
      have lt1 : wr V < wr 10000000 := by rw [wlt (by omega) (by omega) (by omega) (by omega)]; omega
      have lt2 : wr V < wr 9999999 := by rw [wlt (by omega) (by omega) (by omega) (by omega)]; omega
      by_cases gy : y = -1
      · refine ⟨V, S, hS, fun M hM => run1 M _ hM (fun M' hM' _ _ _ _ => ?_), fun q M hM => run2 q M _ hM (fun M' hM' _ _ => ?_)⟩
        · rw [e1, eT]; exact ⟨fun _ => ⟨fun _ => ⟨M', rfl, rfl, hM'⟩, fun z => absurd (by rw [gy]) z⟩, fun z => absurd lt1 z⟩
        · rw [e0]; exact ⟨fun _ => ⟨q, M', rfl, rfl, hM'⟩, fun z => absurd (by rw [gy]; decide) z⟩
      · obtain ⟨yy, rfl⟩ : ∃ yy : Nat, y = (yy : Int) := ⟨y.toNat, by omega⟩
        have hf : LF (lst (sF S) n h p) (yd (sF S)).toNat (yd (sF S)).toNat (ln (sF S)).toNat (ar (sF S) n) < 9999999 := by rw [← hV]; omega
        have eln : ln (sF S) = (((ln (sF S)).toNat : Nat) : Int) := by omega
        refine ⟨(((plL (lst (sF S) n h p) (yd (sF S)).toNat (ar (sF S) n) (ln (sF S)).toNat (yy + 1)).1 : Nat) : Int), S, hS, fun M hM => run1 M _ hM (fun M' hM' h11 h41 hWL hW62 => ?_), fun q M hM => run2 q M _ hM (fun M' hM' hRL hW19 => ?_)⟩
        · rw [e1]
          refine ⟨fun _ => ⟨fun z => ?_, fun _ => W5_laneOn_0_50_41 ?_⟩, fun z => absurd lt1 z⟩
          · rw [iy.w, im.w] at z; exact absurd z gy
          · rw [h11, h41, eln]
            have := L_lo hF hn6 hB (show yy < (yd (sF S)).toNat by omega) hf (M0 := M') (K := fun r2 M2 => CP S (((plL (lst (sF S) n h p) (yd (sF S)).toNat (ar (sF S) n) (ln (sF S)).toNat (yy + 1)).1 : Nat) : Int) (some (vi r2)) (LC, M2)) (fun M2 hI2 => ⟨M2, rfl, rfl, hM'.fr (M' := M2) (fun i hi => hI2.1 i (by omega) (by omega))⟩) (yy + 1) 0 M' (by omega) hWL hW62
            exact this
        · refine ⟨fun z => ?_, fun _ => ⟨fun _ => ?_, fun z => absurd lt2 z⟩⟩
          · rw [iy.w] at z; omega
          · rw [eln]
            exact L_lpM hF hn6 hB hf (by omega) yy 0 M' (by omega) hM' hRL hW19
  · refine ⟨W, sRef S W, hS.ref _, fun M hM => W9_lanes_0 (W9_lanes_22 ⟨fun z => ?_, fun _ => ?_⟩), fun q M hM => W10_lanes_0 ⟨isOne_01 hF hM.1 ia, W10_lanes_41 ⟨fun _ => ?_, fun z => ?_⟩⟩⟩
    · rw [k1 M hM, wr_id (by omega) (by omega)] at z; exact absurd z e
    · rw [k1 M hM]; exact C_ref hM (by omega)
    · rw [k2 M hM, wr_id (x := -_) (by omega) (by omega)]; exact ⟨by omega, M_ref hM.thr (by omega)⟩
    · rw [k2 M hM, wr_id (by omega) (by omega)] at z; omega

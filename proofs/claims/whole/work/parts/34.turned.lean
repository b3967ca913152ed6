/-! turnedRound: both sides answer alike -/
theorem time_eq {M : Mem} {s : RS} {j : Int} (h : WR M 41 s j) : f8_time M 41 = tvC s := by
  obtain ⟨-, -, hs⟩ := h
  unfold f8_time
  revert hs
  cases s with
  | none => intro hs; rw [show M 41 7 = 1 from hs, wr_id (by omega) (by omega)]; rfl
  | some z => intro hs; rw [show M 41 7 = 0 from hs.1, wr_id (by omega) (by omega)]; exact hs.2.2.1
theorem WR.tb {M : Mem} {w : Nat} {s : RS} {j : Int} (h : WR M w s j) (hj : j ≤ 45) : TB s := by
  obtain ⟨-, -, hs⟩ := h
  revert hs
  cases s with
  | none => exact fun _ => True.intro
  | some z => obtain ⟨l, t, a, b⟩ := z; intro hs; obtain ⟨-, -, -, -, -, -, b2, -⟩ := hs; show 0 ≤ t ∧ t ≤ 9000; omega
/-- the reference's end: the tenths, or -9 -/
theorem end_eq {M : Mem} {s : RS} {j : Int} (h : WM M s j) : (if wr (M 0 17) = 0 then M 0 13 else (-9)) = sTold s := by
  obtain ⟨-, -, -, hs⟩ := h
  revert hs
  cases s with
  | none => intro hs; rw [show M 0 17 = 1 from hs, wr1, if_neg (by omega)]; rfl
  | some z => obtain ⟨l, t, a, b⟩ := z; intro hs; rw [show M 0 17 = 0 from hs.1, wr0, if_pos rfl]; exact hs.2.2.1
theorem WM.never {M : Mem} {s : RS} {j : Int} (h : WM M s j) (q : ¬ wr (M 0 17) = 0) : s = none := by
  obtain ⟨-, -, -, hs⟩ := h
  revert hs
  cases s with
  | none => exact fun _ => rfl
  | some z => intro hs; rw [show M 0 17 = 0 from hs.1] at q; exact absurd wr0 q
theorem sRun_none {kf ff : Nat → Int} {a h d hold pace : Int} {s : RS} {n : Nat} (e : sRun kf ff a h d hold pace s n = none) : ∀ k : Nat, sRun kf ff a h d hold pace s (n + k) = none
  | 0 => e
  | k + 1 => by
    have := sRun_none e k
    show sStep _ _ a h d hold pace (sRun kf ff a h d hold pace s (n + k)) = none
    rw [this]; rfl
theorem one_eq {F : FS} (hF : FOK F) {M : Mem} (hR : RMf F M) {a h p : Int} (ia : IR a) (ih : IR h) (ip : IR p) : (if wr (f10_isOne M a) = 0 then (-1) else f10_wrongBy h p) = sOne F a h p := by
  rw [isOne_eq hF hR ia, wrongBy_eq ih ip]
  unfold sOne
  by_cases g : sWho F a
  · rw [if_pos g, if_neg (by rw [wr1]; omega), if_pos g]
  · rw [if_neg g, if_pos wr0, if_neg g]
abbrev rk' (F : FS) : Nat → Int := fun n => lk F (ln F).toNat ((yd F).toNat - 1 - n)
abbrev rf' (F : FS) : Nat → Int := fun n => lf F (ln F).toNat ((yd F).toNat - 1 - n)
abbrev sTurn (F : FS) (p : Nat) (h pace : Int) : Nat → RS := sRun (rk' F) (rf' F) (ar F p) (hv F p) (hd F p) h pace (some (ar F p, 0, 0, 0))
theorem L_turnC {S : ST} (hF : FOK (sF S)) {p : Nat} (hp : p < 6) {h pace : Int} (hb : BOK h pace) {M0 : Mem} (hM0 : RC S M0) (hC : CO M0 36 (yd (sF S)).toNat (lk (sF S) (ln (sF S)).toNat) (lf (sF S) (ln (sF S)).toNat)) : ∀ (k n : Nat) (M : Mem), n + k = (yd (sF S)).toNat → (∀ i, i ≠ 41 → M i = M0 i) → M 41 0 = ar (sF S) p → M 41 1 = hv (sF S) p → M 41 2 = hd (sF S) p → WR M 41 (sTurn (sF S) p h pace n) (n : Int) →
    TA i9_turnedRound 62 [some (vr 0), none, some (vi h), some (vi pace), none, some (vi (yd (sF S) - 1 - (n : Int)))] [] (LC, M) (CP S (sTold (sTurn (sF S) p h pace (yd (sF S)).toNat)))
  | 0, n, M, hn, hf, h0, h1, h2, hW => by
    obtain ⟨hy1, hy2⟩ := hF.1
    have e : n = (yd (sF S)).toNat := by omega
    subst e
    refine W9_turnedRound_62 ⟨fun _ => ⟨M, ?_, rfl, hM0.fr (FrC.of41 hf)⟩, fun z => ?_⟩
    · rw [time_eq hW, toldC (hW.tb (by omega))]
    · rw [wr_id (by omega) (by omega)] at z; omega
  | k + 1, n, M, hn, hf, h0, h1, h2, hW => by
    obtain ⟨hy1, hy2⟩ := hF.1
    refine W9_turnedRound_62 ⟨fun z => ?_, fun _ => ?_⟩
    · rw [wr_id (by omega) (by omega)] at z; omega
    · have ey : (yd (sF S) - 1 - (n : Int)).toNat = (yd (sF S)).toNat - 1 - n := by omega
      obtain ⟨k1, k2, k3⟩ := hC.2.2 ((yd (sF S)).toNat - 1 - n) (by omega)
      refine T_goes_41_36 k3 hb (by omega) (by rw [hf 38 (by omega), ey]; exact k1) (by rw [hf 40 (by omega), ey]; exact k2) hW (by omega) (fun M' f1 f2 f3 f4 f5 => ?_)
      rw [h0, h1, h2] at f5
      have e1 : yd (sF S) - 1 - (n : Int) + -1 = yd (sF S) - 1 - ((n + 1 : Nat) : Int) := by omega
      rw [e1]
      exact L_turnC hF hp hb hM0 hC k (n + 1) M' (by omega) (fun i hi => by rw [f1 i hi]; exact hf i hi) (by rw [f2]; exact h0) (by rw [f3]; exact h1) (by rw [f4]; exact h2) f5
theorem L_turnM {S : ST} (hF : FOK (sF S)) {p : Nat} (hp : p < 6) {h pace : Int} (hb : BOK h pace) {q : Option Nat} : ∀ (k n : Nat) (M : Mem), n + k = (yd (sF S)).toNat → RM S M → M 0 10 = ar (sF S) p → M 0 11 = hv (sF S) p → M 0 12 = hd (sF S) p → WM M (sTurn (sF S) p h pace n) (n : Int) →
    TA i10_turnedRound 53 [some (vr 0), none, some (vi h), some (vi pace), none, some (vi (yd (sF S) - 1 - (n : Int)))] [] (LM q, M) (MP S (sTold (sTurn (sF S) p h pace (yd (sF S)).toNat)))
  | 0, n, M, hn, hM, h0, h1, h2, hW => by
    obtain ⟨hy1, hy2⟩ := hF.1
    have e : n = (yd (sF S)).toNat := by omega
    subst e
    refine W10_turnedRound_53 ⟨fun _ => W10_turnedRound_103 ⟨q, M, by rw [end_eq hW], rfl, hM⟩, fun z => ?_⟩
    rw [wr_id (by omega) (by omega)] at z; omega
  | k + 1, n, M, hn, hM, h0, h1, h2, hW => by
    obtain ⟨hy1, hy2⟩ := hF.1
    obtain ⟨hl1, hl2⟩ := hF.2.1
    refine W10_turnedRound_53 ⟨fun z => ?_, fun _ => ⟨fun _ => ?_, fun z => W10_turnedRound_103 ⟨q, M, ?_, rfl, hM⟩⟩⟩
    · rw [wr_id (by omega) (by omega)] at z; omega
    · have hK := hF.K (lane := (ln (sF S)).toNat) (y := (yd (sF S)).toNat - 1 - n) (by omega) (by omega)
      have e20 : (20 * ln (sF S) + (yd (sF S) - 1 - (n : Int))).toNat = 20 * (ln (sF S)).toNat + ((yd (sF S)).toNat - 1 - n) := by omega
      rw [hM.1.2.1]
      refine T_stepOn (j := (n : Int)) (k := rk' (sF S) n) (f := rf' (sF S) n) (by omega) hK hb (by rw [hM.1.2.2.2.1 _ (by omega), e20]; rfl) (by rw [hM.1.2.2.2.2.1 _ (by omega), e20]; rfl) hW (by omega) (fun M2 f2 hW2 h182 => ?_)
      rw [h0, h1, h2] at hW2
      have e1 : yd (sF S) - 1 - (n : Int) + -1 = yd (sF S) - 1 - ((n + 1 : Nat) : Int) := by omega
      rw [e1]
      exact L_turnM hF hp hb k (n + 1) M2 (by omega) (hM.fr f2.q) (by rw [f2.2 10 (by omega)]; exact h0) (by rw [f2.2 11 (by omega)]; exact h1) (by rw [f2.2 12 (by omega)]; exact h2) hW2
    · have en := hW.never z
      have := sRun_none en (k + 1)
      rw [hn] at this
      rw [end_eq hW, en, show sTurn (sF S) p h pace (yd (sF S)).toNat = none from this]
theorem RMf.start {F : FS} (hF : FOK F) {M : Mem} (hR : RMf F M) {p : Nat} (hp : p < 6) : FrR M (g10_start (g10_walkAs M (p : Int))) ∧ g10_start (g10_walkAs M (p : Int)) 0 10 = ar F p ∧ g10_start (g10_walkAs M (p : Int)) 0 11 = hv F p ∧ g10_start (g10_walkAs M (p : Int)) 0 12 = hd F p ∧ WM (g10_start (g10_walkAs M (p : Int))) (some (ar F p, 0, 0, 0)) 0 := by
  obtain ⟨g1, g2, g3, g4, g5, g6⟩ := walkAs_ok hF hR hp
  obtain ⟨pa, ph, pd⟩ := hF.P hp
  obtain ⟨s1, s2, s3⟩ := start_ok (M := g10_walkAs M (p : Int)) (by rw [g2]; exact pa) (by rw [g3]; exact ph) (by rw [g4]; exact pd)
  rw [g2] at s2
  exact ⟨g1.s s1, by rw [s1.2 10 (by omega)]; exact g2, by rw [s1.2 11 (by omega)]; exact g3, by rw [s1.2 12 (by omega)]; exact g4, s2⟩
/-- the course is there, one stands at its start -/
theorem CO.start {F : FS} (hF : FOK F) {M1 : Mem} (hR1 : RCf F M1 1) {p : Nat} (hp : p < 6) {n : Nat} {kf ff : Nat → Int} (hC : CO M1 36 n kf ff) : (∀ i, i ≠ 41 → g8_starts M1 41 1 (p : Int) i = M1 i) ∧ g8_starts M1 41 1 (p : Int) 41 0 = ar F p ∧ g8_starts M1 41 1 (p : Int) 41 1 = hv F p ∧ g8_starts M1 41 1 (p : Int) 41 2 = hd F p ∧ WR (g8_starts M1 41 1 (p : Int)) 41 (some (ar F p, 0, 0, 0)) 0 ∧ CO (g8_starts M1 41 1 (p : Int)) 36 n kf ff := by
  obtain ⟨pa, ph, pd⟩ := hF.P hp
  rw [starts_eq hR1 hp]
  obtain ⟨g1, g2, g3, g4, g5⟩ := startsAs_ok (M := M1) (w := 41) pa ph pd
  exact ⟨g1, g2, g3, g4, g5, hC.fr g1⟩
theorem SIM_turnedRound {a h p : Int} (ia : IR a) (ih : IR h) (ip : IR p) : SIM i9_turnedRound 6 i10_turnedRound 6 [vi a, vi h, vi p] := by
  intro S hS
  have hF := hS.1
  have hy := hF.1
  have c1 := sOne_le (sF S) a h p
  have k1 : ∀ M, RC S M → f9_badOne M a h p = sOne (sF S) a h p := fun M hM => badOne_eq hF hM.1 ia ih ip
  have k2 : ∀ M, RM S M → (if wr (f10_isOne (up M 0 8 0) a) = 0 then (-1) else f10_wrongBy h p) = sOne (sF S) a h p := fun M hM => one_eq hF hM.thr.1 ia ih ip
  by_cases e : sOne (sF S) a h p = 0
  · obtain ⟨ha, hB⟩ := sOne_ok e
    obtain ⟨n, hn6, rfl, -⟩ := ha.n hF
    refine ⟨sTold (sTurn (sF S) n h p (yd (sF S)).toNat), S, hS, fun M hM => W9_turnedRound_0 ⟨fun _ => ?_, fun z => ?_⟩, fun q M hM => W10_turnedRound_0 ⟨isOne_01 hF hM.1 ia, ?_⟩⟩
    · rw [hM.1.2.1]
      refine T_takes_36 hF hF.2.1 hM.1 (fun M1 f1 hC => ⟨wb0, ?_⟩)
      have g1 : FrC M M1 := fun i hi => f1 i (by omega) (by omega) (by omega)
      obtain ⟨q1, q2, q3, q4, q5, q6⟩ := CO.start hF (hM.fr g1).1 hn6 hC
      have e0 : M1 36 0 - 1 = yd (sF S) - 1 - ((0 : Nat) : Int) := by rw [hC.1]; omega
      rw [e0]
      exact L_turnC hF hn6 hB (hM.fr (g1.tr (FrC.of41 q1))) q6 (yd (sF S)).toNat 0 _ (by omega) (fun _ _ => rfl) q2 q3 q4 q5
    · rw [k1 M hM, e] at z; exact absurd wr0 z
    · rw [k2 M hM, e]
      have hT := hM.thr
      obtain ⟨q1, q2, q3, q4, q5⟩ := hT.1.start hF hn6
      refine W10_turnedRound_22 ⟨fun z => ?_, fun _ => ⟨by rw [wr_id (by omega) (by omega)]; omega, wb0, ?_⟩⟩
      · rw [wr0] at z; omega
      · have e0 : up M 0 8 0 0 2 - 1 = yd (sF S) - 1 - ((0 : Nat) : Int) := by rw [hT.1.1]; omega
        rw [e0]
        exact L_turnM hF hn6 hB (yd (sF S)).toNat 0 _ (by omega) (hT.fr q1.q) q2 q3 q4 q5
  · refine ⟨sOne (sF S) a h p, sRef S (sOne (sF S) a h p), hS.ref _, fun M hM => W9_turnedRound_0 ⟨fun z => ?_, fun _ => ?_⟩, fun q M hM => W10_turnedRound_0 ⟨isOne_01 hF hM.1 ia, ?_⟩⟩
    · rw [k1 M hM, wr_id (by omega) (by omega)] at z; exact absurd z e
    · rw [k1 M hM]; exact C_ref hM (by omega)
    · rw [k2 M hM]
      refine W10_turnedRound_22 ⟨fun _ => ⟨by rw [wr_id (by omega) (by omega)]; omega, M_ref hM.thr (by omega)⟩, fun z => ?_⟩
      rw [wr_id (by omega) (by omega)] at z; omega

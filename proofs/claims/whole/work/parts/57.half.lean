/-! half, longest, handicap: both sides answer alike -/
theorem low3 {h p : Int} (ih : IR h) (ip : IR p) {c : Prop} [Decidable c] : (if wr (f9_low h p) = 0 then (if c then (1 : Int) else 0) else 1) = if h < 0 ∨ p < 1 ∨ c then 1 else 0 := by
  rw [low_eq ih ip]
  by_cases g : h < 0 ∨ p < 1
  · rw [if_pos g, if_neg (c := wr 1 = 0) (by rw [wr1]; omega), if_pos (g.elim Or.inl (fun z => Or.inr (Or.inl z)))]
  · rw [if_neg g, if_pos wr0]
    by_cases hc : c
    · rw [if_pos hc, if_pos (Or.inr (Or.inr hc))]
    · rw [if_neg hc, if_neg (fun z => z.elim (fun y => g (Or.inl y)) (fun y => y.elim (fun x => g (Or.inr x)) hc))]
theorem high3 {h p : Int} (ih : IR h) (ip : IR p) {c : Prop} [Decidable c] : (if wr (f9_high h p) = 0 then (if c then (1 : Int) else 0) else 1) = if 2 < h ∨ 9 < p ∨ c then 1 else 0 := by
  rw [high_eq ih ip]
  by_cases g : 2 < h ∨ 9 < p
  · rw [if_pos g, if_neg (c := wr 1 = 0) (by rw [wr1]; omega), if_pos (g.elim Or.inl (fun z => Or.inr (Or.inl z)))]
  · rw [if_neg g, if_pos wr0]
    by_cases hc : c
    · rw [if_pos hc, if_pos (Or.inr (Or.inr hc))]
    · rw [if_neg hc, if_neg (fun z => z.elim (fun y => g (Or.inl y)) (fun y => y.elim (fun x => g (Or.inr x)) hc))]
def s3t (F : FS) (a h p t lo hi : Int) : Int := s3w (¬ sWho F a) (h < 0 ∨ p < 1 ∨ t < lo) (2 < h ∨ 9 < p ∨ hi < t)
theorem s3t_le (F : FS) (a h p t lo hi : Int) : -6 ≤ s3t F a h p t lo hi ∧ s3t F a h p t lo hi ≤ 0 := by unfold s3t s3w; (repeat' split) <;> omega
theorem s3t_ok {F : FS} {a h p t lo hi : Int} (e : s3t F a h p t lo hi = 0) : sWho F a ∧ BOK h p ∧ lo ≤ t ∧ t ≤ hi := by
  unfold s3t s3w at e
  by_cases g : sWho F a
  · rw [if_neg (fun z => z g)] at e
    unfold BOK
    refine ⟨g, ?_⟩
    (repeat' split at e) <;> omega
  · rw [if_pos g] at e; omega
theorem s3t_1 {F : FS} {a h p t lo hi : Int} (g : ¬ sWho F a) : s3t F a h p t lo hi = -1 := if_pos g
theorem s3t_4 {F : FS} {a h p t lo hi : Int} (g : sWho F a) (g2 : h < 0 ∨ p < 1 ∨ t < lo) : s3t F a h p t lo hi = -4 := by unfold s3t s3w; rw [if_neg (fun z => z g), if_pos g2]
theorem s3t_6 {F : FS} {a h p t lo hi : Int} (g : sWho F a) (g2 : ¬ (h < 0 ∨ p < 1 ∨ t < lo)) (g3 : 2 < h ∨ 9 < p ∨ hi < t) : s3t F a h p t lo hi = -6 := by unfold s3t s3w; rw [if_neg (fun z => z g), if_neg g2, if_pos g3]
theorem s3t_0 {F : FS} {a h p t lo hi : Int} (g : sWho F a) (g2 : ¬ (h < 0 ∨ p < 1 ∨ t < lo)) (g3 : ¬ (2 < h ∨ 9 < p ∨ hi < t)) : s3t F a h p t lo hi = 0 := by unfold s3t s3w; rw [if_neg (fun z => z g), if_neg g2, if_neg g3]
theorem nob3 {F : FS} (hF : FOK F) {M : Mem} (hR : RCf F M 1) {a : Int} (ia : IR a) : f9_nobody M a = if ¬ sWho F a then 1 else 0 := (nobody_eq hF hR ia).trans ite_no
/-- a race over the course that is there, of one put at the start -/
theorem T_overA {M : Mem} {n : Nat} {kf ff : Nat → Int} (hC : CO M 36 n kf ff) {a h d : Int} (ha : 0 ≤ a ∧ a ≤ 60) (hh : 0 ≤ h ∧ h ≤ 9) (hd : 0 ≤ d ∧ d ≤ 9) {hold pace : Int} (hb : BOK hold pace) {K : Int → Mem → Prop}
    (hK : ∀ M', (∀ i, i ≠ 41 → M' i = M i) → WR M' 41 (sRun kf ff a h d hold pace (some (a, 0, 0, 0)) n) (n : Int) → K (tvC (sRun kf ff a h d hold pace (some (a, 0, 0, 0)) n)) M') : TI i8_timeOver 5 [vr 41, vr 36, vi hold, vi pace] (LC, g8_startsAs M 41 a h d) K := by
  obtain ⟨g1, g2, g3, g4, g5⟩ := startsAs_ok (M := M) (w := 41) ha hh hd
  refine T_over hb (j := 0) (by omega) (hC.fr g1) g5 (fun M2 f2 e0 e1 e2 hW => ?_)
  rw [g2, g3, g4] at hW ⊢
  rw [Int.zero_add] at hW
  exact hK M2 (fun i hi => by rw [f2 i hi, g1 i hi]) hW
theorem sRaceN_none {F : FS} {lane p : Nat} {h pace : Int} {n : Nat} (e : sRaceN F lane p h pace n = none) (k : Nat) : sRaceN F lane p h pace (n + k) = none := sRun_none e k
/-- half -/
def tN (F : FS) (p : Nat) (h pace : Int) (n : Nat) : Int := tvC (sRaceN F (ln F).toNat p h pace n)
def sHalf (F : FS) (p : Nat) (h pace : Int) (w : Int) : Nat → Nat → Int
  | 0, _ => -9
  | k + 1, y => if 2 * tN F p h pace (y + 1) < w then sHalf F p h pace w k (y + 1) else (y : Int)
theorem sHalf_lt {F : FS} {p : Nat} {h pace w : Int} {k y : Nat} (g : 2 * tN F p h pace (y + 1) < w) : sHalf F p h pace w (k + 1) y = sHalf F p h pace w k (y + 1) := if_pos g
theorem sHalf_ge {F : FS} {p : Nat} {h pace w : Int} {k y : Nat} (g : ¬ 2 * tN F p h pace (y + 1) < w) : sHalf F p h pace w (k + 1) y = (y : Int) := if_neg g
theorem raceN_some {F : FS} (hF : FOK F) {p : Nat} (hp : p < 6) {h pace : Int} (hb : BOK h pace) (hr : sRace F (ln F).toNat p h pace ≠ none) {n : Nat} (hn : n ≤ (yd F).toNat) : ∃ l t a b, sRaceN F (ln F).toNat p h pace n = some (l, t, a, b) ∧ tN F p h pace n = t ∧ 0 ≤ t ∧ t ≤ 4000 := by
  have hy := hF.1
  cases e : sRaceN F (ln F).toNat p h pace n with
  | none =>
    have := sRaceN_none e ((yd F).toNat - n)
    rw [show n + ((yd F).toNat - n) = (yd F).toNat by omega] at this
    exact absurd this hr
  | some z =>
    obtain ⟨l, t, a, b⟩ := z
    have := sRaceN_le hF (hln hF) hp hb n (by omega) l t a b e
    exact ⟨l, t, a, b, rfl, by unfold tN; rw [e]; rfl, by omega, by omega⟩
theorem L_halfC {S : ST} (hF : FOK (sF S)) {p : Nat} (hp : p < 6) {h pace : Int} (hb : BOK h pace) (hr : sRace (sF S) (ln (sF S)).toNat p h pace ≠ none) {w : Int} (hw : 0 ≤ w ∧ w ≤ 4000) {M0 : Mem} (hM0 : RC S M0) (hC : CO M0 36 (yd (sF S)).toNat (lk (sF S) (ln (sF S)).toNat) (lf (sF S) (ln (sF S)).toNat)) : ∀ (k y : Nat) (M : Mem), y + k = (yd (sF S)).toNat → (∀ i, i ≠ 41 → M i = M0 i) → M 41 0 = ar (sF S) p → M 41 1 = hv (sF S) p → M 41 2 = hd (sF S) p → WR M 41 (sRaceN (sF S) (ln (sF S)).toNat p h pace y) (y : Int) →
    TA i9_half 55 [some (vr 0), none, some (vi h), some (vi pace), none, some (vi w), some (vi (y : Int))] [] (LC, M) (CP S (sHalf (sF S) p h pace w k y))
  | 0, y, M, hy, hf, h0, h1, h2, hW => by
    obtain ⟨hy1, hy2⟩ := hF.1
    refine W9_half_55 ⟨fun z => ?_, fun _ => ⟨M, rfl, rfl, hM0.fr (FrC.of41 hf)⟩⟩
    rw [hf 36 (by omega), hC.1, wlt (by omega) (by omega) (by omega) (by omega)] at z; omega
  | k + 1, y, M, hy, hf, h0, h1, h2, hW => by
    obtain ⟨hy1, hy2⟩ := hF.1
    have ey : ((y : Int)).toNat = y := by omega
    obtain ⟨k1, k2, k3⟩ := hC.2.2 y (by omega)
    obtain ⟨l, t, a, b, e, et, t0, t4⟩ := raceN_some hF hp hb hr (n := y + 1) (by omega)
    refine W9_half_55 ⟨fun _ => ?_, fun z => ?_⟩
    · refine T_goes_41_36 k3 hb (by omega) (by rw [hf 38 (by omega), ey]; exact k1) (by rw [hf 40 (by omega), ey]; exact k2) hW (by omega) (fun M' f1 f2 f3 f4 f5 => ?_)
      rw [h0, h1, h2] at f5
      have f6 : WR M' 41 (sRaceN (sF S) (ln (sF S)).toNat p h pace (y + 1)) ((y : Int) + 1) := f5
      have e1 : ((y + 1 : Nat) : Int) = (y : Int) + 1 := by omega
      have e4 : M' 41 4 = t := by
        rw [e] at f6
        exact f6.2.2.2.2.1
      have ih := L_halfC hF hp hb hr hw hM0 hC k (y + 1) M' (by omega) (fun i hi => by rw [f1 i hi]; exact hf i hi) (by rw [f2]; exact h0) (by rw [f3]; exact h1) (by rw [f4]; exact h2) (by rw [e1]; exact f6)
      rw [e1] at ih
      rw [e4, wlt (by omega) (by omega) (by omega) (by omega), ← et]
      refine ⟨fun z => ?_, fun z => ?_⟩
      · rw [sHalf_lt z]; exact ih
      · rw [sHalf_ge z]; exact ⟨M', rfl, rfl, hM0.fr (FrC.of41 (fun i hi => by rw [f1 i hi]; exact hf i hi))⟩
    · rw [hf 36 (by omega), hC.1, wlt (by omega) (by omega) (by omega) (by omega)] at z; omega
theorem L_halfM {S : ST} (hF : FOK (sF S)) {p : Nat} (hp : p < 6) {h pace : Int} (hb : BOK h pace) (hr : sRace (sF S) (ln (sF S)).toNat p h pace ≠ none) {q : Option Nat} {M : Mem} (hM : RM S M) (h7 : ∀ y, y < (yd (sF S)).toNat → ∀ l t a b, sRaceN (sF S) (ln (sF S)).toNat p h pace (y + 1) = some (l, t, a, b) → M 7 y = t) : ∀ (k y : Nat), y + k + 1 = (yd (sF S)).toNat →
    TA i10_half 48 [some (vr 0), none, none, none, none, some (vi (tN (sF S) p h pace (yd (sF S)).toNat)), some (vi (y : Int))] [] (LM q, M) (MP S (sHalf (sF S) p h pace (tN (sF S) p h pace (yd (sF S)).toNat) (k + 1) y))
  | k, y, hy => by
    obtain ⟨hy1, hy2⟩ := hF.1
    obtain ⟨l, t, a, b, e, et, t0, t4⟩ := raceN_some hF hp hb hr (n := y + 1) (by omega)
    obtain ⟨lw, tw, aw, bw, ew, etw, w0, w4⟩ := raceN_some hF hp hb hr (n := (yd (sF S)).toNat) (by omega)
    have e7 := h7 y (by omega) l t a b e
    have e1 : ((y + 1 : Nat) : Int) = (y : Int) + 1 := by omega
    rw [etw]
    refine W10_half_48 ⟨fun _ => ⟨?_, ?_⟩, fun z => ?_⟩
    · rw [wr_id (by omega) (by omega)]; omega
    · rw [wr_id (x := (y : Int)) (by omega) (by omega), show ((y : Int)).toNat = y by omega, e7, wlt (by omega) (by omega) (by omega) (by omega), ← et]
      refine ⟨fun z => ?_, fun z => W10_half_89 ?_⟩
      · cases k with
        | zero =>
          have : y + 1 = (yd (sF S)).toNat := by omega
          rw [this, etw] at z; omega
        | succ k =>
          have ih := L_halfM hF hp hb hr (q := q) hM h7 k (y + 1) (by omega)
          rw [etw, e1] at ih
          rw [sHalf_lt z]; exact ih
      · rw [sHalf_ge z, if_pos (by rw [wlt (by omega) (by omega) (by omega) (by omega)]; omega)]
        exact ⟨q, M, rfl, rfl, hM⟩
    · rw [wlt (by omega) (by omega) (by omega) (by omega)] at z; omega
theorem SIM_half {a h p : Int} (ia : IR a) (ih : IR h) (ip : IR p) : SIM i9_half 7 i10_half 7 [vi a, vi h, vi p] := by
  intro S hS
  have hF := hS.1
  have hy := hF.1
  have c1 := sOne_le (sF S) a h p
  have k1 : ∀ M, RC S M → f9_badOne M a h p = sOne (sF S) a h p := fun M hM => badOne_eq hF hM.1 ia ih ip
  have k2 : ∀ M, RM S M → (if wr (f10_isOne (up M 0 8 0) a) = 0 then (-1) else f10_wrongBy h p) = sOne (sF S) a h p := fun M hM => one_eq hF hM.thr.1 ia ih ip
  by_cases e : sOne (sF S) a h p = 0
  · obtain ⟨ha, hB⟩ := sOne_ok e
    obtain ⟨n, hn6, rfl, -⟩ := ha.n hF
    by_cases hr : sRace (sF S) (ln (sF S)).toNat n h p = none
    · refine ⟨-9, S, hS, fun M hM => W9_half_0 ⟨fun _ => T_timeOf hF hM.1 hn6 hB (fun M' hL => ?_), fun z => ?_⟩, fun q M hM => W10_half_0 ⟨isOne_01 hF hM.1 ia, ?_⟩⟩
      · rw [hr]
        refine ⟨fun z => ?_, fun _ => ⟨M', rfl, rfl, hM.fr hL.C⟩⟩
        rw [show tvC none = 10000000 from rfl] at z; omega
      · rw [k1 M hM, e] at z; exact absurd wr0 z
      · rw [k2 M hM, e]
        refine W10_half_22 ⟨fun z => ?_, fun _ => T_plainRun hF hB hn6 hM.thr.1 (fun M' hL => ?_)⟩
        · rw [wr0] at z; omega
        · rw [hr]
          have : ¬ wr (tvM none) < wr 9999999 := by rw [show tvM none = 9999999 from rfl]; omega
          refine W10_half_48 ⟨fun z => absurd z this, fun _ => W10_half_89 ?_⟩
          rw [if_neg this]
          exact ⟨q, M', rfl, rfl, hM.thr.fr hL.1.q⟩
    · obtain ⟨lw, tw, aw, bw, ew, etw, w0, w4⟩ := raceN_some hF hn6 hB hr (n := (yd (sF S)).toNat) (by omega)
      have hw : sRace (sF S) (ln (sF S)).toNat n h p = some (lw, tw, aw, bw) := ew
      have hWc : tvC (sRace (sF S) (ln (sF S)).toNat n h p) = tN (sF S) n h p (yd (sF S)).toNat := rfl
      have hWm : tvM (sRace (sF S) (ln (sF S)).toNat n h p) = tN (sF S) n h p (yd (sF S)).toNat := by rw [hw, etw]; rfl
      refine ⟨sHalf (sF S) n h p (tN (sF S) n h p (yd (sF S)).toNat) ((yd (sF S)).toNat - 1 + 1) 0, S, hS, fun M hM => W9_half_0 ⟨fun _ => T_timeOf hF hM.1 hn6 hB (fun M' hL => ?_), fun z => ?_⟩, fun q M hM => W10_half_0 ⟨isOne_01 hF hM.1 ia, ?_⟩⟩
      · rw [hWc]
        refine ⟨fun _ => ⟨wb0, ?_⟩, fun z => ?_⟩
        · have hM' := hM.fr hL.C
          obtain ⟨q1, q2, q3, q4, q5, q6⟩ := CO.start hF hM'.1 hn6 hL.2.1
          exact L_halfC hF hn6 hB hr (by rw [etw]; omega) (hM'.fr (FrC.of41 q1)) q6 ((yd (sF S)).toNat - 1 + 1) 0 _ (by omega) (fun _ _ => rfl) q2 q3 q4 q5
        · rw [etw, wlt (by omega) (by omega) (by omega) (by omega)] at z; omega
      · rw [k1 M hM, e] at z; exact absurd wr0 z
      · rw [k2 M hM, e]
        refine W10_half_22 ⟨fun z => ?_, fun _ => T_plainRun hF hB hn6 hM.thr.1 (fun M' hL => ?_)⟩
        · rw [wr0] at z; omega
        · rw [hWm]
          exact L_halfM hF hn6 hB hr (hM.thr.fr hL.1.q) hL.2.2.2 ((yd (sF S)).toNat - 1) 0 (by omega)
  · refine ⟨sOne (sF S) a h p, sRef S (sOne (sF S) a h p), hS.ref _, fun M hM => W9_half_0 ⟨fun z => ?_, fun _ => ?_⟩, fun q M hM => W10_half_0 ⟨isOne_01 hF hM.1 ia, ?_⟩⟩
    · rw [k1 M hM, wr_id (by omega) (by omega)] at z; exact absurd z e
    · rw [k1 M hM]; exact C_ref hM (by omega)
    · rw [k2 M hM]
      refine W10_half_22 ⟨fun _ => ⟨by rw [wr_id (by omega) (by omega)]; omega, M_ref hM.thr (by omega)⟩, fun z => ?_⟩
      rw [wr_id (by omega) (by omega)] at z; omega
/-- longest -/
def sLong (F : FS) (p : Nat) (h pace t : Int) : Nat → Nat → Int
  | 0, y => (y : Int)
  | k + 1, y => if t < tN F p h pace (y + 1) then (y : Int) else sLong F p h pace t k (y + 1)
theorem sLong_lt {F : FS} {p : Nat} {h pace t : Int} {k y : Nat} (g : t < tN F p h pace (y + 1)) : sLong F p h pace t (k + 1) y = (y : Int) := if_pos g
theorem sLong_ge {F : FS} {p : Nat} {h pace t : Int} {k y : Nat} (g : ¬ t < tN F p h pace (y + 1)) : sLong F p h pace t (k + 1) y = sLong F p h pace t k (y + 1) := if_neg g
theorem L_longC {S : ST} (hF : FOK (sF S)) {p : Nat} (hp : p < 6) {h pace : Int} (hb : BOK h pace) {t : Int} (ht : 0 ≤ t ∧ t ≤ 9999) {M0 : Mem} (hM0 : RC S M0) (hC : CO M0 36 (yd (sF S)).toNat (lk (sF S) (ln (sF S)).toNat) (lf (sF S) (ln (sF S)).toNat)) : ∀ (k y : Nat) (M : Mem), y + k = (yd (sF S)).toNat → (∀ i, i ≠ 41 → M i = M0 i) → M 41 0 = ar (sF S) p → M 41 1 = hv (sF S) p → M 41 2 = hd (sF S) p → WR M 41 (sRaceN (sF S) (ln (sF S)).toNat p h pace y) (y : Int) →
    TA i9_longest 94 [some (vr 0), none, some (vi h), some (vi pace), some (vi t), none, some (vi (y : Int))] [] (LC, M) (CP S (sLong (sF S) p h pace t k y))
  | 0, y, M, hy, hf, h0, h1, h2, hW => by
    obtain ⟨hy1, hy2⟩ := hF.1
    have e0 : M 36 0 = (y : Int) := by rw [hf 36 (by omega), hC.1]; omega
    refine W9_longest_94 ⟨fun z => ?_, fun _ => ⟨M, by rw [e0]; rfl, rfl, hM0.fr (FrC.of41 hf)⟩⟩
    rw [e0, wlt (by omega) (by omega) (by omega) (by omega)] at z; omega
  | k + 1, y, M, hy, hf, h0, h1, h2, hW => by
    obtain ⟨hy1, hy2⟩ := hF.1
    have ey : ((y : Int)).toNat = y := by omega
    obtain ⟨k1, k2, k3⟩ := hC.2.2 y (by omega)
    refine W9_longest_94 ⟨fun _ => ?_, fun z => ?_⟩
    · refine T_goes_41_36 k3 hb (by omega) (by rw [hf 38 (by omega), ey]; exact k1) (by rw [hf 40 (by omega), ey]; exact k2) hW (by omega) (fun M' f1 f2 f3 f4 f5 => ?_)
      rw [h0, h1, h2] at f5
      have f6 : WR M' 41 (sRaceN (sF S) (ln (sF S)).toNat p h pace (y + 1)) ((y : Int) + 1) := f5
      have e1 : ((y + 1 : Nat) : Int) = (y : Int) + 1 := by omega
      have hle := tvC_le (f6.tb (by omega))
      have et : tvC (sRaceN (sF S) (ln (sF S)).toNat p h pace (y + 1)) = tN (sF S) p h pace (y + 1) := rfl
      have ih := L_longC hF hp hb ht hM0 hC k (y + 1) M' (by omega) (fun i hi => by rw [f1 i hi]; exact hf i hi) (by rw [f2]; exact h0) (by rw [f3]; exact h1) (by rw [f4]; exact h2) (by rw [e1]; exact f6)
      rw [e1] at ih
      rw [time_eq f6, wlt (by omega) (by omega) (by omega) (by omega), et]
      refine ⟨fun z => ?_, fun z => ?_⟩
      · rw [sLong_lt z]; exact ⟨M', rfl, rfl, hM0.fr (FrC.of41 (fun i hi => by rw [f1 i hi]; exact hf i hi))⟩
      · rw [sLong_ge z]; exact ih
    · rw [hf 36 (by omega), hC.1, wlt (by omega) (by omega) (by omega) (by omega)] at z; omega
theorem L_longM {S : ST} (hF : FOK (sF S)) {p : Nat} (hp : p < 6) {h pace : Int} (hb : BOK h pace) {t : Int} (ht : 0 ≤ t ∧ t ≤ 9999) {q : Option Nat} : ∀ (k y : Nat) (M : Mem), y + k = (yd (sF S)).toNat → RM S M → M 0 10 = ar (sF S) p → M 0 11 = hv (sF S) p → M 0 12 = hd (sF S) p → WM M (sRaceN (sF S) (ln (sF S)).toNat p h pace y) (y : Int) →
    TA i10_longest 96 [some (vr 0), none, some (vi h), some (vi pace), some (vi t), none, some (vi (y : Int)), some (vi 1), some (vi (y : Int))] [] (LM q, M) (MP S (sLong (sF S) p h pace t k y))
  | 0, y, M, hy, hM, h0, h1, h2, hW => by
    obtain ⟨hy1, hy2⟩ := hF.1
    refine W10_longest_96 ⟨fun z => ?_, fun _ => W10_longest_170 ⟨q, M, rfl, rfl, hM⟩⟩
    rw [hM.1.1, wlt (by omega) (by omega) (by omega) (by omega)] at z; omega
  | k + 1, y, M, hy, hM, h0, h1, h2, hW => by
    obtain ⟨hy1, hy2⟩ := hF.1
    obtain ⟨hl1, hl2⟩ := hF.2.1
    have hK := hF.K (lane := (ln (sF S)).toNat) (y := y) (by omega) (by omega)
    have e20 : (20 * ln (sF S) + (y : Int)).toNat = 20 * (ln (sF S)).toNat + y := by omega
    have e1 : ((y + 1 : Nat) : Int) = (y : Int) + 1 := by omega
    refine W10_longest_96 ⟨fun _ => ⟨fun z => ?_, fun _ => ?_⟩, fun z => ?_⟩
    · rw [wr1] at z; omega
    · rw [hM.1.2.1]
      refine T_stepOn (j := (y : Int)) (k := lk (sF S) (ln (sF S)).toNat y) (f := lf (sF S) (ln (sF S)).toNat y) (by omega) hK hb (by rw [hM.1.2.2.2.1 _ (by omega), e20]; rfl) (by rw [hM.1.2.2.2.2.1 _ (by omega), e20]; rfl) hW (by omega) (fun M2 f2 hW2 _ => ?_)
      rw [h0, h1, h2] at hW2
      have hW3 : WM M2 (sRaceN (sF S) (ln (sF S)).toNat p h pace (y + 1)) ((y : Int) + 1) := hW2
      have hM2 := hM.fr f2.q
      have stop : t < tN (sF S) p h pace (y + 1) → TA i10_longest 146 [some (vr 0), none, some (vi h), some (vi pace), some (vi t), none, some (vi (y : Int)), none, some (vi (y : Int))] [] (LM q, M2) (MP S (sLong (sF S) p h pace t (k + 1) y)) := by
        intro g
        rw [sLong_lt g]
        refine W10_longest_146 (W10_longest_147 (W10_longest_161 (W10_longest_96 ?_)))
        rw [wr0, if_pos rfl]
        have e0 : (y : Int) + 0 = (y : Int) := by omega
        rw [e0]
        exact ⟨fun _ => ⟨fun _ => W10_longest_170 ⟨q, M2, rfl, rfl, hM2⟩, fun z => absurd rfl z⟩, fun _ => W10_longest_170 ⟨q, M2, rfl, rfl, hM2⟩⟩
      have hs := hW3.2.2.2
      have ih := L_longM hF hp hb ht (q := q) k (y + 1) M2 (by omega) hM2 (by rw [f2.2 10 (by omega)]; exact h0) (by rw [f2.2 11 (by omega)]; exact h1) (by rw [f2.2 12 (by omega)]; exact h2) (by rw [e1]; exact hW3)
      rw [e1] at ih
      have etn : tvC (sRaceN (sF S) (ln (sF S)).toNat p h pace (y + 1)) = tN (sF S) p h pace (y + 1) := rfl
      revert hs etn
      cases sRaceN (sF S) (ln (sF S)).toNat p h pace (y + 1) with
      | none =>
        intro hs etn
        refine ⟨fun z => ?_, fun _ => stop ?_⟩
        · rw [show M2 0 17 = 1 from hs, wr1] at z; omega
        · rw [← etn]; show t < 10000000; omega
      | some x =>
        obtain ⟨l, t', a, b⟩ := x
        intro hs etn
        obtain ⟨s7, s16, s13, s14, s15, q1, q2, q3, q4⟩ := hs
        have etn2 : t' = tN (sF S) p h pace (y + 1) := etn
        rw [s7, s13, wlt (by omega) (by omega) (by omega) (by omega)]
        refine ⟨fun _ => ⟨fun z => stop (by omega), fun z => ?_⟩, fun z => absurd wr0 z⟩
        rw [sLong_ge (by omega)]
        refine W10_longest_147 (W10_longest_161 ?_)
        rw [wr1, if_neg (c := (1 : Int) = 0) (by omega)]
        exact ih
    · rw [hM.1.1, wlt (by omega) (by omega) (by omega) (by omega)] at z; omega
theorem SIM_longest {a h p t : Int} (ia : IR a) (ih : IR h) (ip : IR p) (it : IR t) : SIM i9_longest 7 i10_longest 9 [vi a, vi h, vi p, vi t] := by
  intro S hS
  have hF := hS.1
  have hy := hF.1
  obtain ⟨W, hW⟩ : ∃ W : Int, W = s3t (sF S) a h p t 0 9999 := ⟨_, rfl⟩
  have hWb : -6 ≤ W ∧ W ≤ 0 := by rw [hW]; exact s3t_le _ _ _ _ _ _ _
  have kC : ∀ M Post, RC S M → ((W = 0 → TV i2_takes 4 [vr 36, vr 1, vi (M 1 1)] (LC, M) (fun M1 => (wr 0 = 0 ∨ wr 0 = 1) ∧ (TA i9_longest 94 [some (vr 0), none, some (vi h), some (vi p), some (vi t), none, some (vi 0)] [] (LC, g8_starts M1 41 1 a) Post))) ∧ (W ≠ 0 → Post (some (vi (f9_refuse W))) (LC, g9_refuse M W))) → TC i9_longest 7 [vr 0, vi a, vi h, vi p, vi t] (LC, M) Post := by
    intro M Post hM hAB
    refine W9_longest_0 (W9_longest_23 (W9_longest_44 ?_))
    have e3 : f9_firstOf (f9_nobody M a) (if wr (f9_low h p) = 0 then (if wr t < 0 then (1 : Int) else 0) else 1) (if wr (f9_high h p) = 0 then (if wr 9999 < wr t then (1 : Int) else 0) else 1) = W := by
      rw [low3 ih ip, high3 ih ip, nob3 hF hM.1 ia, first_eq, it.w, wr_id (x := 9999) (by omega) (by omega), hW]; rfl
    rw [e3, wr_id (by omega) (by omega)]
    exact hAB
  have kM : ∀ q M Post, RM S M → TA i10_longest 66 [some (vr 0), some (vi a), some (vi h), some (vi p), some (vi t), some (vi W), none, none, none] [] (LM q, up M 0 8 0) Post → TC i10_longest 9 [vr 0, vi a, vi h, vi p, vi t] (LM q, M) Post := by
    intro q M Post hM k
    refine W10_longest_0 ⟨isOne_01 hF hM.1 ia, fun z => ?_, fun z => ?_⟩
    · have g : ¬ sWho (sF S) a := by
        intro g
        rw [isOne_eq hF hM.thr.1 ia, if_pos g, wr1] at z; omega
      rw [hW, s3t_1 g] at k; exact k
    · have g : sWho (sF S) a := by
        apply Classical.byContradiction
        intro c
        rw [isOne_eq hF hM.thr.1 ia, if_neg c] at z; exact z wr0
      have h4 : (h < 0 ∨ p < 1 ∨ t < 0) → TA i10_longest 36 [some (vr 0), some (vi a), some (vi h), some (vi p), some (vi t), none, none, none, none] [] (LM q, up M 0 8 0) Post := fun z => W10_longest_36 (by rw [hW, s3t_4 g z] at k; exact k)
      have h6 : ¬ (h < 0 ∨ p < 1 ∨ t < 0) → (2 < h ∨ 9 < p ∨ 9999 < t) → TA i10_longest 62 [some (vr 0), some (vi a), some (vi h), some (vi p), some (vi t), none, none, none, none] [] (LM q, up M 0 8 0) Post := fun z y => W10_longest_62 (by rw [hW, s3t_6 g z y] at k; exact k)
      rw [ih.w, ip.w, it.w, wr1, wr_id (x := 2) (by omega) (by omega), wr_id (x := 9) (by omega) (by omega), wr_id (x := 9999) (by omega) (by omega)]
      refine ⟨fun z => h4 (by omega), fun z1 => ⟨fun z => h4 (by omega), fun z2 => ⟨fun z => h4 (by omega), fun z3 => ⟨fun z => h6 (by omega) (by omega), fun z4 => ⟨fun z => h6 (by omega) (by omega), fun z5 => ⟨fun z => h6 (by omega) (by omega), fun z6 => ?_⟩⟩⟩⟩⟩⟩
      rw [hW, s3t_0 g (by omega) (by omega)] at k; exact k
  by_cases e : W = 0
  · obtain ⟨ha, hB, t0, t9⟩ := s3t_ok (hW ▸ e)
    obtain ⟨n, hn6, rfl, -⟩ := ha.n hF
    refine ⟨sLong (sF S) n h p t (yd (sF S)).toNat 0, S, hS, fun M hM => kC M _ hM ⟨fun _ => ?_, fun z => absurd e z⟩, fun q M hM => kM q M _ hM (W10_longest_66 ⟨fun z => ?_, fun _ => ⟨by rw [wr_id (by omega) (by omega)]; omega, wb0, ?_⟩⟩)⟩
    · rw [hM.1.2.1]
      refine T_takes_36 hF hF.2.1 hM.1 (fun M1 f1 hC => ⟨wb0, ?_⟩)
      have g1 : FrC M M1 := fun i hi => f1 i (by omega) (by omega) (by omega)
      obtain ⟨q1, q2, q3, q4, q5, q6⟩ := CO.start hF (hM.fr g1).1 hn6 hC
      exact L_longC hF hn6 hB ⟨t0, t9⟩ (hM.fr (g1.tr (FrC.of41 q1))) q6 (yd (sF S)).toNat 0 _ (by omega) (fun _ _ => rfl) q2 q3 q4 q5
    · rw [e, wr0] at z; omega
    · have hT := hM.thr
      obtain ⟨q1, q2, q3, q4, q5⟩ := hT.1.start hF hn6
      exact L_longM hF hn6 hB ⟨t0, t9⟩ (yd (sF S)).toNat 0 _ (by omega) (hT.fr q1.q) q2 q3 q4 q5
  · refine ⟨W, sRef S W, hS.ref _, fun M hM => kC M _ hM ⟨fun z => absurd z e, fun _ => C_ref hM (by omega)⟩, fun q M hM => kM q M _ hM (W10_longest_66 ⟨fun _ => ⟨by rw [wr_id (by omega) (by omega)]; omega, M_ref hM.thr (by omega)⟩, fun z => ?_⟩)⟩
    rw [wr_id (by omega) (by omega)] at z; omega

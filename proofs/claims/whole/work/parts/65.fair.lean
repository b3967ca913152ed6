/-! timesOfAll; fair: both sides answer alike -/
abbrev tA (S : ST) (h p : Int) (i : Nat) : RS := sRace (sF S) (ln (sF S)).toNat i h p
def AllC (S : ST) (h p : Int) (n : Nat) (M : Mem) : Prop := ∀ i, i < n → M 44 i = tvC (tA S h p i)
def AllM (S : ST) (h p : Int) (n : Nat) (M : Mem) : Prop := ∀ i, i < n → M 26 i = tvM (tA S h p i)
theorem L_all {S : ST} (hF : FOK (sF S)) {h p : Int} (hb : BOK h p) {K : Mem → Prop} (hK : ∀ M', RC S M' → AllC S h p (pn (sF S)).toNat M' → K M') : ∀ (k n : Nat) (M : Mem), n + k = (pn (sF S)).toNat → RC S M → AllC S h p n M →
    TA i9_timesOfAll 2 [some (vr 0), some (vi h), some (vi p), some (vi (n : Int))] [] (LC, M) (fun rv G' => rv = none ∧ ∃ M', G' = (LC, M') ∧ K M')
  | 0, n, M, hn, hM, hA => by
    have hp := hF.2.2.1
    have en : n = (pn (sF S)).toNat := by omega
    refine W9_timesOfAll_2 ⟨fun z => ?_, fun _ => ⟨rfl, M, rfl, hK M hM (by rw [← en]; exact hA)⟩⟩
    rw [hM.1.2.2.1, wlt (by omega) (by omega) (by omega) (by omega)] at z; omega
  | k + 1, n, M, hn, hM, hA => by
    have hp := hF.2.2.1
    have en : ((n + 1 : Nat) : Int) = (n : Int) + 1 := by omega
    refine W9_timesOfAll_2 ⟨fun _ => T_timeOf hF hM.1 (by omega) hb (fun M' hL => ?_), fun z => ?_⟩
    · rw [wt_in (by omega) (by omega) (by omega), show ((n : Int)).toNat = n by omega]
      have ih := L_all hF hb hK k (n + 1) (up M' 44 n (tvC (tA S h p n))) (by omega) ((hM.fr hL.C).fr (fun i hi => up_fr (by omega))) (fun i hi => by
        by_cases e : i = n
        · rw [e, up_eq]
        · rw [up_sl e, hL.1 44 (by omega) (by omega) (by omega) (by omega)]; exact hA i (by omega))
      rw [en] at ih
      exact ih
    · rw [hM.1.2.2.1, wr_id (by omega) (by omega), wr_id (by omega) (by omega)] at z; omega
theorem T_all {S : ST} (hF : FOK (sF S)) {h p : Int} (hb : BOK h p) {K : Mem → Prop} {M : Mem} (hM : RC S M) (hK : ∀ M', RC S M' → AllC S h p (pn (sF S)).toNat M' → K M') : TV i9_timesOfAll 4 [vr 0, vi h, vi p] (LC, M) K :=
  W9_timesOfAll_0 (L_all hF hb hK (pn (sF S)).toNat 0 M (by omega) hM (fun i hi => absurd hi (Nat.not_lt_zero _)))
/-- two times, as both sides hold them -/
theorem tv_two {r : RS} (h : TB r) : (tvM r < 9999999 ∧ 0 ≤ tvM r ∧ tvM r ≤ 9000 ∧ tvC r = tvM r) ∨ (tvM r = 9999999 ∧ tvC r = 10000000) := by
  cases r with
  | none => exact Or.inr ⟨rfl, rfl⟩
  | some z =>
    obtain ⟨x, t, y, r⟩ := z
    have h2 : 0 ≤ t ∧ t ≤ 9000 := h
    exact Or.inl ⟨by show t < 9999999; omega, h2.1, h2.2, rfl⟩
def frS (b : Int × Int) (v t u : Int) : Int × Int := if t < 9999999 ∧ u < 9999999 ∧ (if t - u < 0 then -(t - u) else t - u) < b.2 then (v, if t - u < 0 then -(t - u) else t - u) else b
theorem fr_y {b : Int × Int} {v t u : Int} (g : t < 9999999 ∧ u < 9999999 ∧ (if t - u < 0 then -(t - u) else t - u) < b.2) : frS b v t u = (v, if t - u < 0 then -(t - u) else t - u) := if_pos g
theorem fr_n {b : Int × Int} {v t u : Int} (g : ¬ (t < 9999999 ∧ u < 9999999 ∧ (if t - u < 0 then -(t - u) else t - u) < b.2)) : frS b v t u = b := if_neg g
def NB (b : Int × Int) : Prop := 0 ≤ b.2 ∧ (b.2 ≤ 9000 ∨ b.2 = 9999999)
def nC (x : Int) : Int := if x = 9999999 then 10000000 else x
theorem NB_fr {b : Int × Int} {v t u : Int} (h : NB b) (ht : 0 ≤ t ∧ (t ≤ 9000 ∨ t = 9999999)) (hu : 0 ≤ u ∧ (u ≤ 9000 ∨ u = 9999999)) : NB (frS b v t u) := by
  by_cases g : t < 9999999 ∧ u < 9999999 ∧ (if t - u < 0 then -(t - u) else t - u) < b.2
  · rw [fr_y g]
    show 0 ≤ (if t - u < 0 then -(t - u) else t - u) ∧ ((if t - u < 0 then -(t - u) else t - u) ≤ 9000 ∨ _)
    split <;> omega
  · rw [fr_n g]; exact h
def frI (T : Nat → Int) (a : Nat) : Nat → Nat → Int × Int → Int × Int
  | 0, _, s => s
  | k + 1, b, s => frI T a k (b + 1) (frS s (10 * (a : Int) + (b : Int)) (T a) (T b))
def frO (T : Nat → Int) : Nat → Nat → Int × Int → Int × Int
  | 0, _, s => s
  | k + 1, a, s => frO T k (a + 1) (frI T a k (a + 1) s)
abbrev tN' (S : ST) (h p : Int) : Nat → Int := fun i => tvM (tA S h p i)
theorem tN_b {S : ST} (hF : FOK (sF S)) {h p : Int} (hb : BOK h p) {i : Nat} (hi : i < 6) : 0 ≤ tvM (tA S h p i) ∧ (tvM (tA S h p i) ≤ 9000 ∨ tvM (tA S h p i) = 9999999) := by
  have := tv_two (r := tA S h p i) (TB_race hF (hln hF) hi hb)
  omega
theorem NB_frI {S : ST} (hF : FOK (sF S)) {h p : Int} (hb : BOK h p) {a : Nat} (ha : a < 6) : ∀ (k b : Nat) (s : Int × Int), b + k ≤ 6 → NB s → NB (frI (tN' S h p) a k b s)
  | 0, _, _, _, t => t
  | k + 1, b, s, hk, t => NB_frI hF hb ha k (b + 1) _ (by omega) (NB_fr t (tN_b hF hb ha) (tN_b hF hb (by omega)))
theorem ab_if {x : Int} (h : -100000 ≤ x ∧ x ≤ 100000) : ab x = if x < 0 then -x else x := by
  unfold ab
  rw [wr_id (by omega) (by omega)]
  split <;> split <;> omega
theorem L_frC1 {S : ST} (hF : FOK (sF S)) {h p : Int} (hb : BOK h p) {M : Mem} (hM : RC S M) (hA : AllC S h p (pn (sF S)).toNat M) {a : Nat} (ha : a < (pn (sF S)).toNat) {Post : Option AV → GM → Prop} : ∀ (k b : Nat) (s : Int × Int), b + k = (pn (sF S)).toNat → NB s →
    TA i9_fair 42 [some (vr 0), none, none, none, some (vi (frI (tN' S h p) a k b s).1), some (vi (nC (frI (tN' S h p) a k b s).2)), some (vi ((a : Int) + 1)), none, none, none] [] (LC, M) Post →
    TA i9_fair 60 [some (vr 0), none, none, none, some (vi s.1), some (vi (nC s.2)), some (vi (a : Int)), some (vi (b : Int)), none, none] [] (LC, M) Post
  | 0, b, s, hk, hs, hN => by
    have hp := hF.2.2.1
    refine W9_fair_60 ⟨fun z => ?_, fun _ => hN⟩
    rw [hM.1.2.2.1, wlt (by omega) (by omega) (by omega) (by omega)] at z; omega
  | k + 1, b, s, hk, hs, hN => by
    have hp := hF.2.2.1
    have en : ((b + 1 : Nat) : Int) = (b : Int) + 1 := by omega
    have t1 := tv_two (r := tA S h p a) (TB_race hF (hln hF) (show a < 6 by omega) hb)
    have t2 := tv_two (r := tA S h p b) (TB_race hF (hln hF) (show b < 6 by omega) hb)
    have ih := L_frC1 hF hb hM hA ha k (b + 1) _ (by omega) (NB_fr (v := 10 * (a : Int) + (b : Int)) hs (tN_b hF hb (show a < 6 by omega)) (tN_b hF hb (show b < 6 by omega))) hN
    rw [en] at ih
    have hs' := hs
    unfold NB at hs'
    obtain ⟨nv, hnv⟩ : ∃ nv, nv = nC s.2 := ⟨_, rfl⟩
    have hn2 : (s.2 = 9999999 ∧ nv = 10000000) ∨ (s.2 ≠ 9999999 ∧ nv = s.2) := by
      rw [hnv]; unfold nC
      by_cases g : s.2 = 9999999
      · rw [if_pos g]; exact Or.inl ⟨g, rfl⟩
      · rw [if_neg g]; exact Or.inr ⟨g, rfl⟩
    refine W9_fair_60 ⟨fun _ => W9_fair_105 ?_, fun z => ?_⟩
    · rw [rd_in (by omega) (by omega) (by omega), rd_in (by omega) (by omega) (by omega), show ((a : Int)).toNat = a by omega, show ((b : Int)).toNat = b by omega, hA a (by omega), hA b (by omega)]
      obtain ⟨x, hx⟩ : ∃ x, x = tvM (tA S h p a) := ⟨_, rfl⟩
      obtain ⟨y, hy⟩ : ∃ y, y = tvM (tA S h p b) := ⟨_, rfl⟩
      obtain ⟨x', hx'⟩ : ∃ x, x = tvC (tA S h p a) := ⟨_, rfl⟩
      obtain ⟨y', hy'⟩ : ∃ y, y = tvC (tA S h p b) := ⟨_, rfl⟩
      rw [← hx, ← hy] at ih
      rw [← hx, ← hx'] at t1
      rw [← hy, ← hy'] at t2
      rw [← hx', ← hy', ← hnv]
      by_cases g1 : x < 9999999
      · have e1 : x' = x := by omega
        by_cases g2 : y < 9999999
        · have e2 : y' = y := by omega
          rw [e1, e2, if_pos (c := wr x < wr 10000000) (by rw [wlt (by omega) (by omega) (by omega) (by omega)]; omega), if_pos (c := wr y < wr 10000000) (by rw [wlt (by omega) (by omega) (by omega) (by omega)]; omega), ab_if (by omega)]
          obtain ⟨d, hd⟩ : ∃ d, d = if x - y < 0 then -(x - y) else x - y := ⟨_, rfl⟩
          have hdb : 0 ≤ d ∧ d ≤ 9000 := by rw [hd]; split <;> omega
          rw [← hd]
          refine ⟨fun z => by rw [wr1] at z; omega, fun _ => ⟨fun z => ?_, fun z => ?_⟩⟩
          · rw [wlt (by omega) (by omega) (by omega) (by omega)] at z
            rw [fr_y ⟨g1, g2, by rw [← hd]; omega⟩, ← hd] at ih
            have e3 : nC d = d := if_neg (by omega)
            rw [show nC (10 * (a : Int) + (b : Int), d).2 = d from e3] at ih
            exact ih
          · rw [wlt (by omega) (by omega) (by omega) (by omega)] at z
            rw [fr_n (fun c => by rw [← hd] at c; omega), ← hnv] at ih
            exact ih
        · rw [fr_n (fun c => g2 c.2.1), ← hnv] at ih
          have e2 : y' = 10000000 := by omega
          rw [e1, e2, if_pos (c := wr x < wr 10000000) (by rw [wlt (by omega) (by omega) (by omega) (by omega)]; omega), if_neg (c := wr 10000000 < wr 10000000) (by omega)]
          exact ⟨fun _ => ih, fun z => absurd wr0 z⟩
      · rw [fr_n (fun c => g1 c.1), ← hnv] at ih
        have e1 : x' = 10000000 := by omega
        rw [e1, if_neg (c := wr 10000000 < wr 10000000) (by omega)]
        exact ⟨fun _ => ih, fun z => absurd wr0 z⟩
    · rw [hM.1.2.2.1, wr_id (by omega) (by omega), wr_id (by omega) (by omega)] at z; omega
theorem L_frC {S : ST} (hF : FOK (sF S)) {h p : Int} (hb : BOK h p) {M : Mem} (hM : RC S M) (hA : AllC S h p (pn (sF S)).toNat M) : ∀ (k a : Nat) (s : Int × Int), a + k = (pn (sF S)).toNat → NB s →
    TA i9_fair 42 [some (vr 0), none, none, none, some (vi s.1), some (vi (nC s.2)), some (vi (a : Int)), none, none, none] [] (LC, M) (CP S (frO (tN' S h p) k a s).1)
  | 0, a, s, hk, hs => by
    have hp := hF.2.2.1
    refine W9_fair_42 ⟨fun z => ?_, fun _ => ⟨M, rfl, rfl, hM⟩⟩
    rw [hM.1.2.2.1, wlt (by omega) (by omega) (by omega) (by omega)] at z; omega
  | k + 1, a, s, hk, hs => by
    have hp := hF.2.2.1
    have en : ((a + 1 : Nat) : Int) = (a : Int) + 1 := by omega
    refine W9_fair_42 ⟨fun _ => ?_, fun z => ?_⟩
    · rw [← en]
      refine L_frC1 hF hb hM hA (by omega) k (a + 1) s (by omega) hs ?_
      rw [← en]
      exact L_frC hF hb hM hA k (a + 1) _ (by omega) (NB_frI hF hb (by omega) k (a + 1) s (by omega) hs)
    · rw [hM.1.2.2.1, wr_id (by omega) (by omega), wr_id (by omega) (by omega)] at z; omega
theorem L_frA {S : ST} (hF : FOK (sF S)) {h p : Int} (hb : BOK h p) {q : Option Nat} {Post : Option AV → GM → Prop} (hK : ∀ M', RM S M' → AllM S h p (pn (sF S)).toNat M' → TA i10_fair 62 [some (vr 0), none, none, some (vi (-9)), some (vi 9999999), some (vi 0), none, none, none] [] (LM q, M') Post) : ∀ (k n : Nat) (M : Mem), n + k = (pn (sF S)).toNat → RM S M → AllM S h p n M →
    TA i10_fair 25 [some (vr 0), some (vi h), some (vi p), some (vi (n : Int)), none, none, none, none, none] [] (LM q, M) Post
  | 0, n, M, hn, hM, hA => by
    have hp := hF.2.2.1
    have en : n = (pn (sF S)).toNat := by omega
    refine W10_fair_25 ⟨fun z => ?_, fun _ => hK M hM (by rw [← en]; exact hA)⟩
    rw [hM.1.2.2.1, wlt (by omega) (by omega) (by omega) (by omega)] at z; omega
  | k + 1, n, M, hn, hM, hA => by
    have hp := hF.2.2.1
    have en : ((n + 1 : Nat) : Int) = (n : Int) + 1 := by omega
    refine W10_fair_25 ⟨fun _ => T_plainRun hF hb (by omega) hM.1 (fun M' hL => ?_), fun z => ?_⟩
    · rw [wr_id (x := (n : Int)) (by omega) (by omega), show ((n : Int)).toNat = n by omega]
      have ih := L_frA hF hb hK k (n + 1) (up M' 26 n (tvM (tA S h p n))) (by omega) ((hM.fr hL.1.q).fr ⟨fun i a b => up_fr (by omega), fun j hj => by rw [up_fr (by omega)]⟩) (fun i hi => by
        by_cases e : i = n
        · rw [e, up_eq]
        · rw [up_sl e, hL.1.1 26 (by omega) (by omega)]; exact hA i (by omega))
      rw [en] at ih
      exact ⟨by omega, ih⟩
    · rw [hM.1.2.2.1, wr_id (by omega) (by omega), wr_id (by omega) (by omega)] at z; omega
theorem plainly_eq {x : Int} (h : -10000000 ≤ x ∧ x ≤ 10000000) : f10_plainly x = if x < 0 then -x else x := by
  unfold f10_plainly
  rw [wr_id (by omega) (by omega)]
theorem L_frM1 {S : ST} (hF : FOK (sF S)) {h p : Int} (hb : BOK h p) {M : Mem} {q : Option Nat} (hM : RM S M) (hA : AllM S h p (pn (sF S)).toNat M) {a : Nat} (ha : a < (pn (sF S)).toNat) {Post : Option AV → GM → Prop} : ∀ (k b : Nat) (s : Int × Int), b + k = (pn (sF S)).toNat → NB s →
    TA i10_fair 62 [some (vr 0), none, none, some (vi (frI (tN' S h p) a k b s).1), some (vi (frI (tN' S h p) a k b s).2), some (vi ((a : Int) + 1)), none, none, none] [] (LM q, M) Post →
    TA i10_fair 77 [some (vr 0), none, none, some (vi s.1), some (vi s.2), some (vi (a : Int)), some (vi (b : Int)), none, none] [] (LM q, M) Post
  | 0, b, s, hk, hs, hN => by
    have hp := hF.2.2.1
    refine W10_fair_77 ⟨fun z => ?_, fun _ => hN⟩
    rw [hM.1.2.2.1, wlt (by omega) (by omega) (by omega) (by omega)] at z; omega
  | k + 1, b, s, hk, hs, hN => by
    have hp := hF.2.2.1
    have en : ((b + 1 : Nat) : Int) = (b : Int) + 1 := by omega
    have t1 := tN_b hF hb (show a < 6 by omega)
    have t2 := tN_b hF hb (show b < 6 by omega)
    have ih := L_frM1 (q := q) hF hb hM hA ha k (b + 1) _ (by omega) (NB_fr (v := 10 * (a : Int) + (b : Int)) hs t1 t2) hN
    rw [en] at ih
    have hs' := hs
    unfold NB at hs'
    have wa : wr (a : Int) = (a : Int) := wr_id (by omega) (by omega)
    have wb : wr (b : Int) = (b : Int) := wr_id (by omega) (by omega)
    have fin : ∀ s0 : Int, (s0 = 1 ∧ tvM (tA S h p a) < 9999999 ∧ tvM (tA S h p b) < 9999999 ∨ s0 = 0 ∧ ¬ (tvM (tA S h p a) < 9999999 ∧ tvM (tA S h p b) < 9999999)) → TA i10_fair 115 [some (vr 0), none, none, some (vi s.1), some (vi s.2), some (vi (a : Int)), some (vi (b : Int)), none, none] [vi s0] (LM q, M) Post := by
      intro s0 h0
      refine W10_fair_115 ?_
      rw [wa, wb, show ((a : Int)).toNat = a by omega, show ((b : Int)).toNat = b by omega, hA a (by omega), hA b (by omega)]
      refine ⟨by omega, by omega, W10_fair_161 (W10_fair_181 ?_)⟩
      rw [plainly_eq (by omega)]
      obtain ⟨x, hx⟩ : ∃ x, x = tvM (tA S h p a) := ⟨_, rfl⟩
      obtain ⟨y, hy⟩ : ∃ y, y = tvM (tA S h p b) := ⟨_, rfl⟩
      rw [← hx, ← hy] at ih
      rw [← hx, ← hy] at h0
      rw [← hx] at t1
      rw [← hy] at t2
      rw [← hx, ← hy]
      obtain ⟨d, hd⟩ : ∃ d, d = if x - y < 0 then -(x - y) else x - y := ⟨_, rfl⟩
      have hdb : 0 ≤ d ∧ d ≤ 10000000 := by rw [hd]; split <;> omega
      rw [← hd]
      rcases h0 with ⟨rfl, h1, h2⟩ | ⟨rfl, h1⟩
      · rw [if_neg (c := wr 1 = 0) (by rw [wr1]; omega), if_neg (c := wr 1 = 0) (by rw [wr1]; omega)]
        by_cases g : d < s.2
        · rw [if_pos (c := wr d < wr s.2) (by rw [wlt (by omega) (by omega) (by omega) (by omega)]; exact g), if_pos (c := wr d < wr s.2) (by rw [wlt (by omega) (by omega) (by omega) (by omega)]; exact g)]
          rw [fr_y ⟨h1, h2, by rw [← hd]; exact g⟩, ← hd] at ih
          exact ih
        · rw [if_neg (c := wr d < wr s.2) (by rw [wlt (by omega) (by omega) (by omega) (by omega)]; exact g), if_neg (c := wr d < wr s.2) (by rw [wlt (by omega) (by omega) (by omega) (by omega)]; exact g)]
          rw [fr_n (fun c => by rw [← hd] at c; omega)] at ih
          exact ih
      · rw [if_pos (c := wr 0 = 0) wr0, if_pos (c := wr 0 = 0) wr0]
        rw [fr_n (fun c => h1 ⟨c.1, c.2.1⟩)] at ih
        exact ih
    refine W10_fair_77 ⟨fun _ => ?_, fun z => ?_⟩
    · rw [wa, wb, show ((a : Int)).toNat = a by omega, show ((b : Int)).toNat = b by omega, hA a (by omega), hA b (by omega)]
      refine ⟨by omega, fun z => ⟨by omega, fin _ ?_⟩, fun z => fin 0 (Or.inr ⟨rfl, fun c => z ?_⟩)⟩
      · rw [wlt (by omega) (by omega) (by omega) (by omega)] at z
        by_cases g : tvM (tA S h p b) < 9999999
        · rw [if_pos (c := wr (tvM (tA S h p b)) < wr 9999999) (by rw [wlt (by omega) (by omega) (by omega) (by omega)]; exact g)]
          exact Or.inl ⟨rfl, z, g⟩
        · rw [if_neg (c := wr (tvM (tA S h p b)) < wr 9999999) (by rw [wlt (by omega) (by omega) (by omega) (by omega)]; exact g)]
          exact Or.inr ⟨rfl, fun c => g c.2⟩
      · rw [wlt (by omega) (by omega) (by omega) (by omega)]; exact c.1
    · rw [hM.1.2.2.1, wr_id (by omega) (by omega), wr_id (by omega) (by omega)] at z; omega
theorem L_frM {S : ST} (hF : FOK (sF S)) {h p : Int} (hb : BOK h p) {M : Mem} {q : Option Nat} (hM : RM S M) (hA : AllM S h p (pn (sF S)).toNat M) : ∀ (k a : Nat) (s : Int × Int), a + k = (pn (sF S)).toNat → NB s →
    TA i10_fair 62 [some (vr 0), none, none, some (vi s.1), some (vi s.2), some (vi (a : Int)), none, none, none] [] (LM q, M) (MP S (frO (tN' S h p) k a s).1)
  | 0, a, s, hk, hs => by
    have hp := hF.2.2.1
    refine W10_fair_62 ⟨fun z => ?_, fun _ => ⟨q, M, rfl, rfl, hM⟩⟩
    rw [hM.1.2.2.1, wlt (by omega) (by omega) (by omega) (by omega)] at z; omega
  | k + 1, a, s, hk, hs => by
    have hp := hF.2.2.1
    have en : ((a + 1 : Nat) : Int) = (a : Int) + 1 := by omega
    refine W10_fair_62 ⟨fun _ => ?_, fun z => ?_⟩
    · rw [← en]
      refine L_frM1 hF hb hM hA (by omega) k (a + 1) s (by omega) hs ?_
      rw [← en]
      exact L_frM hF hb hM hA k (a + 1) _ (by omega) (NB_frI hF hb (by omega) k (a + 1) s (by omega) hs)
    · rw [hM.1.2.2.1, wr_id (by omega) (by omega), wr_id (by omega) (by omega)] at z; omega
theorem SIM_fair {h p : Int} (ih : IR h) (ip : IR p) : SIM i9_fair 10 i10_fair 9 [vi h, vi p] := by
  intro S hS
  have hF := hS.1
  have c1 := sBy_le h p
  have k1 := by0_eq ih ip
  have k2 := wrongBy_eq ih ip
  have n0 : NB ((-9 : Int), (9999999 : Int)) := ⟨by decide, Or.inr rfl⟩
  by_cases e : sBy h p = 0
  · have hb := sBy_ok e
    refine ⟨(frO (tN' S h p) (pn (sF S)).toNat 0 (-9, 9999999)).1, S, hS, fun M hM => W9_fair_0 ⟨fun _ => T_all hF hb hM (fun M' hM' hA => ?_), fun z => ?_⟩, fun q M hM => W10_fair_0 ⟨fun z => ?_, fun _ => ?_⟩⟩
    · exact L_frC hF hb hM' hA (pn (sF S)).toNat 0 (-9, 9999999) (by omega) n0
    · rw [k1, e] at z; exact absurd wr0 z
    · rw [k2, e, wr0] at z; omega
    · exact L_frA hF hb (fun M' hM' hA => L_frM hF hb hM' hA (pn (sF S)).toNat 0 (-9, 9999999) (by omega) n0) (pn (sF S)).toNat 0 _ (by omega) hM.thr (fun i hi => absurd hi (Nat.not_lt_zero _))
  · refine ⟨sBy h p, sRef S (sBy h p), hS.ref _, fun M hM => W9_fair_0 ⟨fun z => ?_, fun _ => ?_⟩, fun q M hM => W10_fair_0 ⟨fun _ => ?_, fun z => ?_⟩⟩
    · rw [k1, wr_id (by omega) (by omega)] at z; exact absurd z e
    · rw [k1]; exact C_ref hM (by omega)
    · rw [k2, wr_id (x := -_) (by omega) (by omega)]; exact ⟨by omega, M_ref hM.thr (by omega)⟩
    · rw [k2, wr_id (by omega) (by omega)] at z; omega

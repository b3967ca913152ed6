/-! ladder: both sides answer alike -/
abbrev lP (n o : Nat) : Prop := o / 6 < n ∧ o % 6 < n ∧ o / 6 ≠ o % 6
abbrev aH (T : Nat → Int) (o O : Nat) : Prop := T (o % 6) < T (O % 6) ∨ (T (o % 6) = T (O % 6) ∧ o < O)
def cS (T : Nat → Int) (n O : Nat) : Nat → Nat → Int → Int
  | 0, _, s => s
  | k + 1, o, s => cS T n O k (o + 1) (if lP n o ∧ aH T o O then s + 1 else s)
theorem cS_y {T : Nat → Int} {n O k o : Nat} {s : Int} (g : lP n o ∧ aH T o O) : cS T n O (k + 1) o s = cS T n O k (o + 1) (s + 1) := by
  show cS T n O k (o + 1) (if lP n o ∧ aH T o O then s + 1 else s) = _
  rw [if_pos g]
theorem cS_n {T : Nat → Int} {n O k o : Nat} {s : Int} (g : ¬ (lP n o ∧ aH T o O)) : cS T n O (k + 1) o s = cS T n O k (o + 1) s := by
  show cS T n O k (o + 1) (if lP n o ∧ aH T o O then s + 1 else s) = _
  rw [if_neg g]
theorem cS_skip {T : Nat → Int} {n O : Nat} {s : Int} : ∀ (j k o : Nat), (∀ i, o ≤ i → i < o + j → ¬ lP n i) → cS T n O (j + k) o s = cS T n O k (o + j) s
  | 0, k, o, _ => by rw [Nat.zero_add]; rfl
  | j + 1, k, o, h => by
    rw [show j + 1 + k = (j + k) + 1 by omega, cS_n (fun c => h o (by omega) (by omega) c.1), cS_skip j k (o + 1) (fun i a b => h i (by omega) (by omega)), show o + 1 + j = o + (j + 1) by omega]
abbrev fP (T : Nat → Int) (n : Nat) (i : Int) (o : Nat) : Prop := (lP n o ∧ T (o % 6) < 9999999) ∧ cS T n o 36 0 0 = i
def fS (T : Nat → Int) (n : Nat) (i : Int) : Nat → Nat → Int
  | 0, _ => -9
  | k + 1, o => if fP T n i o then 10 * ((o / 6 : Nat) : Int) + ((o % 6 : Nat) : Int) else fS T n i k (o + 1)
theorem fS_y {T : Nat → Int} {n k o : Nat} {i : Int} (g : fP T n i o) : fS T n i (k + 1) o = 10 * ((o / 6 : Nat) : Int) + ((o % 6 : Nat) : Int) := if_pos g
theorem fS_n {T : Nat → Int} {n k o : Nat} {i : Int} (g : ¬ fP T n i o) : fS T n i (k + 1) o = fS T n i k (o + 1) := if_neg g
theorem fS_skip {T : Nat → Int} {n : Nat} {i : Int} : ∀ (j k o : Nat), (∀ i, o ≤ i → i < o + j → ¬ lP n i) → fS T n i (j + k) o = fS T n i k (o + j)
  | 0, k, o, _ => by rw [Nat.zero_add]; rfl
  | j + 1, k, o, h => by
    rw [show j + 1 + k = (j + k) + 1 by omega, fS_n (fun c => h o (by omega) (by omega) c.1.1), fS_skip j k (o + 1) (fun i a b => h i (by omega) (by omega)), show o + 1 + j = o + (j + 1) by omega]
theorem isAhead_eq {M : Mem} {a b A B : Nat} (ha : a < 6) (hb : b < 6) (hA : A < 6) (hB : B < 6) {r s : RS} (hr : TB r) (hs : TB s) (e1 : M 44 b = tvC r) (e2 : M 44 B = tvC s) : f9_isAhead M (a : Int) (b : Int) (A : Int) (B : Int) = if tvM r < tvM s ∨ (tvM r = tvM s ∧ 6 * a + b < 6 * A + B) then 1 else 0 := by
  have t1 := tv_two hr
  have t2 := tv_two hs
  unfold f9_isAhead
  rw [rd_in (by omega) (by omega) (by omega), rd_in (by omega) (by omega) (by omega), show ((b : Int)).toNat = b by omega, show ((B : Int)).toNat = B by omega, e1, e2, wr_id (x := (a : Int)) (by omega) (by omega), wr_id (x := (b : Int)) (by omega) (by omega), wr_id (x := (A : Int)) (by omega) (by omega), wr_id (x := (B : Int)) (by omega) (by omega), wr_id (x := tvC r) (by omega) (by omega), wr_id (x := tvC s) (by omega) (by omega)]
  by_cases g : tvM r < tvM s ∨ (tvM r = tvM s ∧ 6 * a + b < 6 * A + B)
  · rw [if_pos g]
    (repeat' split) <;> omega
  · rw [if_neg g]
    (repeat' split) <;> omega
theorem L_haI {S : ST} (hF : FOK (sF S)) {h p : Int} (hb : BOK h p) {M : Mem} (hM : RC S M) (hA : AllC S h p (pn (sF S)).toNat M) {A B : Nat} (hA6 : A < (pn (sF S)).toNat) (hB6 : B < (pn (sF S)).toNat) {R : Int} {Post : Option AV → GM → Prop} {a : Nat} (ha : a < (pn (sF S)).toNat)
    (hN : ∀ s, cS (tN' S h p) (pn (sF S)).toNat (6 * A + B) (36 - 6 * (a + 1)) (6 * (a + 1)) s = R → TA i9_howManyAheadOf 5 [some (vr 0), some (vi (A : Int)), some (vi (B : Int)), some (vi s), some (vi ((a : Int) + 1)), none] [] (LC, M) Post) : ∀ (k b : Nat) (s : Int), b + k = (pn (sF S)).toNat → cS (tN' S h p) (pn (sF S)).toNat (6 * A + B) (36 - (6 * a + b)) (6 * a + b) s = R →
    TA i9_howManyAheadOf 20 [some (vr 0), some (vi (A : Int)), some (vi (B : Int)), some (vi s), some (vi (a : Int)), some (vi (b : Int))] [] (LC, M) Post
  | 0, b, s, hk, hR => by
    have hp := hF.2.2.1
    refine W9_howManyAheadOf_20 ⟨fun z => ?_, fun _ => hN s ?_⟩
    · rw [hM.1.2.2.1, wlt (by omega) (by omega) (by omega) (by omega)] at z; omega
    · rw [show 36 - (6 * a + b) = (6 - b) + (36 - 6 * (a + 1)) by omega, cS_skip (6 - b) _ _ (fun i h1 h2 c => by omega), show 6 * a + b + (6 - b) = 6 * (a + 1) by omega] at hR
      exact hR
  | k + 1, b, s, hk, hR => by
    have hp := hF.2.2.1
    have en : ((b + 1 : Nat) : Int) = (b : Int) + 1 := by omega
    have ih : ∀ s', cS (tN' S h p) (pn (sF S)).toNat (6 * A + B) (36 - (6 * a + (b + 1))) (6 * a + (b + 1)) s' = R → TA i9_howManyAheadOf 20 [some (vr 0), some (vi (A : Int)), some (vi (B : Int)), some (vi s'), some (vi (a : Int)), some (vi ((b : Int) + 1))] [] (LC, M) Post := by
      intro s' h'
      have := L_haI hF hb hM hA hA6 hB6 ha hN k (b + 1) s' (by omega) h'
      rw [en] at this; exact this
    have d1 : (6 * a + b) / 6 = a := by omega
    have d2 : (6 * a + b) % 6 = b := by omega
    have d3 : (6 * A + B) % 6 = B := by omega
    rw [show 36 - (6 * a + b) = (36 - (6 * a + (b + 1))) + 1 by omega] at hR
    refine W9_howManyAheadOf_20 ⟨fun _ => ⟨fun z => ih s ?_, fun z => ?_⟩, fun z => ?_⟩
    · rw [weq (by omega) (by omega) (by omega) (by omega)] at z
      rw [cS_n (fun c => c.1.2.2 (by omega))] at hR
      exact hR
    · rw [weq (by omega) (by omega) (by omega) (by omega)] at z
      rw [isAhead_eq (by omega) (by omega) (by omega) (by omega) (r := tA S h p b) (s := tA S h p B) (TB_race hF (hln hF) (by omega) hb) (TB_race hF (hln hF) (by omega) hb) (hA b (by omega)) (hA B hB6)]
      by_cases g : tvM (tA S h p b) < tvM (tA S h p B) ∨ (tvM (tA S h p b) = tvM (tA S h p B) ∧ 6 * a + b < 6 * A + B)
      · rw [if_pos g]
        refine ⟨fun z => by rw [wr1] at z; omega, fun _ => ih (s + 1) ?_⟩
        rw [cS_y ⟨⟨by omega, by omega, by omega⟩, by unfold aH; rw [d2, d3]; exact g⟩] at hR
        exact hR
      · rw [if_neg g]
        refine ⟨fun _ => ih s ?_, fun z => absurd wr0 z⟩
        rw [cS_n (fun c => g (by have c2 := c.2; unfold aH at c2; rw [d2, d3] at c2; exact c2))] at hR
        exact hR
    · rw [hM.1.2.2.1, wr_id (by omega) (by omega), wr_id (by omega) (by omega)] at z; omega
theorem L_ha {S : ST} (hF : FOK (sF S)) {h p : Int} (hb : BOK h p) {M : Mem} (hM : RC S M) (hA : AllC S h p (pn (sF S)).toNat M) {A B : Nat} (hA6 : A < (pn (sF S)).toNat) (hB6 : B < (pn (sF S)).toNat) {R : Int} {K : Int → Mem → Prop} (hK : K R M) : ∀ (k a : Nat) (s : Int), a + k = (pn (sF S)).toNat → cS (tN' S h p) (pn (sF S)).toNat (6 * A + B) (36 - 6 * a) (6 * a) s = R →
    TA i9_howManyAheadOf 5 [some (vr 0), some (vi (A : Int)), some (vi (B : Int)), some (vi s), some (vi (a : Int)), none] [] (LC, M) (fun rv G' => ∃ r M', rv = some (vi r) ∧ G' = (LC, M') ∧ K r M')
  | 0, a, s, hk, hR => by
    have hp := hF.2.2.1
    refine W9_howManyAheadOf_5 ⟨fun z => ?_, fun _ => ⟨_, M, rfl, rfl, ?_⟩⟩
    · rw [hM.1.2.2.1, wlt (by omega) (by omega) (by omega) (by omega)] at z; omega
    · rw [show 36 - 6 * a = (36 - 6 * a) + 0 by omega, cS_skip (36 - 6 * a) 0 _ (fun i h1 h2 c => by omega)] at hR
      rw [show s = R from hR]; exact hK
  | k + 1, a, s, hk, hR => by
    have hp := hF.2.2.1
    have en : ((a + 1 : Nat) : Int) = (a : Int) + 1 := by omega
    refine W9_howManyAheadOf_5 ⟨fun _ => L_haI hF hb hM hA hA6 hB6 (by omega) (fun s' h' => ?_) (pn (sF S)).toNat 0 s (by omega) hR, fun z => ?_⟩
    · rw [← en]; exact L_ha hF hb hM hA hA6 hB6 hK k (a + 1) s' (by omega) h'
    · rw [hM.1.2.2.1, wr_id (by omega) (by omega), wr_id (by omega) (by omega)] at z; omega
theorem T_ha {S : ST} (hF : FOK (sF S)) {h p : Int} (hb : BOK h p) {M : Mem} (hM : RC S M) (hA : AllC S h p (pn (sF S)).toNat M) {A B : Nat} (hA6 : A < (pn (sF S)).toNat) (hB6 : B < (pn (sF S)).toNat) {K : Int → Mem → Prop} (hK : K (cS (tN' S h p) (pn (sF S)).toNat (6 * A + B) 36 0 0) M) : TI i9_howManyAheadOf 6 [vr 0, vi (A : Int), vi (B : Int)] (LC, M) K :=
  W9_howManyAheadOf_0 (L_ha hF hb hM hA hA6 hB6 hK (pn (sF S)).toNat 0 0 (by omega) rfl)
theorem cS_b {T : Nat → Int} {n O : Nat} : ∀ (k o : Nat) (s : Int), s ≤ cS T n O k o s ∧ cS T n O k o s ≤ s + (k : Int)
  | 0, _, s => by
    show s ≤ s ∧ s ≤ s + ((0 : Nat) : Int)
    omega
  | k + 1, o, s => by
    by_cases g : lP n o ∧ aH T o O
    · rw [cS_y g]; have := cS_b (T := T) (n := n) (O := O) k (o + 1) (s + 1); omega
    · rw [cS_n g]; have := cS_b (T := T) (n := n) (O := O) k (o + 1) s; omega
theorem L_laI {S : ST} (hF : FOK (sF S)) {h p i : Int} (ii : IR i) (hb : BOK h p) {M : Mem} (hM : RC S M) (hA : AllC S h p (pn (sF S)).toNat M) {R : Int} {a : Nat} (ha : a < (pn (sF S)).toNat)
    (hN : fS (tN' S h p) (pn (sF S)).toNat i (36 - 6 * (a + 1)) (6 * (a + 1)) = R → TA i9_ladder 49 [some (vr 0), none, none, some (vi i), none, some (vi ((a : Int) + 1)), none] [] (LC, M) (CP S R)) : ∀ (k b : Nat), b + k = (pn (sF S)).toNat → fS (tN' S h p) (pn (sF S)).toNat i (36 - (6 * a + b)) (6 * a + b) = R →
    TA i9_ladder 64 [some (vr 0), none, none, some (vi i), none, some (vi (a : Int)), some (vi (b : Int))] [] (LC, M) (CP S R)
  | 0, b, hk, hR => by
    have hp := hF.2.2.1
    refine W9_ladder_64 ⟨fun z => ?_, fun _ => hN ?_⟩
    · rw [hM.1.2.2.1, wlt (by omega) (by omega) (by omega) (by omega)] at z; omega
    · rw [show 36 - (6 * a + b) = (6 - b) + (36 - 6 * (a + 1)) by omega, fS_skip (6 - b) _ _ (fun i h1 h2 c => by omega), show 6 * a + b + (6 - b) = 6 * (a + 1) by omega] at hR
      exact hR
  | k + 1, b, hk, hR => by
    have hp := hF.2.2.1
    have en : ((b + 1 : Nat) : Int) = (b : Int) + 1 := by omega
    have ih : fS (tN' S h p) (pn (sF S)).toNat i (36 - (6 * a + (b + 1))) (6 * a + (b + 1)) = R → TA i9_ladder 64 [some (vr 0), none, none, some (vi i), none, some (vi (a : Int)), some (vi ((b : Int) + 1))] [] (LC, M) (CP S R) := by
      intro h'
      have := L_laI hF ii hb hM hA ha hN k (b + 1) (by omega) h'
      rw [en] at this; exact this
    have d1 : (6 * a + b) / 6 = a := by omega
    have d2 : (6 * a + b) % 6 = b := by omega
    have t2 := tv_two (r := tA S h p b) (TB_race hF (hln hF) (by omega) hb)
    rw [show 36 - (6 * a + b) = (36 - (6 * a + (b + 1))) + 1 by omega] at hR
    refine W9_ladder_64 ⟨fun _ => ⟨fun z => ih ?_, fun z => ?_⟩, fun z => ?_⟩
    · rw [weq (by omega) (by omega) (by omega) (by omega)] at z
      rw [fS_n (fun c => c.1.1.2.2 (by omega))] at hR
      exact hR
    · rw [weq (by omega) (by omega) (by omega) (by omega)] at z
      rw [rd_in (by omega) (by omega) (by omega), show ((b : Int)).toNat = b by omega, hA b (by omega), wlt (by omega) (by omega) (by omega) (by omega)]
      refine ⟨fun g => T_ha hF hb hM hA ha (by omega) ?_, fun g => ih ?_⟩
      · have cb := cS_b (T := tN' S h p) (n := (pn (sF S)).toNat) (O := 6 * a + b) 36 0 0
        rw [wr_id (by omega) (by omega), ii.w]
        refine ⟨fun y => ⟨M, ?_, rfl, hM⟩, fun y => ih ?_⟩
        · rw [fS_y ⟨⟨⟨by omega, by omega, by omega⟩, by rw [d2]; show tvM (tA S h p b) < 9999999; omega⟩, y⟩, d1, d2] at hR
          rw [hR]
        · rw [fS_n (fun c => y c.2)] at hR
          exact hR
      · rw [fS_n (fun c => by have c2 : tvM (tA S h p ((6 * a + b) % 6)) < 9999999 := c.1.2; rw [d2] at c2; omega)] at hR
        exact hR
    · rw [hM.1.2.2.1, wr_id (by omega) (by omega), wr_id (by omega) (by omega)] at z; omega
theorem L_la {S : ST} (hF : FOK (sF S)) {h p i : Int} (ii : IR i) (hb : BOK h p) {M : Mem} (hM : RC S M) (hA : AllC S h p (pn (sF S)).toNat M) {R : Int} : ∀ (k a : Nat), a + k = (pn (sF S)).toNat → fS (tN' S h p) (pn (sF S)).toNat i (36 - 6 * a) (6 * a) = R →
    TA i9_ladder 49 [some (vr 0), none, none, some (vi i), none, some (vi (a : Int)), none] [] (LC, M) (CP S R)
  | 0, a, hk, hR => by
    have hp := hF.2.2.1
    refine W9_ladder_49 ⟨fun z => ?_, fun _ => ⟨M, ?_, rfl, hM⟩⟩
    · rw [hM.1.2.2.1, wlt (by omega) (by omega) (by omega) (by omega)] at z; omega
    · rw [show 36 - 6 * a = (36 - 6 * a) + 0 by omega, fS_skip (36 - 6 * a) 0 _ (fun i h1 h2 c => by omega)] at hR
      rw [show (-9 : Int) = R from hR]
  | k + 1, a, hk, hR => by
    have hp := hF.2.2.1
    have en : ((a + 1 : Nat) : Int) = (a : Int) + 1 := by omega
    refine W9_ladder_49 ⟨fun _ => L_laI hF ii hb hM hA (by omega) (fun h' => ?_) (pn (sF S)).toNat 0 (by omega) hR, fun z => ?_⟩
    · rw [← en]; exact L_la hF ii hb hM hA k (a + 1) (by omega) h'
    · rw [hM.1.2.2.1, wr_id (by omega) (by omega), wr_id (by omega) (by omega)] at z; omega
theorem L_laA {S : ST} (hF : FOK (sF S)) {h p i : Int} (hb : BOK h p) {q : Option Nat} {Post : Option AV → GM → Prop} (hK : ∀ M', RM S M' → AllM S h p (pn (sF S)).toNat M' → TA i10_ladder 78 [some (vr 0), none, none, some (vi i), none, some (vi 0), none, none, none] [] (LM q, M') Post) : ∀ (k n : Nat) (M : Mem), n + k = (pn (sF S)).toNat → RM S M → AllM S h p n M →
    TA i10_ladder 45 [some (vr 0), some (vi h), some (vi p), some (vi i), none, some (vi (n : Int)), none, none, none] [] (LM q, M) Post
  | 0, n, M, hn, hM, hA => by
    have hp := hF.2.2.1
    have en : n = (pn (sF S)).toNat := by omega
    refine W10_ladder_45 ⟨fun z => ?_, fun _ => hK M hM (by rw [← en]; exact hA)⟩
    rw [hM.1.2.2.1, wlt (by omega) (by omega) (by omega) (by omega)] at z; omega
  | k + 1, n, M, hn, hM, hA => by
    have hp := hF.2.2.1
    have en : ((n + 1 : Nat) : Int) = (n : Int) + 1 := by omega
    refine W10_ladder_45 ⟨fun _ => T_plainRun hF hb (by omega) hM.1 (fun M' hL => ?_), fun z => ?_⟩
    · rw [wr_id (x := (n : Int)) (by omega) (by omega), show ((n : Int)).toNat = n by omega]
      have ih := L_laA hF hb hK k (n + 1) (up M' 26 n (tvM (tA S h p n))) (by omega) ((hM.fr hL.1.q).fr ⟨fun i a b => up_fr (by omega), fun j hj => by rw [up_fr (by omega)]⟩) (fun i hi => by
        by_cases e : i = n
        · rw [e, up_eq]
        · rw [up_sl e, hL.1.1 26 (by omega) (by omega)]; exact hA i (by omega))
      rw [en] at ih
      exact ⟨by omega, ih⟩
    · rw [hM.1.2.2.1, wr_id (by omega) (by omega), wr_id (by omega) (by omega)] at z; omega
theorem d6 {o : Nat} (h : o < 1000) : dv (o : Int) 6 = ((o / 6 : Nat) : Int) ∧ rmd (o : Int) 6 = ((o % 6 : Nat) : Int) := by
  constructor
  · rw [dv_nat (by omega) (by omega) (by omega) (by omega)]; omega
  · rw [rmd_nat (by omega) (by omega) (by omega) (by omega)]; omega
theorem lP_eq {S : ST} (hF : FOK (sF S)) {q : Option Nat} {M : Mem} (hM : RM S M) {o : Nat} (ho : o < 36) : f10_areTwo M ((o / 6 : Nat) : Int) ((o % 6 : Nat) : Int) = if lP (pn (sF S)).toNat o then 1 else 0 := by
  have hp := hF.2.2.1
  rw [areTwo_eq hF hM.1 (by unfold IR; omega) (by unfold IR; omega)]
  by_cases g : lP (pn (sF S)).toNat o
  · rw [if_pos g, if_pos]
    obtain ⟨g1, g2, g3⟩ := g
    exact ⟨by unfold sWho; omega, by unfold sWho; omega, by omega⟩
  · rw [if_neg g, if_neg]
    rintro ⟨g1, g2, g3⟩
    unfold sWho at g1 g2
    exact g ⟨by omega, by omega, by omega⟩
theorem L_laM1 {S : ST} (hF : FOK (sF S)) {h p i : Int} (ii : IR i) (hb : BOK h p) {q : Option Nat} {M : Mem} (hM : RM S M) (hA : AllM S h p (pn (sF S)).toNat M) {O : Nat} (hO : O < 36) (hO6 : O % 6 < (pn (sF S)).toNat) {R : Int} {Post : Option AV → GM → Prop}
    (hy : R = i → Post (some (vi (10 * ((O / 6 : Nat) : Int) + ((O % 6 : Nat) : Int)))) (LM q, M)) (hn : R ≠ i → TA i10_ladder 78 [some (vr 0), none, none, some (vi i), none, some (vi ((O : Int) + 1)), none, none, none] [] (LM q, M) Post) : ∀ (k o : Nat) (s : Int), o + k = 36 → 0 ≤ s ∧ s ≤ (o : Int) → cS (tN' S h p) (pn (sF S)).toNat O k o s = R →
    TA i10_ladder 123 [some (vr 0), none, none, some (vi i), none, some (vi (O : Int)), some (vi s), some (vi (o : Int)), none] [] (LM q, M) Post
  | 0, o, s, hk, hs, hR => by
    have eR : s = R := hR
    refine W10_ladder_123 ⟨fun z => ?_, fun _ => ⟨fun z => ?_, fun z => hn ?_⟩⟩
    · rw [wlt (by omega) (by omega) (by omega) (by omega)] at z; omega
    · rw [wr_id (by omega) (by omega), ii.w] at z
      rw [(d6 (show O < 1000 by omega)).1, (d6 (show O < 1000 by omega)).2]
      exact ⟨by decide, by decide, hy (by omega)⟩
    · rw [wr_id (by omega) (by omega), ii.w] at z; omega
  | k + 1, o, s, hk, hs, hR => by
    have hp := hF.2.2.1
    have en : ((o + 1 : Nat) : Int) = (o : Int) + 1 := by omega
    have ih : ∀ (v s' : Int), s' = s + v → (v = 0 ∨ v = 1) → cS (tN' S h p) (pn (sF S)).toNat O k (o + 1) s' = R → TA i10_ladder 219 [some (vr 0), none, none, some (vi i), none, some (vi (O : Int)), none, some (vi (o : Int)), none] [vi v, vi s] (LM q, M) Post := by
      intro v s' e1 e2 h'
      have := L_laM1 (q := q) hF ii hb hM hA hO hO6 hy hn k (o + 1) s' (by omega) (by omega) h'
      rw [en] at this
      refine W10_ladder_219 ?_
      rw [← e1]; exact this
    have q6 : (6 : Int) ≠ 0 := by decide
    have i1 := isOne_01 hF hM.1 (a := ((o / 6 : Nat) : Int)) (by unfold IR; omega)
    have i2 := isOne_01 hF hM.1 (a := ((o % 6 : Nat) : Int)) (by unfold IR; omega)
    refine W10_ladder_123 ?_
    rw [(d6 (show o < 1000 by omega)).1, (d6 (show o < 1000 by omega)).2, (d6 (show O < 1000 by omega)).2, lP_eq (q := q) hF hM (show o < 36 by omega)]
    refine ⟨fun _ => ⟨by decide, by decide, i1, i2, fun z => ?_, fun z => ⟨by decide, ?_⟩⟩, fun z => ?_⟩
    · have g : ¬ lP (pn (sF S)).toNat o := fun c => by rw [if_pos c, wr1] at z; omega
      refine W10_ladder_205 ?_
      rw [if_pos wr0]
      rw [cS_n (fun c => g c.1)] at hR
      exact ih 0 s (by omega) (Or.inl rfl) hR
    · have g : lP (pn (sF S)).toNat o := Classical.byContradiction (fun c => by rw [if_neg c] at z; exact z wr0)
      obtain ⟨g1, g2, g3⟩ := g
      rw [wr_id (x := ((o % 6 : Nat) : Int)) (by omega) (by omega), wr_id (x := ((O % 6 : Nat) : Int)) (by omega) (by omega), show (((o % 6 : Nat) : Int)).toNat = o % 6 by omega, show (((O % 6 : Nat) : Int)).toNat = O % 6 by omega, hA _ g2, hA _ hO6, wr_id (x := (o : Int)) (by omega) (by omega), wr_id (x := (O : Int)) (by omega) (by omega)]
      have t1 := tN_b hF hb (show o % 6 < 6 by omega)
      have t2 := tN_b hF hb (show O % 6 < 6 by omega)
      rw [wr_id (x := tvM (tA S h p (o % 6))) (by omega) (by omega), wr_id (x := tvM (tA S h p (O % 6))) (by omega) (by omega)]
      refine ⟨by omega, by decide, by omega, fun y => W10_ladder_205 ?_, fun y => ⟨by decide, by omega, by decide, by omega, W10_ladder_205 ?_⟩⟩
      · rw [if_neg (c := wr 1 = 0) (by rw [wr1]; omega)]
        rw [cS_y ⟨⟨g1, g2, g3⟩, Or.inl y⟩] at hR
        exact ih 1 (s + 1) rfl (Or.inr rfl) hR
      · by_cases y2 : tvM (tA S h p (o % 6)) = tvM (tA S h p (O % 6)) ∧ o < O
        · rw [if_pos (c := tvM (tA S h p (o % 6)) = tvM (tA S h p (O % 6))) y2.1, if_pos (c := (o : Int) < (O : Int)) (by omega), if_neg (c := wr 1 = 0) (by rw [wr1]; omega)]
          rw [cS_y ⟨⟨g1, g2, g3⟩, Or.inr y2⟩] at hR
          exact ih 1 (s + 1) rfl (Or.inr rfl) hR
        · have e0 : (if tvM (tA S h p (o % 6)) = tvM (tA S h p (O % 6)) then (if (o : Int) < (O : Int) then (1 : Int) else 0) else 0) = 0 := by
            (repeat' split) <;> omega
          rw [e0, if_pos wr0]
          rw [cS_n (fun c => c.2.elim y y2)] at hR
          exact ih 0 s (by omega) (Or.inl rfl) hR
    · rw [wlt (by omega) (by omega) (by omega) (by omega)] at z; omega
theorem L_laM {S : ST} (hF : FOK (sF S)) {h p i : Int} (ii : IR i) (hb : BOK h p) {q : Option Nat} {M : Mem} (hM : RM S M) (hA : AllM S h p (pn (sF S)).toNat M) : ∀ (k o : Nat), o + k = 36 →
    TA i10_ladder 78 [some (vr 0), none, none, some (vi i), none, some (vi (o : Int)), none, none, none] [] (LM q, M) (MP S (fS (tN' S h p) (pn (sF S)).toNat i k o))
  | 0, o, hk => by
    refine W10_ladder_78 ⟨fun z => ?_, fun _ => ⟨q, M, rfl, rfl, hM⟩⟩
    rw [wlt (by omega) (by omega) (by omega) (by omega)] at z; omega
  | k + 1, o, hk => by
    have hp := hF.2.2.1
    have en : ((o + 1 : Nat) : Int) = (o : Int) + 1 := by omega
    have i1 := isOne_01 hF hM.1 (a := ((o / 6 : Nat) : Int)) (by unfold IR; omega)
    have i2 := isOne_01 hF hM.1 (a := ((o % 6 : Nat) : Int)) (by unfold IR; omega)
    have ih := L_laM (q := q) hF ii hb hM hA k (o + 1) (by omega)
    rw [en] at ih
    refine W10_ladder_78 ?_
    rw [(d6 (show o < 1000 by omega)).1, (d6 (show o < 1000 by omega)).2, lP_eq (q := q) hF hM (show o < 36 by omega)]
    refine ⟨fun _ => ⟨by decide, by decide, i1, i2, fun z => ?_, fun z => ⟨by decide, ?_⟩⟩, fun z => ?_⟩
    · have g : ¬ lP (pn (sF S)).toNat o := fun c => by rw [if_pos c, wr1] at z; omega
      rw [fS_n (fun c => g c.1.1)]
      exact ih
    · have g : lP (pn (sF S)).toNat o := Classical.byContradiction (fun c => by rw [if_neg c] at z; exact z wr0)
      obtain ⟨g1, g2, g3⟩ := g
      have t1 := tN_b hF hb (show o % 6 < 6 by omega)
      rw [wr_id (x := ((o % 6 : Nat) : Int)) (by omega) (by omega), show (((o % 6 : Nat) : Int)).toNat = o % 6 by omega, hA _ g2, wlt (by omega) (by omega) (by omega) (by omega)]
      refine ⟨by omega, fun y => ?_, fun y => ?_⟩
      · refine L_laM1 hF ii hb hM hA (by omega) g2 (fun e => ?_) (fun e => ?_) 36 0 0 (by omega) (by omega) rfl
        · rw [fS_y ⟨⟨⟨g1, g2, g3⟩, y⟩, e⟩]; exact ⟨q, M, rfl, rfl, hM⟩
        · rw [fS_n (fun c => e c.2)]; exact ih
      · rw [fS_n (fun c => y c.1.2)]; exact ih
    · rw [wlt (by omega) (by omega) (by omega) (by omega)] at z; omega
theorem SIM_ladder {h p i : Int} (ih : IR h) (ip : IR p) (ii : IR i) : SIM i9_ladder 7 i10_ladder 9 [vi h, vi p, vi i] := by
  intro S hS
  have hF := hS.1
  obtain ⟨W, hW⟩ : ∃ W : Int, W = s3w False (h < 0 ∨ p < 1 ∨ i < 0) (2 < h ∨ 9 < p) := ⟨_, rfl⟩
  have hWb : -6 ≤ W ∧ W ≤ 0 := by rw [hW]; unfold s3w; (repeat' split) <;> omega
  have k1 : f9_firstOf 0 (if wr (f9_low h p) = 0 then (if wr i < 0 then 1 else 0) else 1) (f9_high h p) = W := by
    rw [ii.w, low3 ih ip, high_eq ih ip, hW]
    exact first_eq (a := False)
  have k2 : (if wr h < 0 then (-4) else if wr p < wr 1 then (-4) else if wr i < 0 then (-4) else f10_wrongBy h p) = W := by
    rw [ih.w, ip.w, ii.w, wr1, wrongBy_eq ih ip, hW]
    unfold s3w sBy
    rw [if_neg (c := False) (fun z => z)]
    (repeat' split) <;> omega
  by_cases e : W = 0
  · have hb : BOK h p := by
      rw [hW] at e; unfold s3w at e; unfold BOK
      rw [if_neg (c := False) (fun z => z)] at e
      (repeat' split at e) <;> omega
    refine ⟨fS (tN' S h p) (pn (sF S)).toNat i 36 0, S, hS, fun M hM => W9_ladder_0 (W9_ladder_18 ⟨fun _ => T_all hF hb hM (fun M' hM' hA => ?_), fun z => ?_⟩), fun q M hM => W10_ladder_0 (W10_ladder_28 ⟨fun z => ?_, fun _ => ?_⟩)⟩
    · exact L_la hF ii hb hM' hA (pn (sF S)).toNat 0 (by omega) rfl
    · rw [k1, e] at z; exact absurd wr0 z
    · rw [k2, e, wr0] at z; omega
    · exact L_laA hF hb (fun M' hM' hA => L_laM hF ii hb hM' hA 36 0 (by omega)) (pn (sF S)).toNat 0 _ (by omega) hM.thr (fun i hi => absurd hi (Nat.not_lt_zero _))
  · refine ⟨W, sRef S W, hS.ref _, fun M hM => W9_ladder_0 (W9_ladder_18 ⟨fun z => ?_, fun _ => ?_⟩), fun q M hM => W10_ladder_0 (W10_ladder_28 ⟨fun _ => ?_, fun z => ?_⟩)⟩
    · rw [k1, wr_id (by omega) (by omega)] at z; exact absurd z e
    · rw [k1]; exact C_ref hM (by omega)
    · rw [k2, wr_id (x := -_) (by omega) (by omega)]; exact ⟨by omega, M_ref hM.thr (by omega)⟩
    · rw [k2, wr_id (by omega) (by omega)] at z; omega

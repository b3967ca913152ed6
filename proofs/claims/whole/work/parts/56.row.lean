/-! judge, pushed, whose: both sides answer alike -/
theorem ten_eq {F : FS} (hF : FOK F) {M : Mem} (hR : RCf F M 1) {y : Nat} (hy : y < 20) {h p : Int} (hb : BOK h p) : f4_tenthsOf (f3_kindOf M 1 (M 1 1) (y : Int)) (f3_figureOf M 1 (M 1 1) (y : Int)) h p = sTen (lk F (ln F).toNat y) (lf F (ln F).toNat y) h p := by
  have hl := hF.2.1
  rw [hR.2.1, kindOf_eq hR hl (by omega), figureOf_eq hR hl (by omega), show ((y : Int)).toNat = y by omega, f4_ten (hF.K (by omega) hy) hb]
def sJ (F : FS) (R : Nat → Int) (h p : Int) : Nat → Nat → Int
  | 0, _ => -9
  | k + 1, y => if (y : Int) < yd F ∧ R y = min (sTen (lk F (ln F).toNat y) (lf F (ln F).toNat y) h p) 99 then sJ F R h p k (y + 1) else (y : Int)
theorem sJ_y {F : FS} {R : Nat → Int} {h p : Int} {k y : Nat} (g : (y : Int) < yd F ∧ R y = min (sTen (lk F (ln F).toNat y) (lf F (ln F).toNat y) h p) 99) : sJ F R h p (k + 1) y = sJ F R h p k (y + 1) := if_pos g
theorem sJ_n {F : FS} {R : Nat → Int} {h p : Int} {k y : Nat} (g : ¬ ((y : Int) < yd F ∧ R y = min (sTen (lk F (ln F).toNat y) (lf F (ln F).toNat y) h p) 99)) : sJ F R h p (k + 1) y = (y : Int) := if_neg g
theorem L_judC {S : ST} (hS : SOK S) {h p : Int} (hb : BOK h p) {M : Mem} (hM : RC S M) {K : Int → Mem → Prop} : ∀ (k y : Nat), y + k = (sR S).1 → K (sJ (sF S) (sR S).2 h p k y) M →
    TA i9_firstNotAsTold 2 [some (vr 0), some (vi h), some (vi p), some (vi (y : Int)), none] [] (LC, M) (fun rv G' => ∃ r M', rv = some (vi r) ∧ G' = (LC, M') ∧ K r M')
  | 0, y, hy, hK => by
    have h12 := hS.2.2.1.1
    refine W9_firstNotAsTold_2 ⟨fun z => ?_, fun _ => ⟨_, M, rfl, rfl, hK⟩⟩
    rw [hM.2.2.1.1, wlt (by omega) (by omega) (by omega) (by omega)] at z; omega
  | k + 1, y, hy, hK => by
    have hF := hS.1
    have h12 := hS.2.2.1.1
    have hyd := hF.1
    have hv := hS.2.2.1.2 y (by omega)
    have hl := hF.2.1
    have hten := sTen_le (hF.K (lane := (ln (sF S)).toNat) (y := y) (by omega) (by omega)) hb
    have e1 : ((y + 1 : Nat) : Int) = (y : Int) + 1 := by omega
    have er : rd M 33 12 (y : Int) = (sR S).2 y := by
      rw [rd_in (by omega) (by omega) (by omega), show ((y : Int)).toNat = y by omega]
      exact hM.2.2.1.2 y (by omega)
    refine W9_firstNotAsTold_2 ?_
    rw [er, hM.2.2.1.1, noYard_eq hF hM.1 (by unfold IR; omega), ten_eq hF hM.1 (by omega) hb, mn_eq (by omega) (by omega) (by omega) (by omega), wr_id (x := (y : Int)) (by omega) (by omega), wr_id (x := ((sR S).1 : Int)) (by omega) (by omega), wr_id (x := (sR S).2 y) (by omega) (by omega), wr_id (x := min _ 99) (by omega) (by omega)]
    refine ⟨fun _ => ⟨fun z => ⟨fun z2 => ?_, fun z2 => ?_⟩, fun z => ?_⟩, fun z => absurd (by omega) z⟩
    · have g : (y : Int) < yd (sF S) := by
        apply Classical.byContradiction
        intro c
        rw [if_neg (c := 0 ≤ (y : Int) ∧ (y : Int) < yd (sF S)) (by omega), wr1] at z; omega
      rw [sJ_y ⟨g, z2⟩] at hK
      have ih := L_judC hS hb hM (K := K) k (y + 1) (by omega) hK
      rw [e1] at ih; exact ih
    · rw [sJ_n (fun g => z2 g.2)] at hK
      exact ⟨_, M, rfl, rfl, hK⟩
    · have g : ¬ (y : Int) < yd (sF S) := by
        intro c
        rw [if_pos (c := 0 ≤ (y : Int) ∧ (y : Int) < yd (sF S)) (by omega)] at z
        exact z wr0
      rw [sJ_n (fun c => g c.1)] at hK
      exact ⟨_, M, rfl, rfl, hK⟩
theorem L_judM {S : ST} (hS : SOK S) {h p : Int} (hb : BOK h p) {q : Option Nat} {M : Mem} (hF2 : RMf (sF S) M) (hr : ∀ j, j < (sR S).1 → M 24 j = (sR S).2 j) {Post : Option AV → GM → Prop} : ∀ (k y : Nat), y + k = (sR S).1 → Post (some (vi (sJ (sF S) (sR S).2 h p k y))) (LM q, M) →
    TA i10_judge 36 [some (vr 0), some (vi h), some (vi p), some (vi ((sR S).1 : Int)), some (vi (y : Int))] [] (LM q, M) Post
  | 0, y, hy, hK => by
    have h12 := hS.2.2.1.1
    refine W10_judge_36 ⟨fun z => ?_, fun _ => hK⟩
    rw [wlt (by omega) (by omega) (by omega) (by omega)] at z; omega
  | k + 1, y, hy, hK => by
    have hF := hS.1
    have h12 := hS.2.2.1.1
    have hyd := hF.1
    have hv := hS.2.2.1.2 y (by omega)
    have hl := hF.2.1
    have hKK := hF.K (lane := (ln (sF S)).toNat) (y := y) (by omega) (by omega)
    have hten := sTen_le hKK hb
    have e1 : ((y + 1 : Nat) : Int) = (y : Int) + 1 := by omega
    have e20 : (20 * ln (sF S) + (y : Int)).toNat = 20 * (ln (sF S)).toNat + y := by omega
    have et : f10_tenthsOf M (20 * ln (sF S) + (y : Int)) h p = sTen (lk (sF S) (ln (sF S)).toNat y) (lf (sF S) (ln (sF S)).toNat y) h p := m_ten (by omega) (by rw [hF2.2.2.2.1 _ (by omega), e20]; rfl) (by rw [hF2.2.2.2.2.1 _ (by omega), e20]; rfl) hKK hb
    refine W10_judge_36 ?_
    rw [hF2.1, hF2.2.1, et, les (by omega) (by omega) (by omega) (by omega), wr_id (x := (y : Int)) (by omega) (by omega), show ((y : Int)).toNat = y by omega, hr y (by omega), wr_id (x := ((sR S).1 : Int)) (by omega) (by omega), wr_id (x := yd (sF S)) (by omega) (by omega), wr_id (x := (sR S).2 y) (by omega) (by omega), wr_id (x := min 99 _) (by omega) (by omega), wr_id (x := 20 * ln (sF S) + (y : Int)) (by omega) (by omega)]
    refine ⟨fun _ => ⟨fun z => ⟨by omega, by omega, fun z2 => ?_, fun z2 => ?_⟩, fun z => ?_⟩, fun z => absurd (by omega) z⟩
    · rw [sJ_y ⟨z, by rw [← z2]; exact Int.min_comm _ _⟩] at hK
      have ih := L_judM hS hb (q := q) hF2 hr (Post := Post) k (y + 1) (by omega) hK
      rw [e1] at ih; exact ih
    · rw [sJ_n (fun g => z2 (by rw [g.2]; exact Int.min_comm _ _))] at hK
      exact hK
    · rw [sJ_n (fun c => z c.1)] at hK
      exact hK
theorem by0_eq {h p : Int} (ih : IR h) (ip : IR p) : f9_firstOf 0 (f9_low h p) (f9_high h p) = sBy h p := by
  have := by_eq (F := (0, 0, 0, fun _ => 0, fun _ => 0, fun _ => 0, fun _ => 0, fun _ => 0)) (w := 0) (a := False) ih ip (if_neg (fun z => z)).symm
  rw [if_neg (c := False) (fun z => z)] at this
  exact this
theorem SIM_judge {h p : Int} (ih : IR h) (ip : IR p) : SIM i9_judge 5 i10_judge 5 [vi h, vi p] := by
  intro S hS
  have hF := hS.1
  have c1 := sBy_le h p
  have k1 := by0_eq ih ip
  have k2 := wrongBy_eq ih ip
  by_cases e : sBy h p = 0
  · have hb := sBy_ok e
    refine ⟨sJ (sF S) (sR S).2 h p (sR S).1 0, (sF S, sL S, (0, (sR S).2), sC S, sI S, sT S), ⟨hS.1, hS.2.1, ⟨Nat.zero_le _, fun j hj => absurd hj (Nat.not_lt_zero _)⟩, hS.2.2.2⟩, fun M hM => W9_judge_0 ⟨fun _ => W9_firstNotAsTold_0 (L_judC hS hb hM (sR S).1 0 (by omega) ⟨_, rfl, rfl, ?_⟩), fun z => ?_⟩, fun q M hM => W10_judge_0 ⟨fun z => ?_, fun _ => ?_⟩⟩
    · exact hM.rw (fun i _ a b => up_fr a) (up_sl (by omega)) ⟨up_eq, fun j hj => absurd hj (Nat.not_lt_zero _)⟩
    · rw [k1, e] at z; exact absurd wr0 z
    · rw [k2, e, wr0] at z; omega
    · rw [hM.2.2.1.1]
      refine L_judM hS hb (hM.1.fr (fun i a b => by rw [up_fr (by omega), up_fr (by omega)]) (fun j a b => by rw [up_sl (by omega), up_sl (by omega)])) (fun j hj => by rw [up_fr (by omega), up_fr (by omega)]; exact hM.2.2.1.2 j hj) (sR S).1 0 (by omega) ⟨q, _, rfl, rfl, ?_⟩
      exact hM.rw (fun i a b => by rw [up_fr (by omega), up_fr (by omega)]) (fun j hj => by rw [up_sl (by omega), up_sl (by omega)]) ⟨up_eq, fun j hj => absurd hj (Nat.not_lt_zero _)⟩
  · refine ⟨sBy h p, sRef S (sBy h p), hS.ref _, fun M hM => W9_judge_0 ⟨fun z => ?_, fun _ => ?_⟩, fun q M hM => W10_judge_0 ⟨fun _ => ?_, fun z => ?_⟩⟩
    · rw [k1, wr_id (by omega) (by omega)] at z; exact absurd z e
    · rw [k1]; exact C_ref hM (by omega)
    · rw [k2, wr_id (x := -_) (by omega) (by omega)]; exact ⟨by omega, M_ref hM.thr (by omega)⟩
    · rw [k2, wr_id (by omega) (by omega)] at z; omega
/-- the row rises, all of it yards -/
def rsF (F : FS) (R : Nat → Int) : Nat → Nat → Int
  | 0, _ => 1
  | k + 1, j => if R j < yd F ∧ (0 < j → R (j - 1) < R j) then rsF F R k (j + 1) else 0
theorem rs_y {F : FS} {R : Nat → Int} {k j : Nat} (g : R j < yd F ∧ (0 < j → R (j - 1) < R j)) : rsF F R (k + 1) j = rsF F R k (j + 1) := if_pos g
theorem rs_n {F : FS} {R : Nat → Int} {k j : Nat} (g : ¬ (R j < yd F ∧ (0 < j → R (j - 1) < R j))) : rsF F R (k + 1) j = 0 := if_neg g
theorem rs_01 {F : FS} {R : Nat → Int} : ∀ k j, rsF F R k j = 0 ∨ rsF F R k j = 1
  | 0, _ => Or.inr rfl
  | k + 1, j => by
    have := rs_01 (F := F) (R := R) k (j + 1)
    unfold rsF
    split
    · exact this
    · exact Or.inl rfl
theorem L_rsC {S : ST} (hS : SOK S) {M : Mem} (hM : RC S M) {K : Int → Mem → Prop} : ∀ (k j : Nat), j + k = (sR S).1 → K (rsF (sF S) (sR S).2 k j) M →
    TA i9_toldAreYards 2 [some (vr 0), some (vi (j : Int))] [] (LC, M) (fun rv G' => ∃ r M', rv = some (vi r) ∧ G' = (LC, M') ∧ K r M')
  | 0, j, hj, hK => by
    have h12 := hS.2.2.1.1
    refine W9_toldAreYards_2 ⟨fun z => ?_, fun _ => ⟨wb1, _, M, rfl, rfl, hK⟩⟩
    rw [hM.2.2.1.1, wlt (by omega) (by omega) (by omega) (by omega)] at z; omega
  | k + 1, j, hj, hK => by
    have hF := hS.1
    have h12 := hS.2.2.1.1
    have hyd := hF.1
    have hv := hS.2.2.1.2 j (by omega)
    have e1 : ((j + 1 : Nat) : Int) = (j : Int) + 1 := by omega
    have er : rd M 33 12 (j : Int) = (sR S).2 j := by
      rw [rd_in (by omega) (by omega) (by omega), show ((j : Int)).toNat = j by omega]
      exact hM.2.2.1.2 j (by omega)
    have go : rsF (sF S) (sR S).2 (k + 1) j = rsF (sF S) (sR S).2 k (j + 1) → TA i9_toldAreYards 2 [some (vr 0), some (vi ((j : Int) + 1))] [] (LC, M) (fun rv G' => ∃ r M', rv = some (vi r) ∧ G' = (LC, M') ∧ K r M') := by
      intro e
      rw [e] at hK
      have ih := L_rsC hS hM (K := K) k (j + 1) (by omega) hK
      rw [e1] at ih; exact ih
    refine W9_toldAreYards_2 ?_
    rw [er, hM.2.2.1.1, noYard_eq hF hM.1 (by unfold IR; omega), wr_id (x := (j : Int)) (by omega) (by omega), wr_id (x := ((sR S).1 : Int)) (by omega) (by omega), wr_id (x := (sR S).2 j) (by omega) (by omega)]
    refine ⟨fun _ => ⟨fun z => ?_, fun z => ?_⟩, fun z => absurd (by omega) z⟩
    · have g : (sR S).2 j < yd (sF S) := by
        apply Classical.byContradiction
        intro c
        rw [if_neg (c := 0 ≤ (sR S).2 j ∧ (sR S).2 j < yd (sF S)) (by omega), wr1] at z; omega
      refine ⟨fun z1 => ?_, fun z1 => go (rs_y ⟨g, fun c => absurd (by omega) z1⟩)⟩
      have hv1 := hS.2.2.1.2 (j - 1) (by omega)
      have er1 : rd M 33 12 ((j : Int) - 1) = (sR S).2 (j - 1) := by
        rw [rd_in (by omega) (by omega) (by omega), show ((j : Int) - 1).toNat = j - 1 by omega]
        exact hM.2.2.1.2 _ (by omega)
      rw [er1, wr_id (x := (sR S).2 (j - 1)) (by omega) (by omega)]
      refine ⟨fun z2 => go (rs_y ⟨g, fun _ => z2⟩), fun z2 => ⟨wb0, _, M, rfl, rfl, ?_⟩⟩
      rw [rs_n (fun c => z2 (c.2 (by omega)))] at hK; exact hK
    · have g : ¬ (sR S).2 j < yd (sF S) := by
        intro c
        rw [if_pos (c := 0 ≤ (sR S).2 j ∧ (sR S).2 j < yd (sF S)) (by omega)] at z
        exact z wr0
      rw [rs_n (fun c => g c.1)] at hK
      exact ⟨wb0, _, M, rfl, rfl, hK⟩
theorem L_rsM {S : ST} (hS : SOK S) {q : Option Nat} {M : Mem} (hM : RM S M) {K : Int → Mem → Prop} : ∀ (k j : Nat) (b : Int), j + k = (sR S).1 → (b = 0 ∨ b = 1) → K (if b = 1 then rsF (sF S) (sR S).2 k j else 0) M →
    TA i10_isRising 4 [some (vr 0), some (vi b), some (vi (j : Int))] [] (LM q, M) (fun rv G' => ∃ r M', rv = some (vi r) ∧ G' = (LM q, M') ∧ K r M')
  | 0, j, b, hj, hb, hK => by
    have h12 := hS.2.2.1.1
    refine W10_isRising_4 ⟨fun z => ?_, fun _ => ⟨by rw [wr_id (by omega) (by omega)]; exact hb, b, M, rfl, rfl, ?_⟩⟩
    · rw [hM.2.2.1.1, wlt (by omega) (by omega) (by omega) (by omega)] at z; omega
    · rcases hb with rfl | rfl
      · rw [if_neg (by omega)] at hK; exact hK
      · rw [if_pos rfl] at hK; exact hK
  | k + 1, j, b, hj, hb, hK => by
    have hF := hS.1
    have h12 := hS.2.2.1.1
    have hyd := hF.1
    have hv := hS.2.2.1.2 j (by omega)
    have e1 : ((j + 1 : Nat) : Int) = (j : Int) + 1 := by omega
    have er : M 24 j = (sR S).2 j := hM.2.2.1.2 j (by omega)
    have go : ∀ b' : Int, (b' = 0 ∨ b' = 1) → K (if b' = 1 then rsF (sF S) (sR S).2 k (j + 1) else 0) M → TA i10_isRising 55 [some (vr 0), none, some (vi (j : Int))] [vi b'] (LM q, M) (fun rv G' => ∃ r M', rv = some (vi r) ∧ G' = (LM q, M') ∧ K r M') := by
      intro b' hb' hK'
      have ih := L_rsM hS (q := q) hM (K := K) k (j + 1) b' (by omega) hb' hK'
      rw [e1] at ih
      exact W10_isRising_55 ih
    have zero : K 0 M → TA i10_isRising 55 [some (vr 0), none, some (vi (j : Int))] [vi 0] (LM q, M) (fun rv G' => ∃ r M', rv = some (vi r) ∧ G' = (LM q, M') ∧ K r M') := fun h => go 0 (Or.inl rfl) (by rw [if_neg (by omega)]; exact h)
    have one : K (rsF (sF S) (sR S).2 k (j + 1)) M → TA i10_isRising 55 [some (vr 0), none, some (vi (j : Int))] [vi 1] (LM q, M) (fun rv G' => ∃ r M', rv = some (vi r) ∧ G' = (LM q, M') ∧ K r M') := fun h => go 1 (Or.inr rfl) (by rw [if_pos rfl]; exact h)
    refine W10_isRising_4 ?_
    rw [hM.1.1, hM.2.2.1.1, wr_id (x := (j : Int)) (by omega) (by omega), show ((j : Int)).toNat = j by omega, er, wr_id (x := ((sR S).1 : Int)) (by omega) (by omega), wr_id (x := (sR S).2 j) (by omega) (by omega), wr_id (x := yd (sF S)) (by omega) (by omega), wr_id (x := b) (by omega) (by omega)]
    refine ⟨fun _ => ⟨fun z => ?_, fun z => ⟨by omega, fun z1 => ⟨fun z2 => ?_, fun z2 => ⟨by omega, ?_, ?_⟩⟩, fun z1 => ?_⟩⟩, fun z => absurd (by omega) z⟩
    · rw [if_neg (by omega)] at hK; exact zero hK
    · rw [if_pos (by omega), rs_y ⟨z1, fun c => by omega⟩] at hK
      exact one hK
    · rw [wr_id (x := (j : Int) - 1) (by omega) (by omega)]; omega
    · have hv1 := hS.2.2.1.2 (j - 1) (by omega)
      have er1 : M 24 (j - 1) = (sR S).2 (j - 1) := hM.2.2.1.2 _ (by omega)
      rw [wr_id (x := (j : Int) - 1) (by omega) (by omega), show ((j : Int) - 1).toNat = j - 1 by omega, er1, wr_id (x := (sR S).2 (j - 1)) (by omega) (by omega)]
      by_cases g : (sR S).2 (j - 1) < (sR S).2 j
      · rw [if_pos (by omega), rs_y ⟨z1, fun _ => g⟩] at hK
        rw [if_pos g]; exact one hK
      · rw [if_pos (by omega), rs_n (fun c => g (c.2 (by omega)))] at hK
        rw [if_neg g]; exact zero hK
    · rw [if_pos (by omega), rs_n (fun c => z1 c.1)] at hK
      exact zero hK
/-- whether just the yards of the row have noses -/
def tlF (R : Nat × (Nat → Int)) (y nx : Nat) : Prop := nx < R.1 ∧ R.2 nx = (y : Int)
def nsF (F : FS) (R : Nat × (Nat → Int)) (hands pace : Int) : Nat → Nat → Nat → Int
  | 0, _, _ => 1
  | k + 1, y, nx => if nx < R.1 ∧ R.2 nx = (y : Int) then (if sLim (lk F (ln F).toNat y) hands < pace then nsF F R hands pace k (y + 1) (nx + 1) else 0) else (if sLim (lk F (ln F).toNat y) hands < pace then 0 else nsF F R hands pace k (y + 1) nx)
theorem ns_01 {F : FS} {R : Nat × (Nat → Int)} {hands pace : Int} : ∀ k y nx, nsF F R hands pace k y nx = 0 ∨ nsF F R hands pace k y nx = 1
  | 0, _, _ => Or.inr rfl
  | k + 1, y, nx => by
    have h1 := ns_01 (F := F) (R := R) (hands := hands) (pace := pace) k (y + 1) (nx + 1)
    have h2 := ns_01 (F := F) (R := R) (hands := hands) (pace := pace) k (y + 1) nx
    unfold nsF
    split
    · split
      · exact h1
      · exact Or.inl rfl
    · split
      · exact Or.inl rfl
      · exact h2
theorem L_nsC {S : ST} (hS : SOK S) {hands pace : Int} (hh : 0 ≤ hands ∧ hands ≤ 9) (hp : 1 ≤ pace ∧ pace ≤ 9) {M : Mem} (hM : RC S M) {K : Int → Mem → Prop} : ∀ (k y nx : Nat), y + k = (yd (sF S)).toNat → nx ≤ (sR S).1 → K (nsF (sF S) (sR S) hands pace k y nx) M →
    TA i9_nosesAreAsTold 5 [some (vr 0), some (vi hands), some (vi pace), some (vi (nx : Int)), some (vi (y : Int)), none, none] [] (LC, M) (fun rv G' => ∃ r M', rv = some (vi r) ∧ G' = (LC, M') ∧ K r M')
  | 0, y, nx, hy, hn, hK => by
    have hyd := hS.1.1
    refine W9_nosesAreAsTold_5 ⟨fun z => ?_, fun _ => ⟨wb1, _, M, rfl, rfl, hK⟩⟩
    rw [hM.1.1, wlt (by omega) (by omega) (by omega) (by omega)] at z; omega
  | k + 1, y, nx, hy, hn, hK => by
    have hF := hS.1
    have h12 := hS.2.2.1.1
    have hyd := hF.1
    have hl := hF.2.1
    have hKK := hF.K (lane := (ln (sF S)).toNat) (y := y) (by omega) (by omega)
    have hLm := sLim_le (k := lk (sF S) (ln (sF S)).toNat y) hh.1 hh.2
    have e1 : ((y + 1 : Nat) : Int) = (y : Int) + 1 := by omega
    have eT : (if wr (nx : Int) < wr (M 0 7) then (if wr (rd M 33 12 (nx : Int)) = wr (y : Int) then (1 : Int) else 0) else 0) = if nx < (sR S).1 ∧ (sR S).2 nx = (y : Int) then 1 else 0 := by
      rw [hM.2.2.1.1, wr_id (x := (nx : Int)) (by omega) (by omega), wr_id (x := ((sR S).1 : Int)) (by omega) (by omega)]
      by_cases g : nx < (sR S).1
      · have hv := hS.2.2.1.2 nx g
        have er : rd M 33 12 (nx : Int) = (sR S).2 nx := by
          rw [rd_in (by omega) (by omega) (by omega), show ((nx : Int)).toNat = nx by omega]
          exact hM.2.2.1.2 nx g
        rw [if_pos (by omega), er, wr_id (x := (sR S).2 nx) (by omega) (by omega), wr_id (x := (y : Int)) (by omega) (by omega)]
        by_cases g2 : (sR S).2 nx = (y : Int)
        · rw [if_pos g2, if_pos ⟨g, g2⟩]
        · rw [if_neg g2, if_neg (fun c => g2 c.2)]
      · rw [if_neg (by omega), if_neg (fun c => g c.1)]
    have eN : (if wr (f4_limitOn (f3_kindOf M 1 (M 1 1) (y : Int)) hands) < wr pace then (1 : Int) else 0) = if sLim (lk (sF S) (ln (sF S)).toNat y) hands < pace then 1 else 0 := by
      rw [hM.1.2.1, kindOf_eq hM.1 hl (by omega), show ((y : Int)).toNat = y by omega, f4_lim hKK.1.1 hKK.1.2 hh.1 hh.2, wr_id (x := sLim _ hands) (by omega) (by omega), wr_id (x := pace) (by omega) (by omega)]
    have go : ∀ (nx' : Nat) (x : Int), nx' ≤ (sR S).1 → (nx : Int) + x = (nx' : Int) → K (nsF (sF S) (sR S) hands pace k (y + 1) nx') M → TA i9_nosesAreAsTold 96 [some (vr 0), some (vi hands), some (vi pace), none, some (vi (y : Int)), none, none] [vi x, vi (nx : Int)] (LC, M) (fun rv G' => ∃ r M', rv = some (vi r) ∧ G' = (LC, M') ∧ K r M') := by
      intro nx' x hn' hx hK'
      have ih := L_nsC hS hh hp hM (K := K) k (y + 1) nx' (by omega) hn' hK'
      rw [e1, ← hx] at ih
      exact W9_nosesAreAsTold_96 ih
    refine W9_nosesAreAsTold_5 ⟨fun _ => W9_nosesAreAsTold_43 (W9_nosesAreAsTold_74 ?_), fun z => ?_⟩
    · rw [eT, eN]
      unfold nsF at hK
      by_cases g : nx < (sR S).1 ∧ (sR S).2 nx = (y : Int)
      · rw [if_pos g] at hK ⊢
        by_cases g2 : sLim (lk (sF S) (ln (sF S)).toNat y) hands < pace
        · rw [if_pos g2] at hK ⊢
          refine ⟨fun _ => ?_, fun z => absurd rfl z⟩
          rw [wr1, if_neg (c := (1 : Int) = 0) (by omega)]
          exact go (nx + 1) 1 (by omega) (by omega) hK
        · rw [if_neg g2] at hK ⊢
          refine ⟨fun z => ?_, fun _ => ⟨wb0, _, M, rfl, rfl, hK⟩⟩
          rw [wr0, wr1] at z; omega
      · rw [if_neg g] at hK ⊢
        by_cases g2 : sLim (lk (sF S) (ln (sF S)).toNat y) hands < pace
        · rw [if_pos g2] at hK ⊢
          refine ⟨fun z => ?_, fun _ => ⟨wb0, _, M, rfl, rfl, hK⟩⟩
          rw [wr0, wr1] at z; omega
        · rw [if_neg g2] at hK ⊢
          refine ⟨fun _ => ?_, fun z => absurd rfl z⟩
          rw [wr0, if_pos rfl]
          exact go nx 0 hn (by omega) hK
    · rw [hM.1.1, wlt (by omega) (by omega) (by omega) (by omega)] at z; omega
theorem L_nsM {S : ST} (hS : SOK S) {hands pace : Int} (hh : 0 ≤ hands ∧ hands ≤ 9) (hp : 1 ≤ pace ∧ pace ≤ 9) {q : Option Nat} {M : Mem} (hM : RM S M) {K : Int → Mem → Prop} : ∀ (k y nx : Nat) (b : Int), y + k = (yd (sF S)).toNat → nx ≤ (sR S).1 → (b = 0 ∨ b = 1) → K (if b = 1 then nsF (sF S) (sR S) hands pace k y nx else 0) M →
    TA i10_isNosed 8 [some (vr 0), some (vi hands), some (vi pace), some (vi (nx : Int)), some (vi b), some (vi (y : Int)), none] [] (LM q, M) (fun rv G' => ∃ r M', rv = some (vi r) ∧ G' = (LM q, M') ∧ K r M')
  | 0, y, nx, b, hy, hn, hb, hK => by
    have hyd := hS.1.1
    refine W10_isNosed_8 ⟨fun z => ?_, fun _ => ⟨by rw [wr_id (by omega) (by omega)]; exact hb, b, M, rfl, rfl, ?_⟩⟩
    · rw [hM.1.1, wlt (by omega) (by omega) (by omega) (by omega)] at z; omega
    · rcases hb with rfl | rfl
      · rw [if_neg (by omega)] at hK; exact hK
      · rw [if_pos rfl] at hK; exact hK
  | k + 1, y, nx, b, hy, hn, hb, hK => by
    have hF := hS.1
    have h12 := hS.2.2.1.1
    have hyd := hF.1
    have hl := hF.2.1
    have hKK := hF.K (lane := (ln (sF S)).toNat) (y := y) (by omega) (by omega)
    have hLm := sLim_le (k := lk (sF S) (ln (sF S)).toNat y) hh.1 hh.2
    have e1 : ((y + 1 : Nat) : Int) = (y : Int) + 1 := by omega
    have e20 : (20 * ln (sF S) + (y : Int)).toNat = 20 * (ln (sF S)).toNat + y := by omega
    have eL : f10_limitBy M (20 * ln (sF S) + (y : Int)) hands = sLim (lk (sF S) (ln (sF S)).toNat y) hands := m_limB (by omega) (by rw [hM.1.2.2.2.1 _ (by omega), e20]; rfl) hKK.1 hh.1 hh.2
    -- the end of the yard's step
    have go : ∀ (t : Int) (nx' : Nat) (b' : Int), (t = 0 ∨ t = 1) → nx' ≤ (sR S).1 → (nx : Int) + t = (nx' : Int) → (b' = 0 ∨ b' = 1) → K (if b' = 1 then nsF (sF S) (sR S) hands pace k (y + 1) nx' else 0) M → TA i10_isNosed 82 [some (vr 0), some (vi hands), some (vi pace), some (vi (nx : Int)), none, some (vi (y : Int)), some (vi t)] [vi b'] (LM q, M) (fun rv G' => ∃ r M', rv = some (vi r) ∧ G' = (LM q, M') ∧ K r M') := by
      intro t nx' b' ht hn' hx hb' hK'
      have ih := L_nsM hS hh hp (q := q) hM (K := K) k (y + 1) nx' b' (by omega) hn' hb' hK'
      refine W10_isNosed_82 (W10_isNosed_95 ?_)
      have et : (if wr t = 0 then (0 : Int) else 1) = t := by
        rcases ht with rfl | rfl
        · rw [wr0, if_pos rfl]
        · rw [wr1, if_neg (by omega)]
      rw [et, hx]
      rw [e1] at ih; exact ih
    have mid : ∀ t : Int, (nx < (sR S).1 ∧ (sR S).2 nx = (y : Int) ∧ t = 1 ∨ ¬ (nx < (sR S).1 ∧ (sR S).2 nx = (y : Int)) ∧ t = 0) → TA i10_isNosed 41 [some (vr 0), some (vi hands), some (vi pace), some (vi (nx : Int)), some (vi b), some (vi (y : Int)), none] [vi t] (LM q, M) (fun rv G' => ∃ r M', rv = some (vi r) ∧ G' = (LM q, M') ∧ K r M') := by
      intro t ht
      have hnx : (nx : Int) + t = ((nx + t.toNat : Nat) : Int) := by omega
      have hnb : nx + t.toNat ≤ (sR S).1 := by omega
      refine W10_isNosed_41 ⟨fun z => ?_, fun z => ⟨?_, W10_isNosed_74 ?_⟩⟩
      · rw [wr_id (by omega) (by omega)] at z
        rw [if_neg (by omega)] at hK
        exact go t _ 0 (by omega) hnb hnx (Or.inl rfl) (by rw [if_neg (by omega)]; exact hK)
      · rw [hM.1.2.1, wr_id (by omega) (by omega)]; omega
      · rw [wr_id (by omega) (by omega)] at z
        rw [if_pos (by omega)] at hK
        rw [hM.1.2.1, eL, wr_id (x := sLim _ hands) (by omega) (by omega), wr_id (x := pace) (by omega) (by omega)]
        unfold nsF at hK
        rcases ht with ⟨g, g1, rfl⟩ | ⟨g, rfl⟩
        · rw [if_pos ⟨g, g1⟩] at hK
          by_cases g2 : sLim (lk (sF S) (ln (sF S)).toNat y) hands < pace
          · rw [if_pos g2] at hK ⊢
            rw [if_pos (c := wr 1 = wr 1) rfl]
            exact go 1 (nx + 1) 1 (Or.inr rfl) (by omega) (by omega) (Or.inr rfl) (by rw [if_pos rfl]; exact hK)
          · rw [if_neg g2] at hK ⊢
            rw [if_neg (c := wr 1 = wr 0) (by rw [wr0, wr1]; omega)]
            exact go 1 (nx + 1) 0 (Or.inr rfl) (by omega) (by omega) (Or.inl rfl) (by rw [if_neg (by omega)]; exact hK)
        · rw [if_neg g] at hK
          by_cases g2 : sLim (lk (sF S) (ln (sF S)).toNat y) hands < pace
          · rw [if_pos g2] at hK ⊢
            rw [if_neg (c := wr 0 = wr 1) (by rw [wr0, wr1]; omega)]
            exact go 0 nx 0 (Or.inl rfl) hn (by omega) (Or.inl rfl) (by rw [if_neg (by omega)]; exact hK)
          · rw [if_neg g2] at hK ⊢
            rw [if_pos (c := wr 0 = wr 0) rfl]
            exact go 0 nx 1 (Or.inl rfl) hn (by omega) (Or.inr rfl) (by rw [if_pos rfl]; exact hK)
    refine W10_isNosed_8 ⟨fun _ => ⟨fun z => ?_, fun z => mid 0 (Or.inr ⟨fun c => ?_, rfl⟩)⟩, fun z => ?_⟩
    · rw [hM.2.2.1.1, wlt (by omega) (by omega) (by omega) (by omega)] at z
      have hv := hS.2.2.1.2 nx (by omega)
      rw [wr_id (x := (nx : Int)) (by omega) (by omega), show ((nx : Int)).toNat = nx by omega, hM.2.2.1.2 nx (by omega), wr_id (x := (sR S).2 nx) (by omega) (by omega), wr_id (x := (y : Int)) (by omega) (by omega)]
      refine ⟨by omega, mid _ ?_⟩
      by_cases g2 : (sR S).2 nx = (y : Int)
      · rw [if_pos g2]; exact Or.inl ⟨by omega, g2, rfl⟩
      · rw [if_neg g2]; exact Or.inr ⟨fun c => g2 c.2, rfl⟩
    · rw [hM.2.2.1.1, wlt (by omega) (by omega) (by omega) (by omega)] at z; omega
    · rw [hM.1.1, wlt (by omega) (by omega) (by omega) (by omega)] at z; omega
theorem T_nsC {S : ST} (hS : SOK S) {hands pace : Int} (hh : 0 ≤ hands ∧ hands ≤ 9) (hp : 1 ≤ pace ∧ pace ≤ 9) {M : Mem} (hM : RC S M) {K : Int → Mem → Prop} (hK : K (nsF (sF S) (sR S) hands pace (yd (sF S)).toNat 0 0) M) : TI i9_nosesAreAsTold 7 [vr 0, vi hands, vi pace] (LC, M) K := W9_nosesAreAsTold_0 (L_nsC hS hh hp hM (yd (sF S)).toNat 0 0 (by omega) (Nat.zero_le _) hK)
theorem T_nsM {S : ST} (hS : SOK S) {hands pace : Int} (hh : 0 ≤ hands ∧ hands ≤ 9) (hp : 1 ≤ pace ∧ pace ≤ 9) {q : Option Nat} {M : Mem} (hM : RM S M) {K : Int → Mem → Prop} (hK : K (nsF (sF S) (sR S) hands pace (yd (sF S)).toNat 0 0) M) : TI i10_isNosed 7 [vr 0, vi hands, vi pace] (LM q, M) K := W10_isNosed_0 (L_nsM hS hh hp hM (yd (sF S)).toNat 0 0 1 (by omega) (Nat.zero_le _) (Or.inr rfl) (by rw [if_pos rfl]; exact hK))
theorem ior0 {x : Int} (h : IR x) : ior_ x 0 = x := by
  unfold ior_
  rw [show Int32.ofInt 0 = 0 from rfl, Int32.or_zero]
  exact wr_id h.1 h.2
/-- the bits of those of whom f says 1 -/
def bitF (f : Nat → Int) : Nat → Int
  | 0 => 0
  | n + 1 => if f n = 0 then bitF f n else ior_ (bitF f n) (shl 1 ((n : Int) + 1))
theorem bitF_IR {f : Nat → Int} : ∀ n, IR (bitF f n)
  | 0 => by unfold bitF IR; omega
  | n + 1 => by
    have ih := bitF_IR (f := f) n
    unfold bitF
    split
    · exact ih
    · unfold IR ior_
      exact ⟨Int32.le_toInt _, Int32.toInt_lt _⟩
abbrev fPu (S : ST) (n : Nat) : Nat → Int := fun k => nsF (sF S) (sR S) (hd (sF S) n) ((k : Int) + 1) (yd (sF S)).toNat 0 0
abbrev fWh (S : ST) (p : Int) : Nat → Int := fun k => nsF (sF S) (sR S) ((k : Int) + 1) p (yd (sF S)).toNat 0 0
theorem L_puC {S : ST} (hS : SOK S) {n : Nat} (hn : n < 6) {M : Mem} (hM : RC S M) : ∀ (k j : Nat), j + k = 9 →
    TA i9_pushed 41 [some (vr 0), some (vi (n : Int)), none, some (vi (bitF (fPu S n) j)), some (vi ((j : Int) + 1))] [] (LC, M) (CP S (bitF (fPu S n) 9))
  | 0, j, hj => by
    have e : j = 9 := by omega
    subst e
    exact W9_pushed_41 ⟨fun _ => ⟨M, rfl, rfl, hM⟩, fun z => absurd (by decide) z⟩
  | k + 1, j, hj => by
    have hP := hS.1.P hn
    have e1 : ((j + 1 : Nat) : Int) + 1 = (j : Int) + 1 + 1 := by omega
    have h01 := ns_01 (F := sF S) (R := sR S) (hands := hd (sF S) n) (pace := (j : Int) + 1) (yd (sF S)).toNat 0 0
    have ih := L_puC hS hn hM k (j + 1) (by omega)
    have es : bitF (fPu S n) (j + 1) = if fPu S n j = 0 then bitF (fPu S n) j else ior_ (bitF (fPu S n) j) (shl 1 ((j : Int) + 1)) := rfl
    rw [e1] at ih
    refine W9_pushed_41 ⟨fun z => ?_, fun _ => ?_⟩
    · rw [wlt (by omega) (by omega) (by omega) (by omega)] at z; omega
    · rw [(ofP_eq hM.1 hn).2.2]
      refine T_nsC hS hP.2.2 (by omega) hM ⟨fun z => ?_, fun z => ?_⟩
      · rw [wr_id (by omega) (by omega)] at z
        rw [if_pos (show fPu S n j = 0 from z)] at es
        rw [es] at ih; exact ih
      · rw [wr_id (by omega) (by omega)] at z
        rw [if_neg (show ¬ fPu S n j = 0 from z)] at es
        rw [es] at ih; exact ih
theorem L_puM {S : ST} (hS : SOK S) {n : Nat} (hn : n < 6) {q : Option Nat} {M : Mem} (hM : RM S M) : ∀ (k j : Nat), j + k = 9 →
    TA i10_pushed 46 [some (vr 0), some (vi (n : Int)), none, some (vi (bitF (fPu S n) j)), some (vi ((j : Int) + 1))] [] (LM q, M) (MP S (bitF (fPu S n) 9))
  | 0, j, hj => by
    have e : j = 9 := by omega
    subst e
    exact W10_pushed_46 ⟨fun _ => ⟨q, M, rfl, rfl, hM⟩, fun z => absurd (by decide) z⟩
  | k + 1, j, hj => by
    have hP := hS.1.P hn
    have e1 : ((j + 1 : Nat) : Int) + 1 = (j : Int) + 1 + 1 := by omega
    have h01 := ns_01 (F := sF S) (R := sR S) (hands := hd (sF S) n) (pace := (j : Int) + 1) (yd (sF S)).toNat 0 0
    have ih := L_puM hS hn (q := q) hM k (j + 1) (by omega)
    have es : bitF (fPu S n) (j + 1) = if fPu S n j = 0 then bitF (fPu S n) j else ior_ (bitF (fPu S n) j) (shl 1 ((j : Int) + 1)) := rfl
    rw [e1] at ih
    refine W10_pushed_46 ⟨fun z => ?_, fun _ => ?_⟩
    · rw [wlt (by omega) (by omega) (by omega) (by omega)] at z; omega
    · rw [wr_id (x := (n : Int)) (by omega) (by omega), show ((n : Int)).toNat = n by omega, (hM.1.2.2.2.2.2 n hn).2.2]
      refine ⟨by omega, T_nsM hS hP.2.2 (by omega) hM ⟨fun z => ?_, fun z => ?_⟩⟩
      · rw [wr_id (by omega) (by omega)] at z
        rw [if_pos (show fPu S n j = 0 from z)] at es
        rw [ior0 (bitF_IR j)]
        rw [es] at ih; exact ih
      · rw [wr_id (by omega) (by omega)] at z
        rw [if_neg (show ¬ fPu S n j = 0 from z)] at es
        rw [es] at ih; exact ih
theorem L_whC {S : ST} (hS : SOK S) {p : Int} (hp : 1 ≤ p ∧ p ≤ 9) {M : Mem} (hM : RC S M) : ∀ (k j : Nat), j + k = 9 →
    TA i9_whose 44 [some (vr 0), some (vi p), none, some (vi (bitF (fWh S p) j)), some (vi ((j : Int) + 1))] [] (LC, M) (CP S (bitF (fWh S p) 9))
  | 0, j, hj => by
    have e : j = 9 := by omega
    subst e
    exact W9_whose_44 ⟨fun _ => ⟨M, rfl, rfl, hM⟩, fun z => absurd (by decide) z⟩
  | k + 1, j, hj => by
    have e1 : ((j + 1 : Nat) : Int) + 1 = (j : Int) + 1 + 1 := by omega
    have h01 := ns_01 (F := sF S) (R := sR S) (hands := (j : Int) + 1) (pace := p) (yd (sF S)).toNat 0 0
    have ih := L_whC hS hp hM k (j + 1) (by omega)
    have es : bitF (fWh S p) (j + 1) = if fWh S p j = 0 then bitF (fWh S p) j else ior_ (bitF (fWh S p) j) (shl 1 ((j : Int) + 1)) := rfl
    rw [e1] at ih
    refine W9_whose_44 ⟨fun z => ?_, fun _ => T_nsC hS (by omega) hp hM ⟨fun z => ?_, fun z => ?_⟩⟩
    · rw [wlt (by omega) (by omega) (by omega) (by omega)] at z; omega
    · rw [wr_id (by omega) (by omega)] at z
      rw [if_pos (show fWh S p j = 0 from z)] at es
      rw [es] at ih; exact ih
    · rw [wr_id (by omega) (by omega)] at z
      rw [if_neg (show ¬ fWh S p j = 0 from z)] at es
      rw [es] at ih; exact ih
theorem L_whM {S : ST} (hS : SOK S) {p : Int} (hp : 1 ≤ p ∧ p ≤ 9) {q : Option Nat} {M : Mem} (hM : RM S M) : ∀ (k j : Nat), j + k = 9 →
    TA i10_whose 46 [some (vr 0), some (vi p), none, some (vi (bitF (fWh S p) j)), some (vi ((j : Int) + 1))] [] (LM q, M) (MP S (bitF (fWh S p) 9))
  | 0, j, hj => by
    have e : j = 9 := by omega
    subst e
    exact W10_whose_46 ⟨fun _ => ⟨q, M, rfl, rfl, hM⟩, fun z => absurd (by decide) z⟩
  | k + 1, j, hj => by
    have e1 : ((j + 1 : Nat) : Int) + 1 = (j : Int) + 1 + 1 := by omega
    have h01 := ns_01 (F := sF S) (R := sR S) (hands := (j : Int) + 1) (pace := p) (yd (sF S)).toNat 0 0
    have ih := L_whM hS hp (q := q) hM k (j + 1) (by omega)
    have es : bitF (fWh S p) (j + 1) = if fWh S p j = 0 then bitF (fWh S p) j else ior_ (bitF (fWh S p) j) (shl 1 ((j : Int) + 1)) := rfl
    rw [e1] at ih
    refine W10_whose_46 ⟨fun z => ?_, fun _ => T_nsM hS (by omega) hp hM ⟨fun z => ?_, fun z => ?_⟩⟩
    · rw [wlt (by omega) (by omega) (by omega) (by omega)] at z; omega
    · rw [wr_id (by omega) (by omega)] at z
      rw [if_pos (show fWh S p j = 0 from z)] at es
      rw [ior0 (bitF_IR j)]
      rw [es] at ih; exact ih
    · rw [wr_id (by omega) (by omega)] at z
      rw [if_neg (show ¬ fWh S p j = 0 from z)] at es
      rw [es] at ih; exact ih
theorem T_rsC {S : ST} (hS : SOK S) {M : Mem} (hM : RC S M) {K : Int → Mem → Prop} (hK : K (rsF (sF S) (sR S).2 (sR S).1 0) M) : TI i9_toldAreYards 2 [vr 0] (LC, M) K := W9_toldAreYards_0 (L_rsC hS hM (sR S).1 0 (by omega) hK)
theorem T_rsM {S : ST} (hS : SOK S) {q : Option Nat} {M : Mem} (hM : RM S M) {K : Int → Mem → Prop} (hK : K (rsF (sF S) (sR S).2 (sR S).1 0) M) : TI i10_isRising 3 [vr 0] (LM q, M) K := W10_isRising_0 (L_rsM hS hM (sR S).1 0 1 (by omega) (Or.inr rfl) (by rw [if_pos rfl]; exact hK))
theorem SIM_pushed {a : Int} (ia : IR a) : SIM i9_pushed 5 i10_pushed 5 [vi a] := by
  intro S hS
  have hF := hS.1
  obtain ⟨B, hB⟩ : ∃ B, B = rsF (sF S) (sR S).2 (sR S).1 0 := ⟨_, rfl⟩
  have hB01 : B = 0 ∨ B = 1 := by rw [hB]; exact rs_01 _ _
  by_cases g : sWho (sF S) a
  · obtain ⟨n, hn6, rfl, hnp⟩ := g.n hF
    by_cases g2 : B = 1
    · refine ⟨bitF (fPu S n) 9, S, hS, fun M hM => W9_pushed_0 ⟨fun _ => T_rsC hS hM (W9_pushed_25 ?_), fun z => ?_⟩, fun q M hM => W10_pushed_0 ⟨isOne_01 hF hM.1 ia, fun z => ?_, fun _ => T_rsM hS hM.thr (W10_pushed_30 ?_)⟩⟩
      · rw [← hB, g2, if_neg (c := wr 1 = 0) (by rw [wr1]; omega)]
        exact ⟨fun _ => L_puC hS hn6 hM 9 0 rfl, fun z => absurd wr0 z⟩
      · rw [nobody_eq hF hM.1 ia, if_pos g] at z; exact absurd wr0 z
      · rw [isOne_eq hF hM.thr.1 ia, if_pos g, wr1] at z; omega
      · rw [← hB, g2, if_neg (c := wr 1 = 0) (by rw [wr1]; omega)]
        exact ⟨fun z => by rw [wr0] at z; omega, fun _ => L_puM hS hn6 hM.thr 9 0 rfl⟩
    · have g0 : B = 0 := by omega
      refine ⟨-3, sRef S (-3), hS.ref _, fun M hM => W9_pushed_0 ⟨fun _ => T_rsC hS hM (W9_pushed_25 ?_), fun z => ?_⟩, fun q M hM => W10_pushed_0 ⟨isOne_01 hF hM.1 ia, fun z => ?_, fun _ => T_rsM hS hM.thr (W10_pushed_30 ?_)⟩⟩
      · rw [← hB, g0, if_pos wr0]
        exact ⟨fun z => by rw [wr_id (by omega) (by omega)] at z; omega, fun _ => C_ref hM (by omega)⟩
      · rw [nobody_eq hF hM.1 ia, if_pos g] at z; exact absurd wr0 z
      · rw [isOne_eq hF hM.thr.1 ia, if_pos g, wr1] at z; omega
      · rw [← hB, g0, if_pos wr0]
        exact ⟨fun _ => ⟨by decide, M_ref hM.thr (by omega)⟩, fun z => by rw [wr_id (by omega) (by omega)] at z; omega⟩
  · refine ⟨-1, sRef S (-1), hS.ref _, fun M hM => W9_pushed_0 ⟨fun z => ?_, fun _ => W9_pushed_25 ⟨fun z => ?_, fun _ => C_ref hM (by omega)⟩⟩, fun q M hM => W10_pushed_0 ⟨isOne_01 hF hM.1 ia, fun _ => W10_pushed_30 ⟨fun _ => ⟨by decide, M_ref hM.thr (by omega)⟩, fun z => ?_⟩, fun z => ?_⟩⟩
    · rw [nobody_eq hF hM.1 ia, if_neg g, wr1] at z; omega
    · rw [wr_id (by omega) (by omega)] at z; omega
    · rw [wr_id (by omega) (by omega)] at z; omega
    · rw [isOne_eq hF hM.thr.1 ia, if_neg g] at z; exact absurd wr0 z
theorem SIM_whose {p : Int} (ip : IR p) : SIM i9_whose 5 i10_whose 5 [vi p] := by
  intro S hS
  have hF := hS.1
  have i0 : IR 0 := by unfold IR; omega
  have i1 : IR 1 := by unfold IR; omega
  have i9 : IR 9 := by unfold IR; omega
  have k1 := by0_eq i0 ip
  have k2 := wrongNumber_eq ip i1 i9
  obtain ⟨W, hW⟩ : ∃ W : Int, W = s3w False (p < 1) (9 < p) := ⟨_, rfl⟩
  have hWb : -6 ≤ W ∧ W ≤ 0 := by rw [hW]; exact wrongN_le
  have e3 : sBy 0 p = W := by
    rw [hW]; unfold sBy s3w
    rw [if_neg (c := False) (fun z => z)]
    (repeat' split) <;> omega
  rw [e3] at k1
  rw [← hW] at k2
  obtain ⟨B, hB⟩ : ∃ B, B = rsF (sF S) (sR S).2 (sR S).1 0 := ⟨_, rfl⟩
  have hB01 : B = 0 ∨ B = 1 := by rw [hB]; exact rs_01 _ _
  have cr : ∀ M, RC S M → W ≠ 0 → TC i9_whose 5 [vr 0, vi p] (LC, M) (CP (sRef S W) W) := fun M hM hn => W9_whose_0 (by
    rw [k1, wr_id (x := W) (by omega) (by omega)]
    exact ⟨fun z => absurd z hn, fun _ => ⟨fun z => absurd z hn, fun _ => C_ref hM (by omega)⟩⟩)
  by_cases e : W = 0
  · have hx : 1 ≤ p ∧ p ≤ 9 := by
      rw [hW] at e; unfold s3w at e; (repeat' split at e) <;> omega
    by_cases g2 : B = 1
    · refine ⟨bitF (fWh S p) 9, S, hS, fun M hM => W9_whose_0 ?_, fun q M hM => W10_whose_0 ?_⟩
      · rw [k1, e]
        refine ⟨fun _ => T_rsC hS hM ⟨fun z => ?_, fun _ => ⟨fun _ => L_whC hS hx hM 9 0 rfl, fun z => absurd wr0 z⟩⟩, fun z => absurd wr0 z⟩
        rw [← hB, g2, wr1] at z; omega
      · rw [k2, e]
        refine ⟨fun _ => T_rsM hS hM.thr (W10_whose_30 ?_), fun z => absurd wr0 z⟩
        rw [← hB, g2, if_neg (c := wr 1 = 0) (by rw [wr1]; omega)]
        exact ⟨fun z => by rw [wr0] at z; omega, fun _ => L_whM hS hx hM.thr 9 0 rfl⟩
    · have g0 : B = 0 := by omega
      refine ⟨-3, sRef S (-3), hS.ref _, fun M hM => W9_whose_0 ?_, fun q M hM => W10_whose_0 ?_⟩
      · rw [k1, e]
        refine ⟨fun _ => T_rsC hS hM ⟨fun _ => ⟨fun z => ?_, fun _ => C_ref hM (by omega)⟩, fun z => ?_⟩, fun z => absurd wr0 z⟩
        · rw [wr_id (by omega) (by omega)] at z; omega
        · rw [← hB, g0] at z; exact absurd wr0 z
      · rw [k2, e]
        refine ⟨fun _ => T_rsM hS hM.thr (W10_whose_30 ?_), fun z => absurd wr0 z⟩
        rw [← hB, g0, if_pos wr0]
        exact ⟨fun _ => ⟨by decide, M_ref hM.thr (by omega)⟩, fun z => by rw [wr_id (by omega) (by omega)] at z; omega⟩
  · refine ⟨W, sRef S W, hS.ref _, fun M hM => cr M hM e, fun q M hM => W10_whose_0 ?_⟩
    rw [k2, wr_id (x := W) (by omega) (by omega)]
    refine ⟨fun z => absurd z e, fun _ => W10_whose_30 ⟨fun _ => ⟨by rw [wr_id (by omega) (by omega)]; omega, M_ref hM.thr (by omega)⟩, fun z => ?_⟩⟩
    rw [wr_id (by omega) (by omega)] at z; omega

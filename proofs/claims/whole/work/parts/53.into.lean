/-! the class: a statement comes into the draft -/
def Lc (f : Nat → Int) (n : Nat) (M : Mem) : Prop := M 29 0 = (n : Int) ∧ ∀ j, j < n → M 31 j = f j ∧ 0 ≤ f j ∧ f j ≤ 255
def FrX (M M' : Mem) : Prop := ∀ i, i ≠ 15 → i ≠ 17 → i ≠ 19 → i ≠ 21 → M' i = M i
theorem FrX.rf (M : Mem) : FrX M M := fun _ _ _ _ _ => rfl
theorem FrX.tr {M M1 M2 : Mem} (h1 : FrX M M1) (h2 : FrX M1 M2) : FrX M M2 := fun i a b c d => (h2 i a b c d).trans (h1 i a b c d)
theorem FrX.L {f : Nat → Int} {n : Nat} {M M' : Mem} (h : FrX M M') (hL : Lc f n M) : Lc f n M' := ⟨by rw [h 29 (by omega) (by omega) (by omega) (by omega)]; exact hL.1, fun j hj => by rw [h 31 (by omega) (by omega) (by omega) (by omega)]; exact hL.2 j hj⟩
theorem RC.dr {S : ST} {M M' : Mem} (h : RC S M) (f : FrX M M') : RC S M' := by
  obtain ⟨h1, ⟨h2, h3⟩, ⟨h4, h5⟩, h6, h7, h8, h9⟩ := h
  have g : ∀ i, i < 15 ∨ 21 < i → M' i = M i := fun i hi => f i (by omega) (by omega) (by omega) (by omega)
  refine ⟨h1.frb (g 1 (by omega)) (g (1 + 2) (by omega)) (g (1 + 4) (by omega)) (g (1 + 6) (by omega)), ⟨by rw [g 29 (by omega)]; exact h2, by rw [g 31 (by omega)]; exact h3⟩, ⟨by rw [g 0 (by omega)]; exact h4, by rw [g 33 (by omega)]; exact h5⟩, by rw [g 35 (by omega)]; exact h6, ?_, by rw [g 22 (by omega)]; exact h8, by rw [g 24 (by omega), g 26 (by omega), g 28 (by omega)]; exact h9⟩
  unfold Im1 at *
  split at h7
  · rw [g 0 (by omega)]; exact h7
  · exact ⟨by rw [g 0 (by omega)]; exact h7.1, h7.2.frb (g 8 (by omega)) (g (8 + 2) (by omega)) (g (8 + 4) (by omega)) (g (8 + 6) (by omega))⟩
theorem dig_eq {f : Nat → Int} {n : Nat} (hn : n ≤ 96) {M : Mem} (hL : Lc f n M) {x : Int} {p : Nat} (hx : x = (p : Int)) (hp : p < n) : f7_digit M 29 x = v1 f p := by
  unfold f7_digit v1
  rw [rd_in (by omega) (by omega) (by omega), show x.toNat = p by omega]
  have := (hL.2 p hp).1
  show M 31 p - 48 = _
  rw [this]
theorem dig2_eq {f : Nat → Int} {n : Nat} (hn : n ≤ 96) {M : Mem} (hL : Lc f n M) {x : Int} {p : Nat} (hx : x = (p : Int)) (hp : p + 1 < n) : f7_twoDigits M 29 x = v2 f p := by
  unfold f7_twoDigits
  rw [dig_eq hn hL hx (by omega), dig_eq hn hL (p := p + 1) (by omega) hp]; rfl
theorem oneMore_15 {F : FS} (hp : 0 ≤ pn F ∧ pn F < 6) {M : Mem} (hM : RCf F M 15) {a h d : Int} : RCf (setOne F a h d) (g3_oneMore M 15 a h d) 15 ∧ FrX M (g3_oneMore M 15 a h d) := by
  have e : g3_oneMore M 15 a h d = up (up (up (up M 21 (3 * (pn F).toNat) a) 21 (3 * (pn F).toNat + 1) h) 21 (3 * (pn F).toNat + 2) d) 15 2 (pn F + 1) := by
    have e0 : wt M 21 18 ((3 * (M 15 2)) + 0) a = up M 21 (3 * (pn F).toNat) a := by
      rw [hM.2.2.1, wt_in (by omega) (by omega) (by omega)]; congr 1; omega
    have e1 : ∀ M2 : Mem, M2 15 2 = pn F → wt M2 21 18 ((3 * (M2 15 2)) + 1) h = up M2 21 (3 * (pn F).toNat + 1) h := fun M2 e => by
      rw [e, wt_in (by omega) (by omega) (by omega)]; congr 1; omega
    have e2 : ∀ M2 : Mem, M2 15 2 = pn F → wt M2 21 18 ((3 * (M2 15 2)) + 2) d = up M2 21 (3 * (pn F).toNat + 2) d := fun M2 e => by
      rw [e, wt_in (by omega) (by omega) (by omega)]; congr 1; omega
    show up (wt (wt (wt M 21 18 ((3 * (M 15 2)) + 0) a) 21 18 ((3 * ((wt M 21 18 ((3 * (M 15 2)) + 0) a) 15 2)) + 1) h) 21 18 ((3 * ((wt (wt M 21 18 ((3 * (M 15 2)) + 0) a) 21 18 ((3 * ((wt M 21 18 ((3 * (M 15 2)) + 0) a) 15 2)) + 1) h) 15 2)) + 2) d) 15 2 (((wt (wt (wt M 21 18 ((3 * (M 15 2)) + 0) a) 21 18 ((3 * ((wt M 21 18 ((3 * (M 15 2)) + 0) a) 15 2)) + 1) h) 21 18 ((3 * ((wt (wt M 21 18 ((3 * (M 15 2)) + 0) a) 21 18 ((3 * ((wt M 21 18 ((3 * (M 15 2)) + 0) a) 15 2)) + 1) h) 15 2)) + 2) d) 15 2) + 1) = _
    rw [e0, e1 _ (by rw [up_fr (by omega)]; exact hM.2.2.1), e2 _ (by rw [up_fr (by omega), up_fr (by omega)]; exact hM.2.2.1), up_fr (i := 15) (by omega), up_fr (i := 15) (by omega), up_fr (i := 15) (by omega), hM.2.2.1]
  rw [e]
  obtain ⟨h1, h2, h3, h4, h5, h6⟩ := hM
  refine ⟨⟨?_, ?_, ?_, fun i hi => ?_, fun i hi => ?_, fun p hp6 => ?_⟩, fun i i15 _ _ i21 => by rw [up_fr i15, up_fr i21, up_fr i21, up_fr i21]⟩
  · rw [up_sl (by omega), up_fr (by omega), up_fr (by omega), up_fr (by omega)]; exact h1
  · rw [up_sl (by omega), up_fr (by omega), up_fr (by omega), up_fr (by omega)]; exact h2
  · rw [up_eq]; rfl
  · rw [up_fr (by omega), up_fr (by omega), up_fr (by omega), up_fr (by omega)]; exact h4 i hi
  · rw [up_fr (by omega), up_fr (by omega), up_fr (by omega), up_fr (by omega)]; exact h5 i hi
  · rw [up_fr (by omega)]
    obtain ⟨q1, q2, q3⟩ := h6 p hp6
    show up (up (up M 21 (3 * (pn F).toNat) a) 21 (3 * (pn F).toNat + 1) h) 21 (3 * (pn F).toNat + 2) d 21 (3 * p) = upn (ar F) (pn F).toNat a p ∧ up (up (up M 21 (3 * (pn F).toNat) a) 21 (3 * (pn F).toNat + 1) h) 21 (3 * (pn F).toNat + 2) d 21 (3 * p + 1) = upn (hv F) (pn F).toNat h p ∧ up (up (up M 21 (3 * (pn F).toNat) a) 21 (3 * (pn F).toNat + 1) h) 21 (3 * (pn F).toNat + 2) d 21 (3 * p + 2) = upn (hd F) (pn F).toNat d p
    unfold upn
    by_cases e : p = (pn F).toNat
    · rw [if_pos e, if_pos e, if_pos e, e]
      refine ⟨by rw [up_sl (by omega), up_sl (by omega), up_eq], by rw [up_sl (by omega), up_eq], up_eq⟩
    · rw [if_neg e, if_neg e, if_neg e]
      refine ⟨by rw [up_sl (by omega), up_sl (by omega), up_sl (by omega)]; exact q1, by rw [up_sl (by omega), up_sl (by omega), up_sl (by omega)]; exact q2, by rw [up_sl (by omega), up_sl (by omega), up_sl (by omega)]; exact q3⟩
theorem into_eq {f : Nat → Int} {n a : Nat} (hn : n ≤ 96) (hW : Wf f n a) {F : FS} (hF : FOK F) {M : Mem} (hL : Lc f n M) (hR : RCf F M 15) :
    (stm f a F = none ∧ f7_comesInto M 29 15 (a : Int) = 0 ∧ FrX M (g7_comesInto M 29 15 (a : Int))) ∨ (∃ F', stm f a F = some F' ∧ f7_comesInto M 29 15 (a : Int) = 1 ∧ FrX M (g7_comesInto M 29 15 (a : Int)) ∧ RCf F' (g7_comesInto M 29 15 (a : Int)) 15) := by
  have hp := hF.2.2.1
  have hy := hF.1
  have ha := hW.1
  have er : rd M (29 + 2) 96 (a : Int) = f a := by
    rw [rd_in (by omega) (by omega) (by omega), show ((a : Int)).toNat = a by omega]
    exact (hL.2 a ha).1
  have hb := (hL.2 a ha).2
  unfold f7_comesInto g7_comesInto stm
  rw [er, wr_id (x := f a) (by omega) (by omega)]
  rcases hW.c with e | e | e | e
  · obtain ⟨r0, l0⟩ := hW.n e
    rw [if_pos e, if_pos e, if_pos e, dig2_eq hn hL (p := a + 1) (by omega) (by omega)]
    unfold f7_yardsCome g7_yardsCome
    rw [wr1, wr_id (x := 20) (by omega) (by omega), wr_id (x := v2 f (a + 1)) (by omega) (by omega)]
    by_cases g1 : v2 f (a + 1) < 1
    · rw [if_pos g1, if_pos g1, if_neg (by omega)]; exact Or.inl ⟨rfl, rfl, FrX.rf M⟩
    · by_cases g2 : 20 < v2 f (a + 1)
      · rw [if_neg g1, if_neg g1, if_pos g2, if_pos g2, if_neg (by omega)]; exact Or.inl ⟨rfl, rfl, FrX.rf M⟩
      · rw [if_neg g1, if_neg g1, if_neg g2, if_neg g2, if_pos (by omega)]
        refine Or.inr ⟨_, rfl, rfl, fun i i15 _ _ _ => up_fr i15, ?_⟩
        obtain ⟨h1, h2, h3, h4, h5, h6⟩ := hR
        exact ⟨up_eq, by rw [up_sl (by omega)]; exact h2, by rw [up_sl (by omega)]; exact h3, by rw [up_fr (by omega)]; exact h4, by rw [up_fr (by omega)]; exact h5, by rw [up_fr (by omega)]; exact h6⟩
  · obtain ⟨r0, r1, r2, l0⟩ := hW.p e
    have x1 : ¬ f a = 110 := by omega
    rw [if_neg x1, if_neg x1, if_neg x1, if_pos e, if_pos e, if_pos e, dig2_eq hn hL (p := a + 1) (by omega) (by omega), dig_eq hn hL (p := a + 3) (by omega) (by omega), dig_eq hn hL (p := a + 4) (by omega) (by omega)]
    unfold f7_personComes g7_personComes
    rw [hR.2.2.1, wr1, wr_id (x := 60) (by omega) (by omega), wr_id (x := 6) (by omega) (by omega), wr_id (x := pn F) (by omega) (by omega), wr_id (x := v2 f (a + 1)) (by omega) (by omega), wr_id (x := v1 f (a + 3)) (by omega) (by omega), wr_id (x := v1 f (a + 4)) (by omega) (by omega)]
    by_cases g : pn F < 6 ∧ (1 ≤ v2 f (a + 1) ∧ v2 f (a + 1) ≤ 60) ∧ 1 ≤ v1 f (a + 3) ∧ 1 ≤ v1 f (a + 4)
    · obtain ⟨g1, g2, g3, g4⟩ := id g
      rw [if_pos g1, if_pos g1, if_neg (c := v2 f (a + 1) < 1) (by omega), if_neg (c := v2 f (a + 1) < 1) (by omega), if_neg (c := 60 < v2 f (a + 1)) (by omega), if_neg (c := 60 < v2 f (a + 1)) (by omega), if_neg (c := v1 f (a + 3) < 1) (by omega), if_neg (c := v1 f (a + 3) < 1) (by omega), if_neg (c := v1 f (a + 4) < 1) (by omega), if_neg (c := v1 f (a + 4) < 1) (by omega), if_pos g]
      have := oneMore_15 (M := M) (a := v2 f (a + 1)) (h := v1 f (a + 3)) (d := v1 f (a + 4)) ⟨hp.1, g1⟩ hR
      exact Or.inr ⟨_, rfl, rfl, this.2, this.1⟩
    · rw [if_neg g]
      left
      refine ⟨rfl, ?_, ?_⟩
      · (repeat' split) <;> omega
      · (repeat' split) <;> first | exact FrX.rf M | exact absurd (by omega) g
  · obtain ⟨r0, r1, r2, r3, l0⟩ := hW.y e
    have x1 : ¬ f a = 110 := by omega
    have x2 : ¬ f a = 112 := by omega
    rw [if_neg x1, if_neg x1, if_neg x1, if_neg x2, if_neg x2, if_neg x2, if_pos e, if_pos e, if_pos e]
    unfold f7_groundComes g7_groundComes
    rw [dig_eq hn hL (p := a + 1) (by omega) (by omega), dig2_eq hn hL (p := a + 2) (by omega) (by omega), dig_eq hn hL (p := a + 4) (by omega) (by omega), dig_eq hn hL (p := a + 5) (by omega) (by omega), hR.1, wr_id (x := 2) (by omega) (by omega), wr_id (x := 5) (by omega) (by omega), wr_id (x := yd F) (by omega) (by omega), wr_id (x := v1 f (a + 1)) (by omega) (by omega), wr_id (x := v2 f (a + 2)) (by omega) (by omega), wr_id (x := v1 f (a + 4)) (by omega) (by omega)]
    by_cases g : v1 f (a + 1) < 2 ∧ v2 f (a + 2) < yd F ∧ v1 f (a + 4) < 6
    · obtain ⟨g1, g2, g3⟩ := id g
      rw [if_pos g1, if_pos g1, if_pos g2, if_pos g2, if_neg (c := 5 < v1 f (a + 4)) (by omega), if_neg (c := 5 < v1 f (a + 4)) (by omega), if_pos g]
      have em : g3_makes M 15 (v1 f (a + 1)) (v2 f (a + 2)) (v1 f (a + 4)) (v1 f (a + 5)) = up (up M 17 (20 * v1 f (a + 1) + v2 f (a + 2)).toNat (v1 f (a + 4))) 19 (20 * v1 f (a + 1) + v2 f (a + 2)).toNat (v1 f (a + 5)) := by
        unfold g3_makes f3_placeOf
        rw [wt_in (by omega) (by omega) (by omega), wt_in (by omega) (by omega) (by omega)]
      rw [em]
      refine Or.inr ⟨_, rfl, rfl, fun i _ i17 i19 _ => by rw [up_fr i19, up_fr i17], ?_⟩
      obtain ⟨h1, h2, h3, h4, h5, h6⟩ := hR
      refine ⟨?_, ?_, ?_, fun j hj => ?_, fun j hj => ?_, fun p hp => ?_⟩
      · rw [up_fr (by omega), up_fr (by omega)]; exact h1
      · rw [up_fr (by omega), up_fr (by omega)]; exact h2
      · rw [up_fr (by omega), up_fr (by omega)]; exact h3
      · rw [up_fr (by omega)]; exact up_upn (h4 j hj)
      · exact up_upn (by rw [up_fr (by omega)]; exact h5 j hj)
      · rw [up_fr (by omega), up_fr (by omega)]; exact h6 p hp
    · rw [if_neg g]
      left
      refine ⟨rfl, ?_, ?_⟩
      · (repeat' split) <;> omega
      · (repeat' split) <;> first | exact FrX.rf M | exact absurd (by omega) g
  · obtain ⟨r0, l0⟩ := hW.l e
    have x1 : ¬ f a = 110 := by omega
    have x2 : ¬ f a = 112 := by omega
    have x3 : ¬ f a = 121 := by omega
    rw [if_neg x1, if_neg x1, if_neg x1, if_neg x2, if_neg x2, if_neg x2, if_neg x3, if_neg x3, if_neg x3, dig_eq hn hL (p := a + 1) (by omega) (by omega)]
    unfold f7_laneComes g7_laneComes
    rw [wr_id (x := 2) (by omega) (by omega), wr_id (x := v1 f (a + 1)) (by omega) (by omega)]
    by_cases g : v1 f (a + 1) < 2
    · rw [if_pos g, if_pos g, if_pos g]
      refine Or.inr ⟨_, rfl, rfl, fun i i15 _ _ _ => up_fr i15, ?_⟩
      obtain ⟨h1, h2, h3, h4, h5, h6⟩ := hR
      exact ⟨by rw [up_sl (by omega)]; exact h1, up_eq, by rw [up_sl (by omega)]; exact h3, by rw [up_fr (by omega)]; exact h4, by rw [up_fr (by omega)]; exact h5, by rw [up_fr (by omega)]; exact h6⟩
    · rw [if_neg g, if_neg g, if_neg g]; exact Or.inl ⟨rfl, rfl, FrX.rf M⟩

/-! which refusal: one function for both sides -/
theorem wl_id {x : Int} (h1 : -9223372036854775808 ≤ x) (h2 : x < 9223372036854775808) : wl x = x := Int64.toInt_ofInt_of_le h1 h2
theorem wr0 : wr 0 = 0 := rfl
theorem wr1 : wr 1 = 1 := rfl
theorem IR.w {x : Int} (h : IR x) : wr x = x := wr_id h.1 h.2
theorem in_eq {x a b : Int} (hx : IR x) (ha : IR a) (hb : IR b) : f10_in x a b = if a ≤ x ∧ x ≤ b then 1 else 0 := by
  unfold IR at *
  unfold f10_in cmpl
  rw [wl_id (x := x) (by omega) (by omega), wl_id (x := a) (by omega) (by omega), wl_id (x := b) (by omega) (by omega)]
  by_cases h1 : x < a
  · have e : (if a < x then (1 : Int) else if x = a then 0 else -1) = -1 := by rw [if_neg (by omega), if_neg (by omega)]
    rw [e, if_pos (by rw [wr_id (by omega) (by omega)]; omega), if_neg (c := a ≤ x ∧ x ≤ b) (by omega)]
  · have e1 : ¬ (wr (if a < x then 1 else if x = a then 0 else -1) < 0) := by
      by_cases h2 : a < x
      · rw [if_pos h2, wr1]; omega
      · rw [if_neg h2, if_pos (by omega), wr0]; omega
    rw [if_neg e1]
    by_cases h3 : b < x
    · rw [if_pos h3, if_pos (by rw [wr1]; omega), if_neg (by omega)]
    · rw [if_neg h3]
      have e2 : ¬ (0 < wr (if x = b then 0 else -1)) := by
        by_cases h4 : x = b
        · rw [if_pos h4, wr0]; omega
        · rw [if_neg h4, wr_id (by omega) (by omega)]; omega
      rw [if_neg e2, if_pos (by omega)]
abbrev sWho (F : FS) (a : Int) : Prop := 0 ≤ a ∧ a < pn F
def sBy (h p : Int) : Int := if h < 0 ∨ p < 1 then -4 else if 2 < h ∨ 9 < p then -6 else 0
def sTwo (F : FS) (a b h p : Int) : Int := if sWho F a ∧ sWho F b ∧ a ≠ b then sBy h p else -1
def sOne (F : FS) (a h p : Int) : Int := if sWho F a then sBy h p else -1
def sBit (w x m : Int) : Int := if w = 0 then (if 0 ≤ x ∧ x ≤ m then 0 else -2) else w
theorem nobody_eq {F : FS} (hF : FOK F) {M : Mem} (hR : RCf F M 1) {a : Int} (ha : IR a) : f9_nobody M a = if sWho F a then 0 else 1 := by
  have h3 := hF.2.2.1
  unfold f9_nobody sWho
  rw [hR.2.2.1, ha.w, wr_id (x := pn F) (by omega) (by omega)]
  by_cases h1 : a < 0
  · rw [if_pos h1, if_neg (by omega)]
  · rw [if_neg h1]
    by_cases h2 : a < pn F
    · rw [if_pos h2, if_pos (by omega)]
    · rw [if_neg h2, if_neg (by omega)]
theorem isOne_eq {F : FS} (hF : FOK F) {M : Mem} (hR : RMf F M) {a : Int} (ha : IR a) : f10_isOne M a = if sWho F a then 1 else 0 := by
  have h3 := hF.2.2.1
  unfold f10_isOne sWho
  rw [hR.2.2.1, ha.w, wr_id (x := pn F - 1) (by omega) (by omega), in_eq ha (by unfold IR; omega) (by unfold IR; omega)]
  by_cases h1 : 0 ≤ a ∧ a < pn F
  · rw [if_pos h1, if_pos (by omega)]
  · rw [if_neg h1, if_neg (by omega)]
theorem low_eq {h p : Int} (hh : IR h) (hp : IR p) : f9_low h p = if h < 0 ∨ p < 1 then 1 else 0 := by
  unfold f9_low
  rw [hh.w, hp.w, wr1]
  by_cases h1 : h < 0
  · rw [if_pos h1, if_pos (Or.inl h1)]
  · rw [if_neg h1]
    by_cases h2 : p < 1
    · rw [if_pos h2, if_pos (Or.inr h2)]
    · rw [if_neg h2, if_neg (by omega)]
theorem high_eq {h p : Int} (hh : IR h) (hp : IR p) : f9_high h p = if 2 < h ∨ 9 < p then 1 else 0 := by
  unfold f9_high
  rw [hh.w, hp.w, wr_id (x := 2) (by omega) (by omega), wr_id (x := 9) (by omega) (by omega)]
  by_cases h1 : 2 < h
  · rw [if_pos h1, if_pos (Or.inl h1)]
  · rw [if_neg h1]
    by_cases h2 : 9 < p
    · rw [if_pos h2, if_pos (Or.inr h2)]
    · rw [if_neg h2, if_neg (by omega)]
/-- the first of three -/
def s3w (a b c : Prop) [Decidable a] [Decidable b] [Decidable c] : Int := if a then -1 else if b then -4 else if c then -6 else 0
theorem first_eq {a b c : Prop} [Decidable a] [Decidable b] [Decidable c] : f9_firstOf (if a then 1 else 0) (if b then 1 else 0) (if c then 1 else 0) = s3w a b c := by
  unfold f9_firstOf s3w
  by_cases ha : a <;> by_cases hb : b <;> by_cases hc : c <;> simp [ha, hb, hc, wr0, wr1]
theorem ite_no {a : Prop} [Decidable a] : (if a then (0 : Int) else 1) = if ¬ a then 1 else 0 := by
  by_cases h : a <;> simp [h]
theorem by_eq {F : FS} {w h p : Int} (hh : IR h) (hp : IR p) {a : Prop} [Decidable a] (hw : w = if a then 1 else 0) : f9_firstOf w (f9_low h p) (f9_high h p) = if a then -1 else sBy h p := by
  rw [hw, low_eq hh hp, high_eq hh hp, first_eq]
  rfl
theorem no2 (A B C : Prop) [Decidable A] [Decidable B] [Decidable C] : (if wr (if A then 0 else 1) = 0 then if wr (if B then 0 else 1) = 0 then if C then (1 : Int) else 0 else 1 else 1) = if ¬ (A ∧ B ∧ ¬ C) then 1 else 0 := by
  by_cases h1 : A <;> by_cases h2 : B <;> by_cases h3 : C <;> simp [h1, h2, h3, wr0, wr1]
theorem ar2 (A B C : Prop) [Decidable A] [Decidable B] [Decidable C] : (if wr (if A then 1 else 0) = 0 then (0 : Int) else if wr (if B then 1 else 0) = 0 then 0 else if C then 0 else 1) = if (A ∧ B ∧ ¬ C) then 1 else 0 := by
  by_cases h1 : A <;> by_cases h2 : B <;> by_cases h3 : C <;> simp [h1, h2, h3, wr0, wr1]
theorem noTwo_eq {F : FS} (hF : FOK F) {M : Mem} (hR : RCf F M 1) {a b : Int} (ha : IR a) (hb : IR b) : f9_noTwo M a b = if ¬ (sWho F a ∧ sWho F b ∧ a ≠ b) then 1 else 0 := by
  unfold f9_noTwo
  rw [nobody_eq hF hR ha, nobody_eq hF hR hb, ha.w, hb.w]
  exact no2 _ _ _
theorem badTwo_eq {F : FS} (hF : FOK F) {M : Mem} (hR : RCf F M 1) {a b h p : Int} (ha : IR a) (hb : IR b) (hh : IR h) (hp : IR p) : f9_badTwo M a b h p = sTwo F a b h p := by
  unfold f9_badTwo sTwo
  rw [by_eq (F := F) hh hp (noTwo_eq hF hR ha hb)]
  by_cases h1 : sWho F a ∧ sWho F b ∧ a ≠ b
  · rw [if_neg (not_not_intro h1), if_pos h1]
  · rw [if_pos h1, if_neg h1]
theorem badOne_eq {F : FS} (hF : FOK F) {M : Mem} (hR : RCf F M 1) {a h p : Int} (ha : IR a) (hh : IR h) (hp : IR p) : f9_badOne M a h p = sOne F a h p := by
  unfold f9_badOne sOne
  rw [by_eq (F := F) hh hp ((nobody_eq hF hR ha).trans ite_no)]
  by_cases h1 : sWho F a
  · rw [if_neg (not_not_intro h1), if_pos h1]
  · rw [if_pos h1, if_neg h1]
theorem orOther_eq {w x m : Int} (hw : IR w) (hx : IR x) (hm : IR m) : f9_orOther w x m = sBit w x m := by
  unfold f9_orOther f9_isOther sBit
  rw [hw.w, hx.w, hm.w]
  by_cases h1 : w = 0
  · rw [if_pos h1, if_pos h1]
    by_cases h2 : x < 0
    · rw [if_pos h2, if_neg (by rw [wr1]; omega), if_neg (by omega)]
    · rw [if_neg h2]
      by_cases h3 : m < x
      · rw [if_pos h3, if_neg (by rw [wr1]; omega), if_neg (by omega)]
      · rw [if_neg h3, if_pos wr0, if_pos (by omega)]; exact h1
  · rw [if_neg h1, if_neg h1]
theorem wrongBit_eq {w x m : Int} (hw : IR w) (hx : IR x) (hm : IR m) : f10_wrongBit w x m = sBit w x m := by
  unfold f10_wrongBit sBit
  rw [hw.w, hx.w, hm.w, in_eq hx (by unfold IR; omega) hm]
  by_cases h1 : w = 0
  · rw [if_pos h1, if_pos h1]
    by_cases h2 : 0 ≤ x ∧ x ≤ m
    · rw [if_pos h2, if_pos (c := ((0 : Nat) : Int) ≤ x ∧ x ≤ m) (by omega), if_neg (by rw [wr1]; omega)]; exact h1
    · rw [if_neg h2, if_neg (c := ((0 : Nat) : Int) ≤ x ∧ x ≤ m) (by omega), if_pos wr0]
  · rw [if_neg h1, if_neg h1]
theorem wrongBy_eq {h p : Int} (hh : IR h) (hp : IR p) : f10_wrongBy h p = sBy h p := by
  unfold f10_wrongBy sBy
  rw [hh.w, hp.w, wr1, wr_id (x := 2) (by omega) (by omega), wr_id (x := 9) (by omega) (by omega)]
  (repeat' split) <;> omega
theorem areTwo_eq {F : FS} (hF : FOK F) {M : Mem} (hR : RMf F M) {a b : Int} (ha : IR a) (hb : IR b) : f10_areTwo M a b = if sWho F a ∧ sWho F b ∧ a ≠ b then 1 else 0 := by
  unfold f10_areTwo
  rw [isOne_eq hF hR ha, isOne_eq hF hR hb, ha.w, hb.w]
  exact ar2 _ _ _
theorem wrongRace_eq {F : FS} (hF : FOK F) {M : Mem} (hR : RMf F M) {a b h p : Int} (ha : IR a) (hb : IR b) (hh : IR h) (hp : IR p) : f10_wrongRace M a b h p = sTwo F a b h p := by
  unfold f10_wrongRace sTwo
  rw [areTwo_eq hF hR ha hb, wrongBy_eq hh hp]
  by_cases h1 : sWho F a ∧ sWho F b ∧ a ≠ b
  · rw [if_pos h1, if_pos h1, if_neg (by rw [wr1]; omega)]
  · rw [if_neg h1, if_neg h1, if_pos wr0]
theorem sBy_le (h p : Int) : -6 ≤ sBy h p ∧ sBy h p ≤ 0 := by unfold sBy; (repeat' split) <;> omega
theorem sBy_ok {h p : Int} (e : sBy h p = 0) : BOK h p := by
  unfold sBy at e
  unfold BOK
  split at e
  · omega
  · split at e
    · omega
    · omega
theorem sTwo_le (F : FS) (a b h p : Int) : -6 ≤ sTwo F a b h p ∧ sTwo F a b h p ≤ 0 := by
  have := sBy_le h p
  unfold sTwo; split <;> omega
theorem sOne_le (F : FS) (a h p : Int) : -6 ≤ sOne F a h p ∧ sOne F a h p ≤ 0 := by
  have := sBy_le h p
  unfold sOne; split <;> omega
theorem sBit_le {w x m : Int} (hw : -6 ≤ w ∧ w ≤ 0) : -6 ≤ sBit w x m ∧ sBit w x m ≤ 0 := by
  unfold sBit; (repeat' split) <;> omega
theorem sTwo_ok {F : FS} {a b h p : Int} (e : sTwo F a b h p = 0) : sWho F a ∧ sWho F b ∧ a ≠ b ∧ BOK h p := by
  unfold sTwo at e
  split at e
  · rename_i h1
    exact ⟨h1.1, h1.2.1, h1.2.2, sBy_ok e⟩
  · omega
theorem sOne_ok {F : FS} {a h p : Int} (e : sOne F a h p = 0) : sWho F a ∧ BOK h p := by
  unfold sOne at e
  split at e
  · rename_i h1
    exact ⟨h1, sBy_ok e⟩
  · omega
theorem sBit_ok {w x m : Int} (e : sBit w x m = 0) : w = 0 ∧ 0 ≤ x ∧ x ≤ m := by
  unfold sBit at e
  split at e
  · split at e
    · exact ⟨by assumption, by assumption⟩
    · omega
  · omega
/-- one who is there, as a number of hers -/
theorem sWho.n {F : FS} (hF : FOK F) {a : Int} (h : sWho F a) : ∃ p : Nat, p < 6 ∧ a = (p : Int) ∧ (p : Int) < pn F := by
  have h3 := hF.2.2.1
  unfold sWho at h
  exact ⟨a.toNat, by omega, by omega, by omega⟩
theorem in_01 {x a b : Int} (hx : IR x) (ha : IR a) (hb : IR b) : wr (f10_in x a b) = 0 ∨ wr (f10_in x a b) = 1 := by
  rw [in_eq hx ha hb]; split
  · right; rfl
  · left; rfl

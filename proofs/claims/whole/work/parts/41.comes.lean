/-! comes: both sides answer alike -/
def setOne (F : FS) (a h d : Int) : FS := (yd F, ln F, pn F + 1, kd F, fg F, upn (ar F) (pn F).toNat a, upn (hv F) (pn F).toNat h, upn (hd F) (pn F).toNat d)
theorem FOK.one {F : FS} (hF : FOK F) {a h d : Int} (ha : 1 ≤ a ∧ a ≤ 60) (hh : 1 ≤ h ∧ h ≤ 9) (hd' : 1 ≤ d ∧ d ≤ 9) (hp : pn F < 6) : FOK (setOne F a h d) := by
  obtain ⟨h1, h2, h3, h4, h5, h6, h7⟩ := hF
  refine ⟨h1, h2, ?_, h4, h5, fun p hp6 => ?_, fun p hpp => ?_⟩
  · show 0 ≤ pn F + 1 ∧ pn F + 1 ≤ 6; omega
  · show 0 ≤ upn (ar F) (pn F).toNat a p ∧ upn (ar F) (pn F).toNat a p ≤ 60 ∧ 0 ≤ upn (hv F) (pn F).toNat h p ∧ upn (hv F) (pn F).toNat h p ≤ 9 ∧ 0 ≤ upn (hd F) (pn F).toNat d p ∧ upn (hd F) (pn F).toNat d p ≤ 9
    unfold upn
    by_cases e : p = (pn F).toNat
    · rw [if_pos e, if_pos e, if_pos e]; omega
    · rw [if_neg e, if_neg e, if_neg e]; exact h6 p hp6
  · have hpp2 : (p : Int) < pn F + 1 := hpp
    show 1 ≤ upn (ar F) (pn F).toNat a p ∧ 1 ≤ upn (hv F) (pn F).toNat h p ∧ 1 ≤ upn (hd F) (pn F).toNat d p
    unfold upn
    by_cases e : p = (pn F).toNat
    · rw [if_pos e, if_pos e, if_pos e]; omega
    · rw [if_neg e, if_neg e, if_neg e]; exact h7 p (by omega)
theorem oneMore_eq {F : FS} (hF : FOK F) {M : Mem} (hM : RCf F M 1) (hp : pn F < 6) {a h d : Int} :
    wt (wt (wt M 7 18 ((3 * (M 1 2)) + 0) a) 7 18 ((3 * ((wt M 7 18 ((3 * (M 1 2)) + 0) a) 1 2)) + 1) h) 7 18 ((3 * ((wt (wt M 7 18 ((3 * (M 1 2)) + 0) a) 7 18 ((3 * ((wt M 7 18 ((3 * (M 1 2)) + 0) a) 1 2)) + 1) h) 1 2)) + 2) d = up (up (up M 7 (3 * (pn F).toNat) a) 7 (3 * (pn F).toNat + 1) h) 7 (3 * (pn F).toNat + 2) d := by
  have h3 := hF.2.2.1
  have e0 : wt M 7 18 ((3 * (M 1 2)) + 0) a = up M 7 (3 * (pn F).toNat) a := by
    rw [hM.2.2.1, wt_in (by omega) (by omega) (by omega)]; congr 1; omega
  have e1 : ∀ M2 : Mem, M2 1 2 = pn F → wt M2 7 18 ((3 * (M2 1 2)) + 1) h = up M2 7 (3 * (pn F).toNat + 1) h := fun M2 e => by
    rw [e, wt_in (by omega) (by omega) (by omega)]; congr 1; omega
  have e2 : ∀ M2 : Mem, M2 1 2 = pn F → wt M2 7 18 ((3 * (M2 1 2)) + 2) d = up M2 7 (3 * (pn F).toNat + 2) d := fun M2 e => by
    rw [e, wt_in (by omega) (by omega) (by omega)]; congr 1; omega
  rw [e0, e1 _ (by rw [up_fr (by omega)]; exact hM.2.2.1), e2 _ (by rw [up_fr (by omega), up_fr (by omega)]; exact hM.2.2.1)]
theorem people_up {F : FS} {M : Mem} (hM : RCf F M 1) (h0 : 0 ≤ pn F) {a h d : Int} : ∀ p, p < 6 → up (up (up M 7 (3 * (pn F).toNat) a) 7 (3 * (pn F).toNat + 1) h) 7 (3 * (pn F).toNat + 2) d 7 (3 * p) = upn (ar F) (pn F).toNat a p ∧ up (up (up M 7 (3 * (pn F).toNat) a) 7 (3 * (pn F).toNat + 1) h) 7 (3 * (pn F).toNat + 2) d 7 (3 * p + 1) = upn (hv F) (pn F).toNat h p ∧ up (up (up M 7 (3 * (pn F).toNat) a) 7 (3 * (pn F).toNat + 1) h) 7 (3 * (pn F).toNat + 2) d 7 (3 * p + 2) = upn (hd F) (pn F).toNat d p := by
  intro p hp6
  obtain ⟨q1, q2, q3⟩ := hM.2.2.2.2.2 p hp6
  unfold upn
  by_cases e : p = (pn F).toNat
  · rw [if_pos e, if_pos e, if_pos e, e]
    refine ⟨by rw [up_sl (by omega), up_sl (by omega), up_eq], by rw [up_sl (by omega), up_eq], up_eq⟩
  · rw [if_neg e, if_neg e, if_neg e]
    refine ⟨by rw [up_sl (by omega), up_sl (by omega), up_sl (by omega)]; exact q1, by rw [up_sl (by omega), up_sl (by omega), up_sl (by omega)]; exact q2, by rw [up_sl (by omega), up_sl (by omega), up_sl (by omega)]; exact q3⟩

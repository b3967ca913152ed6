/-! the state that both sides hold; a call that both sides answer alike -/
abbrev ST : Type := FS × (Nat × (Nat → Int)) × (Nat × (Nat → Int)) × (Nat → Int) × Option FS × List FS
def sF (S : ST) : FS := S.1
def sL (S : ST) : Nat × (Nat → Int) := S.2.1
def sR (S : ST) : Nat × (Nat → Int) := S.2.2.1
def sC (S : ST) : Nat → Int := S.2.2.2.1
def sI (S : ST) : Option FS := S.2.2.2.2.1
def sT (S : ST) : List FS := S.2.2.2.2.2
def upn (f : Nat → Int) (k : Nat) (v : Int) : Nat → Int := fun j => if j = k then v else f j
def SOK (S : ST) : Prop := FOK (sF S) ∧ ((sL S).1 ≤ 96 ∧ ∀ j, j < (sL S).1 → 0 ≤ (sL S).2 j ∧ (sL S).2 j ≤ 255) ∧ ((sR S).1 ≤ 12 ∧ ∀ j, j < (sR S).1 → 0 ≤ (sR S).2 j ∧ (sR S).2 j ≤ 99) ∧
  (∀ G, sI S = some G → FOK G) ∧ (∀ G, G ∈ sT S → FOK G) ∧ (sT S).length ≤ 8
/-- a change turns F into what was ahead of it, G -/
def Und (s p b : Int) (F G : FS) : Prop :=
  (s = 0 ∧ ∃ i : Nat, i < 40 ∧ p = (i : Int) ∧ ∃ k f : Int, KOK k f ∧ b = 10 * k + f ∧ G = (yd F, ln F, pn F, upn (kd F) i k, upn (fg F) i f, ar F, hv F, hd F)) ∨
  (s = 1 ∧ ∃ i : Nat, i < 6 ∧ ((p = 3 * (i : Int) ∧ G = (yd F, ln F, pn F, kd F, fg F, upn (ar F) i b, hv F, hd F)) ∨ (p = 3 * (i : Int) + 1 ∧ G = (yd F, ln F, pn F, kd F, fg F, ar F, upn (hv F) i b, hd F)) ∨ (p = 3 * (i : Int) + 2 ∧ G = (yd F, ln F, pn F, kd F, fg F, ar F, hv F, upn (hd F) i b)))) ∨
  (s = 2 ∧ G = (yd F, b, pn F, kd F, fg F, ar F, hv F, hd F))
def CH (s p b : Nat → Int) : List FS → FS → Prop
  | [], _ => True
  | G :: r, F => Und (s r.length) (p r.length) (b r.length) F G ∧ CH s p b r G
def Snap (G : FS) (f : Nat → Int) (a : Nat) : Prop := f a = yd G ∧ f (a + 1) = ln G ∧ f (a + 2) = pn G ∧ (∀ i, i < 40 → f (a + 3 + 2 * i) = kd G i ∧ f (a + 4 + 2 * i) = fg G i) ∧ (∀ p, p < 6 → f (a + 83 + 3 * p) = ar G p ∧ f (a + 84 + 3 * p) = hv G p ∧ f (a + 85 + 3 * p) = hd G p)
def TN (f : Nat → Int) : List FS → Prop
  | [] => True
  | G :: r => Snap G f (101 * r.length) ∧ TN f r
def Im1 (o : Option FS) (M : Mem) : Prop := match o with
  | none => M 0 3 = 0
  | some G => M 0 3 = 1 ∧ RCf G M 8
def Im2 (o : Option FS) (M : Mem) : Prop := match o with
  | none => M 0 30 = 0
  | some G => M 0 30 = 1 ∧ Snap G (M 13) 0
def RC (S : ST) (M : Mem) : Prop := RCf (sF S) M 1 ∧ (M 29 0 = ((sL S).1 : Int) ∧ ∀ j, j < (sL S).1 → M 31 j = (sL S).2 j) ∧ (M 0 7 = ((sR S).1 : Int) ∧ ∀ j, j < (sR S).1 → M 33 j = (sR S).2 j) ∧ (∀ j, j < 7 → M 35 j = sC S j) ∧ Im1 (sI S) M ∧ M 22 0 = ((sT S).length : Int) ∧ CH (M 24) (M 26) (M 28) (sT S) (sF S)
def RM (S : ST) (M : Mem) : Prop := RMf (sF S) M ∧ (M 0 21 = ((sL S).1 : Int) ∧ ∀ j, j < (sL S).1 → M 8 j = (sL S).2 j) ∧ (M 0 48 = ((sR S).1 : Int) ∧ ∀ j, j < (sR S).1 → M 24 j = (sR S).2 j) ∧ (∀ j, j < 7 → M 6 j = sC S j) ∧ Im2 (sI S) M ∧ M 0 36 = ((sT S).length : Int) ∧ TN (M 14) (sT S)
theorem RCf.frb {F : FS} {M M' : Mem} {b : Nat} (h : RCf F M b) (h0 : M' b = M b) (h2 : M' (b + 2) = M (b + 2)) (h4 : M' (b + 4) = M (b + 4)) (h6 : M' (b + 6) = M (b + 6)) : RCf F M' b := by
  unfold RCf at *
  rw [h0, h2, h4, h6]; exact h
/-- a question leaves the state as it was -/
def FrC (M M' : Mem) : Prop := ∀ i, i < 36 → M' i = M i
def FrQ (M M' : Mem) : Prop := (∀ i, 1 ≤ i → (i ≤ 6 ∨ i = 8 ∨ i = 13 ∨ i = 14 ∨ i = 24) → M' i = M i) ∧ (∀ j, (j < 8 ∨ j = 21 ∨ j = 30 ∨ j = 36 ∨ j = 48) → M' 0 j = M 0 j)
theorem FrC.tr {M M1 M2 : Mem} (h1 : FrC M M1) (h2 : FrC M1 M2) : FrC M M2 := fun i hi => (h2 i hi).trans (h1 i hi)
theorem FrQ.tr {M M1 M2 : Mem} (h1 : FrQ M M1) (h2 : FrQ M1 M2) : FrQ M M2 := ⟨fun i a b => (h2.1 i a b).trans (h1.1 i a b), fun j hj => (h2.2 j hj).trans (h1.2 j hj)⟩
theorem FrC.rf (M : Mem) : FrC M M := fun _ _ => rfl
theorem FrQ.rf (M : Mem) : FrQ M M := ⟨fun _ _ _ => rfl, fun _ _ => rfl⟩
theorem FrR.q {M M1 : Mem} (h : FrR M M1) : FrQ M M1 := ⟨fun i a b => h.1 i (by omega) (by omega), fun j hj => h.2 j (by omega)⟩
theorem FrS.q {M M1 : Mem} (h : FrS M M1) : FrQ M M1 := (FrR.rf M).s h |>.q
theorem FrQ.thr (M : Mem) (v : Int) : FrQ M (up M 0 8 v) := ⟨fun i a _ => up_fr (by omega), fun j hj => up_sl (by omega)⟩
theorem RC.fr {S : ST} {M M' : Mem} (h : RC S M) (f : FrC M M') : RC S M' := by
  obtain ⟨h1, ⟨h2, h3⟩, ⟨h4, h5⟩, h6, h7, h8, h9⟩ := h
  refine ⟨h1.fr f, ⟨by rw [f 29 (by omega)]; exact h2, by rw [f 31 (by omega)]; exact h3⟩, ⟨by rw [f 0 (by omega)]; exact h4, by rw [f 33 (by omega)]; exact h5⟩, by rw [f 35 (by omega)]; exact h6, ?_, by rw [f 22 (by omega)]; exact h8, by rw [f 24 (by omega), f 26 (by omega), f 28 (by omega)]; exact h9⟩
  unfold Im1 at *
  split at h7
  · rw [f 0 (by omega)]; exact h7
  · exact ⟨by rw [f 0 (by omega)]; exact h7.1, h7.2.frb (f 8 (by omega)) (f (8 + 2) (by omega)) (f (8 + 4) (by omega)) (f (8 + 6) (by omega))⟩
theorem RM.fr {S : ST} {M M' : Mem} (h : RM S M) (f : FrQ M M') : RM S M' := by
  obtain ⟨h1, ⟨h2, h3⟩, ⟨h4, h5⟩, h6, h7, h8, h9⟩ := h
  obtain ⟨f1, f2⟩ := f
  refine ⟨h1.fr (fun i a b => f1 i a (by omega)) (fun j a b => f2 j (by omega)), ⟨by rw [f2 21 (by omega)]; exact h2, by rw [f1 8 (by omega) (by omega)]; exact h3⟩, ⟨by rw [f2 48 (by omega)]; exact h4, by rw [f1 24 (by omega) (by omega)]; exact h5⟩, by rw [f1 6 (by omega) (by omega)]; exact h6, ?_, by rw [f2 36 (by omega)]; exact h8, by rw [f1 14 (by omega) (by omega)]; exact h9⟩
  unfold Im2 at *
  split at h7
  · rw [f2 30 (by omega)]; exact h7
  · exact ⟨by rw [f2 30 (by omega)]; exact h7.1, by rw [f1 13 (by omega) (by omega)]; exact h7.2⟩
/-- what a call's end says of both sides -/
def CP (S : ST) (r : Int) (rv : Option AV) (G' : GM) : Prop := ∃ M', rv = some (vi r) ∧ G' = (LC, M') ∧ RC S M'
def MP (S : ST) (r : Int) (rv : Option AV) (G' : GM) : Prop := ∃ q M', rv = some (vi r) ∧ G' = (LM q, M') ∧ RM S M'
def SIM (zc mc zm mm : Nat) (as : List AV) : Prop := ∀ S, SOK S → ∃ r S', SOK S' ∧ (∀ M, RC S M → TC zc mc (vr 0 :: as) (LC, M) (CP S' r)) ∧ (∀ q M, RM S M → TC zm mm (vr 0 :: as) (LM q, M) (MP S' r))
def IR (x : Int) : Prop := -2147483648 ≤ x ∧ x < 2147483648
/-- a refusal, counted -/
def sRef (S : ST) (w : Int) : ST := (sF S, sL S, sR S, upn (sC S) (-w).toNat (sC S (-w).toNat + 1), sI S, sT S)
theorem SOK.ref {S : ST} (h : SOK S) (w : Int) : SOK (sRef S w) := h
theorem C_ref {S : ST} {M : Mem} (h : RC S M) {w : Int} (hw : -6 ≤ w ∧ w ≤ -1) : CP (sRef S w) w (some (vi (f9_refuse w))) (LC, g9_refuse M w) := by
  refine ⟨_, rfl, rfl, ?_⟩
  unfold g9_refuse
  rw [rd_in (by omega) (by omega) (by omega), wt_in (by omega) (by omega) (by omega)]
  obtain ⟨h1, ⟨h2, h3⟩, ⟨h4, h5⟩, h6, h7, h8, h9⟩ := h
  obtain ⟨M2, hM2⟩ : ∃ M2, M2 = up M 35 (-w).toNat (M 35 (-w).toNat + 1) := ⟨_, rfl⟩
  rw [← hM2]
  have f : ∀ i, i ≠ 35 → M2 i = M i := fun i hi => by rw [hM2]; exact up_fr hi
  refine ⟨h1.frb (f 1 (by omega)) (f (1 + 2) (by omega)) (f (1 + 4) (by omega)) (f (1 + 6) (by omega)), ⟨by rw [f 29 (by omega)]; exact h2, by rw [f 31 (by omega)]; exact h3⟩, ⟨by rw [f 0 (by omega)]; exact h4, by rw [f 33 (by omega)]; exact h5⟩, ?_, ?_, by rw [f 22 (by omega)]; exact h8, by rw [f 24 (by omega), f 26 (by omega), f 28 (by omega)]; exact h9⟩
  · intro j hj
    show M2 35 j = upn (sC S) (-w).toNat (sC S (-w).toNat + 1) j
    unfold upn
    rw [hM2]
    by_cases e : j = (-w).toNat
    · rw [if_pos e, e, up_eq, h6 _ (by omega)]
    · rw [if_neg e, up_sl e]; exact h6 j hj
  · show Im1 (sI S) M2
    unfold Im1 at *
    split at h7
    · rw [f 0 (by omega)]; exact h7
    · exact ⟨by rw [f 0 (by omega)]; exact h7.1, h7.2.frb (f 8 (by omega)) (f (8 + 2) (by omega)) (f (8 + 4) (by omega)) (f (8 + 6) (by omega))⟩
theorem M_ref {S : ST} {q : Option Nat} {M : Mem} (h : RM S M) {w : Int} (hw : -6 ≤ w ∧ w ≤ -1) : MP (sRef S w) w (some (vi (f10_refuse w))) (LM q, g10_refuse M w) := by
  refine ⟨q, _, rfl, rfl, ?_⟩
  unfold g10_refuse
  rw [wr_id (x := -w) (by omega) (by omega)]
  obtain ⟨h1, ⟨h2, h3⟩, ⟨h4, h5⟩, h6, h7, h8, h9⟩ := h
  obtain ⟨M2, hM2⟩ : ∃ M2, M2 = up M 6 (-w).toNat (M 6 (-w).toNat + 1) := ⟨_, rfl⟩
  rw [← hM2]
  have f : ∀ i, i ≠ 6 → M2 i = M i := fun i hi => by rw [hM2]; exact up_fr hi
  refine ⟨h1.fr (fun i a b => f i (by omega)) (fun j a b => by rw [f 0 (by omega)]), ⟨by rw [f 0 (by omega)]; exact h2, by rw [f 8 (by omega)]; exact h3⟩, ⟨by rw [f 0 (by omega)]; exact h4, by rw [f 24 (by omega)]; exact h5⟩, ?_, ?_, by rw [f 0 (by omega)]; exact h8, by rw [f 14 (by omega)]; exact h9⟩
  · intro j hj
    show M2 6 j = upn (sC S) (-w).toNat (sC S (-w).toNat + 1) j
    unfold upn
    rw [hM2]
    by_cases e : j = (-w).toNat
    · rw [if_pos e, e, up_eq, h6 _ (by omega)]
    · rw [if_neg e, up_sl e]; exact h6 j hj
  · show Im2 (sI S) M2
    unfold Im2 at *
    split at h7
    · rw [f 0 (by omega)]; exact h7
    · exact ⟨by rw [f 0 (by omega)]; exact h7.1, by rw [f 13 (by omega)]; exact h7.2⟩

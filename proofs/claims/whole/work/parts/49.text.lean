/-! letters: the first fault, the statements one by one -/
def dB (c : Int) : Int := if c = 108 then 1 else if c = 110 then 2 else if c = 112 then 4 else if c = 121 then 5 else -1
def cls (f : Nat → Int) (n : Nat) : Nat → Int → Nat → Int
  | 0, lack, _ => if lack < 0 then (if (n : Int) = 0 then (n : Int) else -1) else (n : Int)
  | k + 1, lack, p => if lack < 0 then (if dB (f p) < 0 then (p : Int) else cls f n k (dB (f p)) (p + 1)) else if 0 < lack then (if f p < 48 then (p : Int) else if 57 < f p then (p : Int) else cls f n k (lack + -1) (p + 1)) else if f p = 59 then cls f n k (-1) (p + 1) else (p : Int)
theorem dB_le (c : Int) : -1 ≤ dB c ∧ dB c ≤ 5 := by unfold dB; (repeat' split) <;> omega
theorem dB_eq {c : Int} (h : IR c) : f7_digitsBehind c = dB c := by
  unfold f7_digitsBehind dB
  rw [h.w]
theorem L_sense {f : Nat → Int} {n : Nat} (hn : n ≤ 96) {M : Mem} (h0 : M 29 0 = (n : Int)) (hf : ∀ j, j < n → M 31 j = f j ∧ 0 ≤ f j ∧ f j ≤ 255) {K : Int → Mem → Prop} : ∀ (k : Nat) (lack : Int) (p : Nat), p + k = n → (-1 ≤ lack ∧ lack ≤ 5) → K (cls f n k lack p) M →
    TA i7_firstWithoutSense 4 [some (vr 29), some (vi lack), some (vi (p : Int)), none] [] (LC, M) (fun rv G' => ∃ r M', rv = some (vi r) ∧ G' = (LC, M') ∧ K r M')
  | 0, lack, p, hp, hl, h => by
    have e : p = n := by omega
    subst e
    refine W7_firstWithoutSense_4_29 ⟨fun z => ?_, fun _ => W7_firstWithoutSense_98_29 ⟨_, M, ?_, rfl, h⟩⟩
    · rw [h0, wlt (by omega) (by omega) (by omega) (by omega)] at z; omega
    · rw [h0, wr_id (x := lack) (by omega) (by omega), wr_id (x := (p : Int)) (by omega) (by omega)]; rfl
  | k + 1, lack, p, hp, hl, h => by
    have ep : ((p : Int)).toNat = p := by omega
    obtain ⟨f1, f2, f3⟩ := hf p (by omega)
    have er : rd M 31 96 (p : Int) = f p := by rw [rd_in (by omega) (by omega) (by omega), ep]; exact f1
    have hd := dB_le (f p)
    have e1 : ((p + 1 : Nat) : Int) = (p : Int) + 1 := by omega
    simp only [cls] at h
    refine W7_firstWithoutSense_4_29 ?_
    rw [er, h0, dB_eq (c := f p) (by unfold IR; omega), wr_id (x := (p : Int)) (by omega) (by omega), wr_id (x := (n : Int)) (by omega) (by omega), wr_id (x := lack) (by omega) (by omega), wr_id (x := f p) (by omega) (by omega), wr_id (x := dB (f p)) (by omega) (by omega), wr_id (x := 48) (by omega) (by omega), wr_id (x := 57) (by omega) (by omega), wr_id (x := 59) (by omega) (by omega)]
    refine ⟨fun _ => ⟨fun z => ⟨fun z2 => ?_, fun z2 => ?_⟩, fun z => ⟨fun z2 => ⟨fun z3 => ?_, fun z3 => ⟨fun z4 => ?_, fun z4 => ?_⟩⟩, fun z2 => ⟨fun z3 => ?_, fun z3 => ?_⟩⟩⟩, fun z => absurd (by omega) z⟩
    · rw [if_pos z, if_pos z2] at h; exact ⟨_, M, rfl, rfl, h⟩
    · rw [if_pos z, if_neg z2] at h
      have ih := L_sense hn h0 hf k (dB (f p)) (p + 1) (by omega) (by omega) h
      rw [e1] at ih; exact ih
    · rw [if_neg z, if_pos z2, if_pos z3] at h; exact ⟨_, M, rfl, rfl, h⟩
    · rw [if_neg z, if_pos z2, if_neg z3, if_pos z4] at h; exact ⟨_, M, rfl, rfl, h⟩
    · rw [if_neg z, if_pos z2, if_neg z3, if_neg z4] at h
      have ih := L_sense hn h0 hf k (lack + -1) (p + 1) (by omega) (by omega) h
      rw [e1] at ih; exact ih
    · rw [if_neg z, if_neg z2, if_pos z3] at h
      have ih := L_sense hn h0 hf k (-1) (p + 1) (by omega) (by omega) h
      rw [e1] at ih; exact ih
    · rw [if_neg z, if_neg z2, if_neg z3] at h; exact ⟨_, M, rfl, rfl, h⟩
/-- how many of the next d letters are digits, up to the first that is none -/
def nd (f : Nat → Int) (n : Nat) : Nat → Nat → Nat
  | _, 0 => 0
  | p, d + 1 => if p < n ∧ 48 ≤ f p ∧ f p ≤ 57 then nd f n (p + 1) d + 1 else 0
theorem nd_y {f : Nat → Int} {n p : Nat} (d : Nat) (g : p < n ∧ 48 ≤ f p ∧ f p ≤ 57) : nd f n p (d + 1) = nd f n (p + 1) d + 1 := if_pos g
theorem nd_n {f : Nat → Int} {n p : Nat} (d : Nat) (g : ¬ (p < n ∧ 48 ≤ f p ∧ f p ≤ 57)) : nd f n p (d + 1) = 0 := if_neg g
theorem cls_s {f : Nat → Int} {n k p : Nat} {lack : Int} : cls f n (k + 1) lack p = if lack < 0 then (if dB (f p) < 0 then (p : Int) else cls f n k (dB (f p)) (p + 1)) else if 0 < lack then (if f p < 48 then (p : Int) else if 57 < f p then (p : Int) else cls f n k (lack + -1) (p + 1)) else if f p = 59 then cls f n k (-1) (p + 1) else (p : Int) := rfl
theorem nd_le {f : Nat → Int} {n : Nat} : ∀ (d p : Nat), nd f n p d ≤ d
  | 0, p => Nat.le_refl _
  | d + 1, p => by
    have := nd_le (f := f) (n := n) d (p + 1)
    simp only [nd]
    split <;> omega
theorem nd_bd {f : Nat → Int} {n : Nat} : ∀ (d p : Nat), p ≤ n → p + nd f n p d ≤ n
  | 0, p, h => h
  | d + 1, p, h => by
    simp only [nd]
    split
    · rename_i g
      have := nd_bd (f := f) (n := n) d (p + 1) (by omega)
      omega
    · omega
theorem nd_ok {f : Nat → Int} {n : Nat} : ∀ (d p : Nat), nd f n p d = d → ∀ j, j < d → p + j < n ∧ 48 ≤ f (p + j) ∧ f (p + j) ≤ 57
  | 0, p, _, j, hj => absurd hj (by omega)
  | d + 1, p, h, j, hj => by
    simp only [nd] at h
    split at h
    · rename_i g
      cases j with
      | zero => exact g
      | succ j =>
        have := nd_ok (f := f) (n := n) d (p + 1) (by omega) j (by omega)
        rw [show p + 1 + j = p + (j + 1) by omega] at this
        exact this
    · omega
theorem nd_add {f : Nat → Int} {n : Nat} (b : Nat) : ∀ (a p : Nat), nd f n p (a + b) = if nd f n p a < a then nd f n p a else a + nd f n (p + a) b
  | 0, p => by
    rw [if_neg (by omega), Nat.zero_add, Nat.zero_add, Nat.add_zero]
  | a + 1, p => by
    have ih := nd_add (f := f) (n := n) b a (p + 1)
    have e : a + 1 + b = (a + b) + 1 := by omega
    rw [e]
    by_cases g : p < n ∧ 48 ≤ f p ∧ f p ≤ 57
    · rw [nd_y _ g, nd_y _ g, ih]
      by_cases g2 : nd f n (p + 1) a < a
      · rw [if_pos g2, if_pos (by omega)]
      · rw [if_neg g2, if_neg (by omega), show p + (a + 1) = p + 1 + a by omega]; omega
    · rw [nd_n _ g, nd_n _ g, if_pos (by omega)]
theorem cls_dig {f : Nat → Int} {n : Nat} : ∀ (d k p : Nat), p + k = n → cls f n k (d : Int) p = if nd f n p d < d then ((p + nd f n p d : Nat) : Int) else cls f n (k - d) 0 (p + d)
  | 0, k, p, h => by rw [if_neg (by omega)]; rfl
  | d + 1, 0, p, h => by
    have e : nd f n p (d + 1) = 0 := by simp only [nd]; rw [if_neg (by omega)]
    rw [e, if_pos (by omega)]
    simp only [cls]
    rw [if_neg (by omega)]; omega
  | d + 1, k + 1, p, h => by
    have ih := cls_dig (f := f) (n := n) d k (p + 1) (by omega)
    have ed : ((d + 1 : Nat) : Int) + -1 = (d : Int) := by omega
    rw [cls_s, if_neg (by omega), if_pos (by omega), ed, ih]
    by_cases g : 48 ≤ f p ∧ f p ≤ 57
    · rw [if_neg (by omega), if_neg (by omega), nd_y _ ⟨by omega, g⟩]
      by_cases g2 : nd f n (p + 1) d < d
      · rw [if_pos g2, if_pos (by omega)]; omega
      · rw [if_neg g2, if_neg (by omega), show k + 1 - (d + 1) = k - d by omega, show p + (d + 1) = p + 1 + d by omega]
    · rw [nd_n _ (fun z => g z.2), if_pos (c := 0 < d + 1) (by omega)]
      by_cases g2 : f p < 48
      · rw [if_pos g2]; rfl
      · rw [if_neg g2, if_pos (by omega)]; rfl
/-- the fault in the statement that begins at a -/
def dN (c : Int) : Nat := (dB c).toNat
def stB (f : Nat → Int) (n a : Nat) : Option Nat := if a < n ∧ 0 ≤ dB (f a) then (if nd f n (a + 1) (dN (f a)) < dN (f a) then some (a + 1 + nd f n (a + 1) (dN (f a))) else if a + 1 + dN (f a) < n ∧ f (a + 1 + dN (f a)) = 59 then none else some (a + 1 + dN (f a))) else some a
theorem cls_some {f : Nat → Int} {n a k p : Nat} (h : a + k = n) (h2 : 0 < k ∨ n = 0) (hs : stB f n a = some p) : cls f n k (-1) a = (p : Int) := by
  cases k with
  | zero =>
    have e : n = 0 := by omega
    unfold stB at hs
    rw [if_neg (by omega)] at hs
    injection hs with hs
    simp only [cls]
    rw [if_pos (by omega), if_pos (by omega)]; omega
  | succ k =>
    unfold stB at hs
    rw [cls_s, if_pos (by omega)]
    by_cases g : 0 ≤ dB (f a)
    · rw [if_pos (c := a < n ∧ 0 ≤ dB (f a)) ⟨by omega, g⟩] at hs
      have ed : dB (f a) = ((dN (f a) : Nat) : Int) := by unfold dN; omega
      rw [if_neg (by omega), ed, cls_dig (dN (f a)) k (a + 1) (by omega)]
      by_cases g2 : nd f n (a + 1) (dN (f a)) < dN (f a)
      · rw [if_pos g2] at hs ⊢
        injection hs with hs
        rw [hs]
      · rw [if_neg g2] at hs ⊢
        have hbd := nd_bd (f := f) (n := n) (dN (f a)) (a + 1) (by omega)
        by_cases g3 : a + 1 + dN (f a) < n ∧ f (a + 1 + dN (f a)) = 59
        · rw [if_pos g3] at hs; cases hs
        · rw [if_neg g3] at hs
          injection hs with hs
          obtain ⟨j, hj⟩ : ∃ j, j = k - dN (f a) := ⟨_, rfl⟩
          rw [← hj]
          cases j with
          | zero =>
            simp only [cls]
            rw [if_neg (by omega)]; omega
          | succ j =>
            rw [cls_s, if_neg (by omega), if_neg (by omega), if_neg (fun z => g3 ⟨by omega, z⟩), hs]
    · rw [if_neg (c := a < n ∧ 0 ≤ dB (f a)) (fun z => g z.2)] at hs
      injection hs with hs
      rw [if_pos (by omega), hs]
theorem cls_none {f : Nat → Int} {n a k : Nat} (h : a + k = n) (hs : stB f n a = none) : cls f n k (-1) a = cls f n (k - (dN (f a) + 2)) (-1) (a + dN (f a) + 2) := by
  unfold stB at hs
  by_cases g : a < n ∧ 0 ≤ dB (f a)
  · rw [if_pos g] at hs
    by_cases g2 : nd f n (a + 1) (dN (f a)) < dN (f a)
    · rw [if_pos g2] at hs; cases hs
    · rw [if_neg g2] at hs
      by_cases g3 : a + 1 + dN (f a) < n ∧ f (a + 1 + dN (f a)) = 59
      · obtain ⟨j, hj⟩ : ∃ j, k = j + dN (f a) + 2 := ⟨k - dN (f a) - 2, by omega⟩
        subst hj
        have ed : dB (f a) = ((dN (f a) : Nat) : Int) := by unfold dN; omega
        rw [show j + dN (f a) + 2 = (j + dN (f a) + 1) + 1 by omega]
        rw [cls_s, if_pos (by omega), if_neg (by omega), ed, cls_dig (dN (f a)) _ (a + 1) (by omega), if_neg g2, show j + dN (f a) + 1 - dN (f a) = j + 1 by omega, cls_s, if_neg (by omega), if_neg (by omega), if_pos g3.2, show j + dN (f a) + 1 + 1 - (dN (f a) + 2) = j by omega, show a + dN (f a) + 2 = a + 1 + dN (f a) + 1 by omega]
      · rw [if_neg g3] at hs; cases hs
  · rw [if_neg g] at hs; cases hs
/-- a statement that is as it must be, in its letters -/
def Wf (f : Nat → Int) (n a : Nat) : Prop := a < n ∧ 0 ≤ dB (f a) ∧ (∀ j, j < dN (f a) → 48 ≤ f (a + 1 + j) ∧ f (a + 1 + j) ≤ 57) ∧ a + dN (f a) + 2 ≤ n
theorem stB_wf {f : Nat → Int} {n a : Nat} (hs : stB f n a = none) : Wf f n a ∧ nd f n (a + 1) (dN (f a)) = dN (f a) ∧ f (a + 1 + dN (f a)) = 59 := by
  unfold stB at hs
  by_cases g : a < n ∧ 0 ≤ dB (f a)
  · rw [if_pos g] at hs
    by_cases g2 : nd f n (a + 1) (dN (f a)) < dN (f a)
    · rw [if_pos g2] at hs; cases hs
    · rw [if_neg g2] at hs
      have hle := nd_le (f := f) (n := n) (dN (f a)) (a + 1)
      by_cases g3 : a + 1 + dN (f a) < n ∧ f (a + 1 + dN (f a)) = 59
      · refine ⟨⟨g.1, g.2, fun j hj => ?_, by omega⟩, by omega, g3.2⟩
        exact (nd_ok (n := n) (dN (f a)) (a + 1) (by omega) j hj).2
      · rw [if_neg g3] at hs; cases hs
  · rw [if_neg g] at hs; cases hs
/-- where the i-th statement begins -/
def stN (f : Nat → Int) : Nat → Nat
  | 0 => 0
  | i + 1 => stN f i + dN (f (stN f i)) + 2
theorem cls_step {f : Nat → Int} {n a : Nat} (ha : a < n) (h : cls f n (n - a) (-1) a = -1) : stB f n a = none ∧ cls f n (n - (a + dN (f a) + 2)) (-1) (a + dN (f a) + 2) = -1 := by
  cases hs : stB f n a with
  | some p =>
    rw [cls_some (by omega) (Or.inl (by omega)) hs] at h
    omega
  | none =>
    rw [cls_none (by omega) hs, show n - a - (dN (f a) + 2) = n - (a + dN (f a) + 2) by omega] at h
    exact ⟨rfl, h⟩

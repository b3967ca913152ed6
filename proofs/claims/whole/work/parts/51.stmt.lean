/-! a statement is read in the reference; the loop over them -/
theorem T_stmt {q : Option Nat} {f : Nat → Int} {n a s : Nat} {M : Mem} (hn : n ≤ 96) (ha : a ≤ n) (hs : s ≤ 40) (h21 : M 0 21 = (n : Int)) (h22 : M 0 22 = (a : Int)) (h23 : M 0 23 = 0) (h24 : M 0 24 = (s : Int)) (hf : Lt f n M) {K : Mem → Prop}
    (h : ∀ M', (∀ i, i ≠ 0 → i ≠ 9 → i ≠ 10 → i ≠ 11 → M' i = M i) → (∀ j, j ≠ 22 → j ≠ 23 → j ≠ 24 → M' 0 j = M 0 j) → M' 0 24 = ((s + 1 : Nat) : Int) → (∀ j, j ≠ s → M' 9 j = M 9 j) → (∀ j, j ≠ s → M' 10 j = M 10 j) → (∀ j, j < 4 * s → M' 11 j = M 11 j) →
      ((∃ p : Nat, stB f n a = some p ∧ M' 0 23 = 1 ∧ M' 0 22 = (p : Int)) ∨ (stB f n a = none ∧ M' 0 23 = 0 ∧ M' 0 22 = ((a + dN (f a) + 2 : Nat) : Int) ∧ M' 9 s = (a : Int) ∧ M' 10 s = f a ∧ Tel f a (M' 11) (4 * s))) → K M') : TV i10_readStatement 4 [vr 0] (LM q, M) K := by
  have es : wr (s : Int) = (s : Int) := wr_id (by omega) (by omega)
  have et : ((s : Int)).toNat = s := by omega
  obtain ⟨c, hc⟩ : ∃ c : Int, c = if a < n then f a else -1 := ⟨_, rfl⟩
  have hcI : -1 ≤ c ∧ c ≤ 255 := by
    rw [hc]
    by_cases g : a < n
    · rw [if_pos g]; have := hf a g; omega
    · rw [if_neg g]; omega
  refine V10_readStatement_0 (T_here hn h21 h22 ha hf ?_)
  rw [h22, h23, h24, es, et, ← hc, if_pos wr0, wr_id (x := c) (by omega) (by omega), wr_id (x := 110) (by omega) (by omega), wr_id (x := 112) (by omega) (by omega), wr_id (x := 121) (by omega) (by omega), wr_id (x := 108) (by omega) (by omega)]
  refine ⟨by omega, by omega, ?_⟩
  obtain ⟨X, hX⟩ : ∃ X, X = up (up M 9 s (a : Int)) 10 s c := ⟨_, rfl⟩
  rw [← hX]
  have x0 : X 0 = M 0 := by rw [hX, up_fr (by omega), up_fr (by omega)]
  have xf : ∀ i, i ≠ 9 → i ≠ 10 → X i = M i := fun i i9 i10 => by rw [hX, up_fr i10, up_fr i9]
  have x9 : X 9 s = (a : Int) ∧ ∀ j, j ≠ s → X 9 j = M 9 j := by rw [hX, up_fr (by omega)]; exact ⟨up_eq, fun j hj => up_sl hj⟩
  have x10 : X 10 s = c ∧ ∀ j, j ≠ s → X 10 j = M 10 j := by rw [hX]; exact ⟨up_eq, fun j hj => by rw [up_sl hj, up_fr (by omega)]⟩
  have fin : ∀ (M1 : Mem) (p : Nat) (b : Int), p ≤ n → (b = 0 ∨ b = 1) → M1 0 22 = (p : Int) → M1 0 23 = b → (∀ i, i ≠ 0 → i ≠ 11 → M1 i = X i) → (∀ j, j ≠ 22 → j ≠ 23 → M1 0 j = X 0 j) → (∀ j, j < 4 * s → M1 11 j = M 11 j) →
      (if b = 0 ∧ p < n ∧ f p = 59 then stB f n a = none ∧ p + 1 = a + dN (f a) + 2 ∧ c = f a ∧ Tel f a (M1 11) (4 * s) else stB f n a = some p) →
      TA i10_readStatement 246 [some (vr 0), none, none, none] [] (LM q, M1) (fun rv G' => rv = none ∧ ∃ M', G' = ((LM q, M).1, M') ∧ K M') := by
    intro M1 p b hp hb a22 a23 f1 f2 f11 hif
    refine T_tail hn hp hb (by rw [f2 21 (by omega) (by omega), x0]; exact h21) a22 a23 (fun j hj => by rw [f1 8 (by omega) (by omega), xf 8 (by omega) (by omega)]; exact hf j hj) (fun M' g1 g2 g3 g4 => ⟨rfl, M', rfl, ?_⟩)
    refine h M' (fun i i0 i9 i10 i11 => by rw [g1 i i0, f1 i i0 i11, xf i i9 i10]) (fun j j1 j2 j3 => by rw [g2 j j1 j2 j3, f2 j j1 j2, x0]) (by rw [g3, f2 24 (by omega) (by omega), x0, h24]; omega) (fun j hj => by rw [g1 9 (by omega), f1 9 (by omega) (by omega)]; exact x9.2 j hj) (fun j hj => by rw [g1 10 (by omega), f1 10 (by omega) (by omega)]; exact x10.2 j hj) (fun j hj => by rw [g1 11 (by omega)]; exact f11 j hj) ?_
    by_cases g : b = 0 ∧ p < n ∧ f p = 59
    · rw [if_pos g] at g4 hif
      obtain ⟨k1, k2, k3, k4⟩ := hif
      right
      refine ⟨k1, g4.2, by rw [g4.1, k2], ?_, ?_, ?_⟩
      · rw [g1 9 (by omega), f1 9 (by omega) (by omega)]; exact x9.1
      · rw [g1 10 (by omega), f1 10 (by omega) (by omega), ← k3]; exact x10.1
      · rw [g1 11 (by omega)]; exact k4
    · rw [if_neg g] at g4 hif
      left
      exact ⟨p, hif, g4.2, g4.1⟩
  have i4 : ∀ t : Nat, t ≤ 3 → wr (4 * (s : Int) + (t : Int)) = 4 * (s : Int) + (t : Int) := fun t ht => wr_id (by omega) (by omega)
  have i40 : wr (4 * (s : Int)) = 4 * (s : Int) := wr_id (by omega) (by omega)
  have i41 : wr (4 * (s : Int) + 1) = 4 * (s : Int) + 1 := wr_id (by omega) (by omega)
  have i42 : wr (4 * (s : Int) + 2) = 4 * (s : Int) + 2 := wr_id (by omega) (by omega)
  have i43 : wr (4 * (s : Int) + 3) = 4 * (s : Int) + 3 := wr_id (by omega) (by omega)
  have n0 : (4 * (s : Int)).toNat = 4 * s := by omega
  have n1 : (4 * (s : Int) + 1).toNat = 4 * s + 1 := by omega
  have n2 : (4 * (s : Int) + 2).toNat = 4 * s + 2 := by omega
  have n3 : (4 * (s : Int) + 3).toNat = 4 * s + 3 := by omega
  -- one that begins as it must
  have good : (c = 110 ∨ c = 112 ∨ c = 121 ∨ c = 108) → a < n ∧ c = f a ∧ 0 ≤ dB (f a) := by
    intro hcc
    by_cases g : a < n
    · rw [if_pos g] at hc
      refine ⟨g, hc, ?_⟩
      rw [← hc]; unfold dB
      (repeat' split) <;> omega
    · rw [if_neg g] at hc; omega
  obtain ⟨Y, hY⟩ : ∃ Y, Y = up (up X 0 23 0) 0 22 ((a + 1 : Nat) : Int) := ⟨_, rfl⟩
  have yf : ∀ i, i ≠ 0 → Y i = X i := fun i hi => by rw [hY, up_fr hi, up_fr hi]
  have y0 : ∀ j, j ≠ 22 → j ≠ 23 → Y 0 j = X 0 j := fun j j1 j2 => by rw [hY, up_sl j1, up_sl j2]
  have yP : Pg f n (a + 1) 0 Y := by
    refine ⟨by rw [hY, up_eq]; rfl, by rw [hY, up_sl (by omega), up_eq]; rfl⟩
  have y21 : Y 0 21 = (n : Int) := by rw [y0 21 (by omega) (by omega), x0]; exact h21
  have yL : Lt f n Y := fun j hj => by rw [yf 8 (by omega), xf 8 (by omega) (by omega)]; exact hf j hj
  have eY : ∀ s0 : Int, s0 = 0 → up (up X 0 23 s0) 0 22 (X 0 22 + (if wr s0 = 0 then (1 : Int) else 0)) = Y := by
    intro s0 e
    rw [e, wr0, if_pos rfl, x0, h22, hY]; congr 1
  have y11 : Y 11 = M 11 := by rw [yf 11 (by omega), xf 11 (by omega) (by omega)]
  by_cases c1 : c = 110
  · obtain ⟨g1, g2, g3⟩ := good (Or.inl c1)
    have hd : dN (f a) = 2 := by rw [← g2, c1]; rfl
    rw [if_pos c1]
    refine V10_readStatement_68 ⟨Or.inl wr0, V10_readStatement_88 ?_⟩
    rw [eY 0 rfl, wr_id (x := c) (by omega) (by omega), i40, n0]
    refine ⟨fun _ => ?_, fun z => absurd c1 z⟩
    refine T_rdx (d := 2) hn (by omega) (p0 := a + 1) (D := 0) (by omega) y21 yL yP (fun r1 M1 f1 P1 v1' => ⟨by omega, ?_⟩)
    have hb := nd_bd (f := f) (n := n) 2 (a + 1) (by omega)
    refine fin _ (a + 1 + nd f n (a + 1) 2) _ hb (by split <;> omega) (by rw [up_fr (by omega)]; exact P1.1) (by rw [up_fr (by omega)]; exact P1.2) (fun i i0 i11 => by rw [up_fr i11, f1.1 i i0, yf i i0]) (fun j j1 j2 => by rw [up_fr (by omega), f1.2 j j1 j2, y0 j j1 j2]) (fun j hj => by rw [up_sl (by omega), f1.1 11 (by omega), y11]) (stB_fin g1 g3 hd (fun e => ⟨g2, fun _ => ?_, fun z => ?_, fun z => ?_, fun z => ?_⟩))
    · rw [up_eq, v1' e]; simp only [dval]; unfold v2; rw [show a + 1 + 0 = a + 1 from rfl]; omega
    · omega
    · omega
    · omega
  · by_cases c2 : c = 112
    · obtain ⟨g1, g2, g3⟩ := good (Or.inr (Or.inl c2))
      have hd : dN (f a) = 4 := by rw [← g2, c2]; rfl
      rw [if_neg c1, if_neg (c := c = 121) (by omega), if_pos c2]
      refine V10_readStatement_68 ⟨Or.inl wr0, V10_readStatement_88 ?_⟩
      rw [eY 0 rfl, wr_id (x := c) (by omega) (by omega), i40, n0, i41, n1, i42, n2]
      refine ⟨fun z => absurd z c1, fun _ => ⟨fun _ => ?_, fun z => absurd c2 z⟩⟩
      refine T_rdx (d := 2) hn (by omega) (p0 := a + 1) (D := 0) (by omega) y21 yL yP (fun r1 M1 f1 P1 w1 => ⟨by omega, ?_⟩)
      have P1' : Pg f n (a + 1) (0 + 2) (up M1 11 (4 * s) r1) := ⟨by rw [up_fr (by omega)]; exact P1.1, by rw [up_fr (by omega)]; exact P1.2⟩
      refine T_rdx (d := 1) hn (by omega) (p0 := a + 1) (D := 0 + 2) (by omega) (by rw [up_fr (by omega), f1.2 21 (by omega) (by omega)]; exact y21) (fun j hj => by rw [up_fr (by omega), f1.1 8 (by omega)]; exact yL j hj) P1' (fun r2 M2 f2 P2 w2 => ⟨by omega, ?_⟩)
      have P2' : Pg f n (a + 1) (0 + 2 + 1) (up M2 11 (4 * s + 1) r2) := ⟨by rw [up_fr (by omega)]; exact P2.1, by rw [up_fr (by omega)]; exact P2.2⟩
      refine T_rdx (d := 1) hn (by omega) (p0 := a + 1) (D := 0 + 2 + 1) (by omega) (by rw [up_fr (by omega), f2.2 21 (by omega) (by omega), up_fr (by omega), f1.2 21 (by omega) (by omega)]; exact y21) (fun j hj => by rw [up_fr (by omega), f2.1 8 (by omega), up_fr (by omega), f1.1 8 (by omega)]; exact yL j hj) P2' (fun r3 M3 f3 P3 w3 => ⟨by omega, ?_⟩)
      have hb := nd_bd (f := f) (n := n) 4 (a + 1) (by omega)
      refine fin _ (a + 1 + nd f n (a + 1) 4) _ hb (by split <;> omega) (by rw [up_fr (by omega)]; exact P3.1) (by rw [up_fr (by omega)]; exact P3.2) (fun i i0 i11 => by rw [up_fr i11, f3.1 i i0, up_fr i11, f2.1 i i0, up_fr i11, f1.1 i i0, yf i i0]) (fun j j1 j2 => by rw [up_fr (by omega), f3.2 j j1 j2, up_fr (by omega), f2.2 j j1 j2, up_fr (by omega), f1.2 j j1 j2, y0 j j1 j2]) (fun j hj => by rw [up_sl (by omega), f3.1 11 (by omega), up_sl (by omega), f2.1 11 (by omega), up_sl (by omega), f1.1 11 (by omega), y11]) (stB_fin g1 g3 hd (fun e => ⟨g2, fun z => ?_, fun _ => ?_, fun z => ?_, fun z => ?_⟩))
      · omega
      · have k1 := nd_add (f := f) (n := n) 2 2 (a + 1)
        have k2 := nd_add (f := f) (n := n) 1 3 (a + 1)
        have l1 := nd_le (f := f) (n := n) 2 (a + 1)
        have l2 := nd_le (f := f) (n := n) 2 (a + 1 + 2)
        have l3 := nd_le (f := f) (n := n) 3 (a + 1)
        have l4 := nd_le (f := f) (n := n) 1 (a + 1 + 3)
        rw [show 2 + 2 = 4 from rfl, e] at k1
        rw [show 3 + 1 = 4 from rfl, e] at k2
        have e2 : nd f n (a + 1) (0 + 2) = 0 + 2 := by
          rw [show 0 + 2 = 2 from rfl]
          split at k1 <;> omega
        have e3 : nd f n (a + 1) (0 + 2 + 1) = 0 + 2 + 1 := by
          rw [show 0 + 2 + 1 = 3 from rfl]
          split at k2 <;> omega
        refine ⟨?_, ?_, ?_⟩
        · rw [up_sl (by omega), f3.1 11 (by omega), up_sl (by omega), f2.1 11 (by omega), up_eq, w1 e2]; simp only [dval]; unfold v2; rw [show a + 1 + 0 = a + 1 from rfl]; omega
        · rw [up_sl (by omega), f3.1 11 (by omega), up_eq, w2 e3]; simp only [dval]; unfold v1; rw [show a + 1 + (0 + 2) = a + 3 by omega]; omega
        · rw [up_eq, w3 e]; simp only [dval]; unfold v1; rw [show a + 1 + (0 + 2 + 1) = a + 4 by omega]; omega
      · omega
      · omega
    · by_cases c3 : c = 121
      · obtain ⟨g1, g2, g3⟩ := good (Or.inr (Or.inr (Or.inl c3)))
        have hd : dN (f a) = 5 := by rw [← g2, c3]; rfl
        rw [if_neg c1, if_pos c3]
        refine V10_readStatement_68 ⟨Or.inl wr0, V10_readStatement_88 ?_⟩
        rw [eY 0 rfl, wr_id (x := c) (by omega) (by omega), i40, n0, i41, n1, i42, n2, i43, n3]
        refine ⟨fun z => absurd z c1, fun _ => ⟨fun z => absurd z c2, fun _ => ⟨fun _ => ?_, fun z => absurd c3 z⟩⟩⟩
        refine T_rdx (d := 1) hn (by omega) (p0 := a + 1) (D := 0) (by omega) y21 yL yP (fun r1 M1 f1 P1 w1 => ⟨by omega, ?_⟩)
        have P1' : Pg f n (a + 1) (0 + 1) (up M1 11 (4 * s) r1) := ⟨by rw [up_fr (by omega)]; exact P1.1, by rw [up_fr (by omega)]; exact P1.2⟩
        refine T_rdx (d := 2) hn (by omega) (p0 := a + 1) (D := 0 + 1) (by omega) (by rw [up_fr (by omega), f1.2 21 (by omega) (by omega)]; exact y21) (fun j hj => by rw [up_fr (by omega), f1.1 8 (by omega)]; exact yL j hj) P1' (fun r2 M2 f2 P2 w2 => ⟨by omega, ?_⟩)
        have P2' : Pg f n (a + 1) (0 + 1 + 2) (up M2 11 (4 * s + 1) r2) := ⟨by rw [up_fr (by omega)]; exact P2.1, by rw [up_fr (by omega)]; exact P2.2⟩
        refine T_rdx (d := 1) hn (by omega) (p0 := a + 1) (D := 0 + 1 + 2) (by omega) (by rw [up_fr (by omega), f2.2 21 (by omega) (by omega), up_fr (by omega), f1.2 21 (by omega) (by omega)]; exact y21) (fun j hj => by rw [up_fr (by omega), f2.1 8 (by omega), up_fr (by omega), f1.1 8 (by omega)]; exact yL j hj) P2' (fun r3 M3 f3 P3 w3 => ⟨by omega, ?_⟩)
        have P3' : Pg f n (a + 1) (0 + 1 + 2 + 1) (up M3 11 (4 * s + 2) r3) := ⟨by rw [up_fr (by omega)]; exact P3.1, by rw [up_fr (by omega)]; exact P3.2⟩
        refine T_rdx (d := 1) hn (by omega) (p0 := a + 1) (D := 0 + 1 + 2 + 1) (by omega) (by rw [up_fr (by omega), f3.2 21 (by omega) (by omega), up_fr (by omega), f2.2 21 (by omega) (by omega), up_fr (by omega), f1.2 21 (by omega) (by omega)]; exact y21) (fun j hj => by rw [up_fr (by omega), f3.1 8 (by omega), up_fr (by omega), f2.1 8 (by omega), up_fr (by omega), f1.1 8 (by omega)]; exact yL j hj) P3' (fun r4 M4 f4 P4 w4 => ⟨by omega, ?_⟩)
        have hb := nd_bd (f := f) (n := n) 5 (a + 1) (by omega)
        refine fin _ (a + 1 + nd f n (a + 1) 5) _ hb (by split <;> omega) (by rw [up_fr (by omega)]; exact P4.1) (by rw [up_fr (by omega)]; exact P4.2) (fun i i0 i11 => by rw [up_fr i11, f4.1 i i0, up_fr i11, f3.1 i i0, up_fr i11, f2.1 i i0, up_fr i11, f1.1 i i0, yf i i0]) (fun j j1 j2 => by rw [up_fr (by omega), f4.2 j j1 j2, up_fr (by omega), f3.2 j j1 j2, up_fr (by omega), f2.2 j j1 j2, up_fr (by omega), f1.2 j j1 j2, y0 j j1 j2]) (fun j hj => by rw [up_sl (by omega), f4.1 11 (by omega), up_sl (by omega), f3.1 11 (by omega), up_sl (by omega), f2.1 11 (by omega), up_sl (by omega), f1.1 11 (by omega), y11]) (stB_fin g1 g3 hd (fun e => ⟨g2, fun z => ?_, fun z => ?_, fun _ => ?_, fun z => ?_⟩))
        · omega
        · omega
        · have k1 := nd_add (f := f) (n := n) 4 1 (a + 1)
          have k2 := nd_add (f := f) (n := n) 2 3 (a + 1)
          have k3 := nd_add (f := f) (n := n) 1 4 (a + 1)
          have l1 := nd_le (f := f) (n := n) 1 (a + 1)
          have l2 := nd_le (f := f) (n := n) 4 (a + 1 + 1)
          have l3 := nd_le (f := f) (n := n) 3 (a + 1)
          have l4 := nd_le (f := f) (n := n) 2 (a + 1 + 3)
          have l5 := nd_le (f := f) (n := n) 4 (a + 1)
          have l6 := nd_le (f := f) (n := n) 1 (a + 1 + 4)
          rw [show 1 + 4 = 5 from rfl, e] at k1
          rw [show 3 + 2 = 5 from rfl, e] at k2
          rw [show 4 + 1 = 5 from rfl, e] at k3
          have e1 : nd f n (a + 1) (0 + 1) = 0 + 1 := by
            rw [show 0 + 1 = 1 from rfl]
            split at k1 <;> omega
          have e2 : nd f n (a + 1) (0 + 1 + 2) = 0 + 1 + 2 := by
            rw [show 0 + 1 + 2 = 3 from rfl]
            split at k2 <;> omega
          have e3 : nd f n (a + 1) (0 + 1 + 2 + 1) = 0 + 1 + 2 + 1 := by
            rw [show 0 + 1 + 2 + 1 = 4 from rfl]
            split at k3 <;> omega
          refine ⟨?_, ?_, ?_, ?_⟩
          · rw [up_sl (by omega), f4.1 11 (by omega), up_sl (by omega), f3.1 11 (by omega), up_sl (by omega), f2.1 11 (by omega), up_eq, w1 e1]; simp only [dval]; unfold v1; rw [show a + 1 + 0 = a + 1 from rfl]; omega
          · rw [up_sl (by omega), f4.1 11 (by omega), up_sl (by omega), f3.1 11 (by omega), up_eq, w2 e2]; simp only [dval]; unfold v2; rw [show a + 1 + (0 + 1) = a + 2 by omega]; omega
          · rw [up_sl (by omega), f4.1 11 (by omega), up_eq, w3 e3]; simp only [dval]; unfold v1; rw [show a + 1 + (0 + 1 + 2) = a + 4 by omega]; omega
          · rw [up_eq, w4 e]; simp only [dval]; unfold v1; rw [show a + 1 + (0 + 1 + 2 + 1) = a + 5 by omega]; omega
        · omega
      · by_cases c4 : c = 108
        · obtain ⟨g1, g2, g3⟩ := good (Or.inr (Or.inr (Or.inr c4)))
          have hd : dN (f a) = 1 := by rw [← g2, c4]; rfl
          rw [if_neg c1, if_neg c3, if_neg c2, if_pos c4]
          refine V10_readStatement_68 ⟨Or.inl wr0, V10_readStatement_88 ?_⟩
          rw [eY 0 rfl, wr_id (x := c) (by omega) (by omega), i40, n0]
          refine ⟨fun z => absurd z c1, fun _ => ⟨fun z => absurd z c2, fun _ => ⟨fun z => absurd z c3, fun _ => ?_⟩⟩⟩
          refine T_rdx (d := 1) hn (by omega) (p0 := a + 1) (D := 0) (by omega) y21 yL yP (fun r1 M1 f1 P1 w1 => ⟨by omega, ?_⟩)
          have hb := nd_bd (f := f) (n := n) 1 (a + 1) (by omega)
          refine fin _ (a + 1 + nd f n (a + 1) 1) _ hb (by split <;> omega) (by rw [up_fr (by omega)]; exact P1.1) (by rw [up_fr (by omega)]; exact P1.2) (fun i i0 i11 => by rw [up_fr i11, f1.1 i i0, yf i i0]) (fun j j1 j2 => by rw [up_fr (by omega), f1.2 j j1 j2, y0 j j1 j2]) (fun j hj => by rw [up_sl (by omega), f1.1 11 (by omega), y11]) (stB_fin g1 g3 hd (fun e => ⟨g2, fun z => ?_, fun z => ?_, fun z => ?_, fun _ => ?_⟩))
          · omega
          · omega
          · omega
          · rw [up_eq, w1 e]; simp only [dval]; unfold v1; rw [show a + 1 + 0 = a + 1 from rfl]; omega
        · -- none of the four
          have hbad : stB f n a = some a := by
            unfold stB
            rw [if_neg]
            intro g
            rw [if_pos g.1] at hc
            have := g.2
            rw [← hc] at this
            unfold dB at this
            rw [if_neg c4, if_neg c1, if_neg c2, if_neg c3] at this
            omega
          rw [if_neg c1, if_neg c3, if_neg c2, if_neg c4]
          have e1 : X 0 22 + (if wr 1 = 0 then (1 : Int) else 0) = (a : Int) := by rw [wr1, if_neg (by omega), x0, h22]; omega
          refine V10_readStatement_68 ⟨Or.inr wr1, V10_readStatement_88 ?_⟩
          rw [e1, wr_id (x := c) (by omega) (by omega), i40, n0]
          refine ⟨fun z => absurd z c1, fun _ => ⟨fun z => absurd z c2, fun _ => ⟨fun z => absurd z c3, fun _ => ?_⟩⟩⟩
          refine V10_readDigits_0 (L_rdBad (d := 1) (by omega) (M := up (up X 0 23 1) 0 22 (a : Int)) (by rw [up_sl (by omega), up_eq]) ⟨0, _, rfl, rfl, by omega, ?_⟩ 1 0 rfl)
          refine fin _ a 1 ha (Or.inr rfl) (by rw [up_fr (by omega), up_eq]) (by rw [up_fr (by omega), up_sl (by omega), up_eq]) (fun i i0 i11 => by rw [up_fr i11, up_fr i0, up_fr i0]) (fun j j1 j2 => by rw [up_fr (by omega), up_sl j1, up_sl j2]) (fun j hj => by rw [up_sl (by omega), up_fr (by omega), up_fr (by omega), xf 11 (by omega) (by omega)]) ?_
          rw [if_neg (by omega)]; exact hbad

/-! the reference reads letters -/
def Lt (f : Nat → Int) (n : Nat) (M : Mem) : Prop := ∀ j, j < n → M 8 j = f j ∧ 0 ≤ f j ∧ f j ≤ 255
def v1 (f : Nat → Int) (p : Nat) : Int := f p - 48
def v2 (f : Nat → Int) (p : Nat) : Int := 10 * (f p - 48) + (f (p + 1) - 48)
def Tel (f : Nat → Int) (a : Nat) (g : Nat → Int) (t : Nat) : Prop := (f a = 110 → g t = v2 f (a + 1)) ∧ (f a = 112 → g t = v2 f (a + 1) ∧ g (t + 1) = v1 f (a + 3) ∧ g (t + 2) = v1 f (a + 4)) ∧ (f a = 121 → g t = v1 f (a + 1) ∧ g (t + 1) = v2 f (a + 2) ∧ g (t + 2) = v1 f (a + 4) ∧ g (t + 3) = v1 f (a + 5)) ∧ (f a = 108 → g t = v1 f (a + 1))
theorem T_here {q : Option Nat} {f : Nat → Int} {n p : Nat} (hn : n ≤ 96) {M : Mem} (h21 : M 0 21 = (n : Int)) (h22 : M 0 22 = (p : Int)) (hp : p ≤ n) (hf : Lt f n M) {K : Int → Mem → Prop} (h : K (if p < n then f p else -1) M) : TI i10_here 1 [vr 0] (LM q, M) K := by
  have ep : ((p : Int)).toNat = p := by omega
  refine V10_here_0 ?_
  rw [h21, h22, wr_id (x := (p : Int)) (by omega) (by omega), wr_id (x := (n : Int)) (by omega) (by omega), ep]
  refine ⟨fun z => ⟨by omega, _, M, ?_, rfl, h⟩, fun z => ⟨_, M, ?_, rfl, h⟩⟩
  · rw [if_pos (by omega), (hf p (by omega)).1]
  · rw [if_neg (by omega)]
def FrD (M M' : Mem) : Prop := (∀ i, i ≠ 0 → M' i = M i) ∧ (∀ j, j ≠ 22 → j ≠ 23 → M' 0 j = M 0 j)
theorem FrD.rf (M : Mem) : FrD M M := ⟨fun _ _ => rfl, fun _ _ _ => rfl⟩
theorem L_rdBad {q : Option Nat} {d : Nat} (hd : d ≤ 9) {M : Mem} (h23 : M 0 23 = 1) {Post : Option AV → GM → Prop} (h : Post (some (vi 0)) (LM q, M)) : ∀ (k i : Nat), i + k = d → TA i10_readDigits 4 [some (vr 0), some (vi (d : Int)), some (vi 0), some (vi (i : Int))] [] (LM q, M) Post
  | 0, i, hi => by
    refine V10_readDigits_4 ⟨fun z => ?_, fun _ => h⟩
    rw [wlt (by omega) (by omega) (by omega) (by omega)] at z; omega
  | k + 1, i, hi => by
    refine V10_readDigits_4 ⟨fun _ => ⟨fun z => ?_, fun _ => V10_readDigits_39 ⟨Or.inr wr1, fun z => ?_, fun _ => V10_readDigits_88 ?_⟩⟩, fun z => ?_⟩
    · rw [h23, wr1] at z; omega
    · rw [wr1] at z; omega
    · have e1 : M 0 22 + (if wr 1 = 0 then (1 : Int) else 0) = M 0 22 := by rw [wr1, if_neg (by omega)]; omega
      rw [e1, up_idv h23, up_id]
      have ih := L_rdBad (q := q) hd h23 h k (i + 1) (by omega)
      have e5 : ((i + 1 : Nat) : Int) = (i : Int) + 1 := by omega
      rw [e5] at ih
      exact ih
    · rw [wlt (by omega) (by omega) (by omega) (by omega)] at z; omega
def dval (v : Int) (f : Nat → Int) (p : Nat) : Nat → Int
  | 0 => v
  | d + 1 => dval (10 * v + f p - 48) f (p + 1) d
theorem L_rd {q : Option Nat} {f : Nat → Int} {n : Nat} (hn : n ≤ 96) {d : Nat} (hd : d ≤ 9) {K : Int → Mem → Prop} : ∀ (k i : Nat) (v : Int) (p : Nat) (M : Mem), i + k = d → p ≤ n → M 0 21 = (n : Int) → M 0 22 = (p : Int) → M 0 23 = 0 → Lt f n M →
    (∀ M', FrD M M' → M' 0 22 = ((p + nd f n p k : Nat) : Int) → M' 0 23 = (if nd f n p k < k then 1 else 0) → K (if nd f n p k < k then 0 else dval v f p k) M') →
    TA i10_readDigits 4 [some (vr 0), some (vi (d : Int)), some (vi v), some (vi (i : Int))] [] (LM q, M) (fun rv G' => ∃ r M', rv = some (vi r) ∧ G' = (LM q, M') ∧ K r M')
  | 0, i, v, p, M, hi, hp, h21, h22, h23, hf, h => by
    refine V10_readDigits_4 ⟨fun z => ?_, fun _ => ⟨_, M, ?_, rfl, h M (FrD.rf M) (by rw [h22]; rfl) (by rw [h23]; rfl)⟩⟩
    · rw [wlt (by omega) (by omega) (by omega) (by omega)] at z; omega
    · rw [if_neg (by omega)]; rfl
  | k + 1, i, v, p, M, hi, hp, h21, h22, h23, hf, h => by
    have ep : (wr (p : Int)).toNat = p := by rw [wr_id (by omega) (by omega)]; omega
    have ep2 : wr (p : Int) = (p : Int) := wr_id (by omega) (by omega)
    have e5 : ((i + 1 : Nat) : Int) = (i : Int) + 1 := by omega
    by_cases g : p < n ∧ 48 ≤ f p ∧ f p ≤ 57
    · rw [nd_y _ g] at h
      refine V10_readDigits_4 ⟨fun _ => ⟨fun _ => T_here hn h21 h22 hp hf ?_, fun z => ?_⟩, fun z => ?_⟩
      · have e0 : (if wr (f10_in (wr (if p < n then f p else -1)) 48 57) = 0 then (1 : Int) else 0) = 0 := by
          rw [if_pos g.1, wr_id (x := f p) (by omega) (by omega), in_eq (by unfold IR; omega) (by unfold IR; omega) (by unfold IR; omega), if_pos (c := 48 ≤ f p ∧ f p ≤ 57) g.2, if_neg (by rw [wr1]; omega)]
        rw [e0]
        refine V10_readDigits_39 ⟨Or.inl wr0, fun _ => ⟨?_, V10_readDigits_88 ?_⟩, fun z => absurd wr0 z⟩
        · rw [h22, ep2]; omega
        · have e1 : M 0 22 + (if wr 0 = 0 then (1 : Int) else 0) = ((p + 1 : Nat) : Int) := by rw [wr0, if_pos rfl, h22]; omega
          rw [e1, h22, ep, (hf p g.1).1, up_idv h23]
          have ih := L_rd (q := q) hn hd (K := K) k (i + 1) (10 * v + f p - 48) (p + 1) (up M 0 22 ((p + 1 : Nat) : Int)) (by omega) (by omega) (by rw [up_sl (by omega)]; exact h21) up_eq (by rw [up_sl (by omega)]; exact h23) (fun j hj => by rw [up_fr (by omega)]; exact hf j hj) (fun M' f1 a1 a2 => ?_)
          · rw [e5] at ih; exact ih
          · by_cases g2 : nd f n (p + 1) k < k
            · have h' := h M' ⟨fun i hi => by rw [f1.1 i hi, up_fr hi], fun j j1 j2 => by rw [f1.2 j j1 j2, up_sl j1]⟩ (by rw [a1]; omega) (by rw [a2, if_pos g2, if_pos (by omega)])
              rw [if_pos (by omega)] at h'
              rw [if_pos g2]; exact h'
            · have h' := h M' ⟨fun i hi => by rw [f1.1 i hi, up_fr hi], fun j j1 j2 => by rw [f1.2 j j1 j2, up_sl j1]⟩ (by rw [a1]; omega) (by rw [a2, if_neg g2, if_neg (by omega)])
              rw [if_neg (by omega)] at h'
              rw [if_neg g2]; exact h'
      · rw [h23] at z; exact absurd wr0 z
      · rw [wlt (by omega) (by omega) (by omega) (by omega)] at z; omega
    · rw [nd_n _ g] at h
      refine V10_readDigits_4 ⟨fun _ => ⟨fun _ => T_here hn h21 h22 hp hf ?_, fun z => ?_⟩, fun z => ?_⟩
      · have e0 : (if wr (f10_in (wr (if p < n then f p else -1)) 48 57) = 0 then (1 : Int) else 0) = 1 := by
          by_cases g1 : p < n
          · obtain ⟨-, b1, b2⟩ := hf p g1
            rw [if_pos g1, wr_id (x := f p) (by omega) (by omega), in_eq (by unfold IR; omega) (by unfold IR; omega) (by unfold IR; omega), if_neg (c := 48 ≤ f p ∧ f p ≤ 57) (fun z => g ⟨g1, z⟩), if_pos wr0]
          · rw [if_neg g1, wr_id (x := -1) (by omega) (by omega), in_eq (by unfold IR; omega) (by unfold IR; omega) (by unfold IR; omega), if_neg (c := (48 : Int) ≤ -1 ∧ (-1 : Int) ≤ 57) (by omega), if_pos wr0]
        rw [e0]
        refine V10_readDigits_39 ⟨Or.inr wr1, fun z => ?_, fun _ => V10_readDigits_88 ?_⟩
        · rw [wr1] at z; omega
        · have e1 : M 0 22 + (if wr 1 = 0 then (1 : Int) else 0) = (p : Int) := by rw [wr1, if_neg (by omega), h22]; omega
          rw [e1]
          have h' := h (up (up M 0 23 1) 0 22 (p : Int)) ⟨fun i hi => by rw [up_fr hi, up_fr hi], fun j j1 j2 => by rw [up_sl j1, up_sl j2]⟩ up_eq (by rw [up_sl (by omega), up_eq, if_pos (by omega)])
          rw [if_pos (by omega)] at h'
          have ih := L_rdBad (q := q) hd (M := up (up M 0 23 1) 0 22 (p : Int)) (by rw [up_sl (by omega), up_eq]) (Post := fun rv G' => ∃ r M', rv = some (vi r) ∧ G' = (LM q, M') ∧ K r M') ⟨_, _, rfl, rfl, h'⟩ k (i + 1) (by omega)
          rw [e5] at ih; exact ih
      · rw [h23] at z; exact absurd wr0 z
      · rw [wlt (by omega) (by omega) (by omega) (by omega)] at z; omega
/-- D digits have been asked for, from p0 on -/
def Pg (f : Nat → Int) (n p0 D : Nat) (M : Mem) : Prop := M 0 22 = ((p0 + nd f n p0 D : Nat) : Int) ∧ M 0 23 = (if nd f n p0 D < D then 1 else 0)
theorem T_rdx {q : Option Nat} {f : Nat → Int} {n : Nat} (hn : n ≤ 96) {d : Nat} (hd : d ≤ 9) {p0 D : Nat} {M : Mem} (hp : p0 ≤ n) (h21 : M 0 21 = (n : Int)) (hf : Lt f n M) (hP : Pg f n p0 D M) {K : Int → Mem → Prop}
    (h : ∀ r M', FrD M M' → Pg f n p0 (D + d) M' → (nd f n p0 (D + d) = D + d → r = dval 0 f (p0 + D) d) → K r M') : TI i10_readDigits 4 [vr 0, vi (d : Int)] (LM q, M) K := by
  obtain ⟨q1, q2⟩ := hP
  have ha := nd_add (f := f) (n := n) d D p0
  have hb := nd_bd (f := f) (n := n) D p0 hp
  by_cases g : nd f n p0 D < D
  · rw [if_pos g] at q2 ha
    refine V10_readDigits_0 (L_rdBad hd q2 ⟨0, M, rfl, rfl, h 0 M (FrD.rf M) ⟨by rw [q1, ha], by rw [q2, ha, if_pos (by omega)]⟩ (fun z => by omega)⟩ d 0 (by omega))
  · have hle := nd_le (f := f) (n := n) D p0
    have eD : nd f n p0 D = D := by omega
    rw [if_neg g] at q2 ha
    rw [eD] at q1 hb
    refine V10_readDigits_0 (L_rd hn hd d 0 0 (p0 + D) M (by omega) hb h21 q1 q2 hf (fun M' f1 a1 a2 => h _ M' f1 ⟨by rw [a1, ha]; congr 1; omega, ?_⟩ (fun z => ?_)))
    · rw [a2, ha]
      by_cases g2 : nd f n (p0 + D) d < d
      · rw [if_pos g2, if_pos (by omega)]
      · rw [if_neg g2, if_neg (by omega)]
    · rw [if_neg (by omega)]
theorem T_tail {q : Option Nat} {f : Nat → Int} {n : Nat} (hn : n ≤ 96) {p : Nat} (hp : p ≤ n) {b : Int} (hb : b = 0 ∨ b = 1) {M : Mem} (h21 : M 0 21 = (n : Int)) (h22 : M 0 22 = (p : Int)) (h23 : M 0 23 = b) (hf : Lt f n M) {Post : Option AV → GM → Prop}
    (h : ∀ M', (∀ i, i ≠ 0 → M' i = M i) → (∀ j, j ≠ 22 → j ≠ 23 → j ≠ 24 → M' 0 j = M 0 j) → M' 0 24 = M 0 24 + 1 → (if b = 0 ∧ p < n ∧ f p = 59 then M' 0 22 = ((p + 1 : Nat) : Int) ∧ M' 0 23 = 0 else M' 0 22 = (p : Int) ∧ M' 0 23 = 1) → Post none (LM q, M')) :
    TA i10_readStatement 246 [some (vr 0), none, none, none] [] (LM q, M) Post := by
  have go : ∀ s0 : Int, (b = 0 ∧ p < n ∧ f p = 59 ∧ s0 = 0 ∨ ¬ (b = 0 ∧ p < n ∧ f p = 59) ∧ s0 = 1) → TA i10_readStatement 268 [some (vr 0), none, none, none] [vi s0, vr 0] (LM q, M) Post := by
    intro s0 hs
    rcases hs with ⟨c1, c2, c3, rfl⟩ | ⟨c1, rfl⟩
    · have e1 : M 0 22 + (if wr 0 = 0 then (1 : Int) else 0) = ((p + 1 : Nat) : Int) := by rw [wr0, if_pos rfl, h22]; omega
      refine V10_readStatement_268 ⟨Or.inl wr0, V10_readStatement_288 ?_⟩
      rw [e1]
      refine h _ (fun i hi => by rw [up_fr hi, up_fr hi, up_fr hi]) (fun j j1 j2 j3 => by rw [up_sl j3, up_sl j1, up_sl j2]) (by rw [up_eq, up_sl (by omega)]) ?_
      rw [if_pos ⟨c1, c2, c3⟩, up_sl (by omega), up_eq, up_sl (by omega), up_sl (by omega), up_eq]
      exact ⟨rfl, rfl⟩
    · have e1 : M 0 22 + (if wr 1 = 0 then (1 : Int) else 0) = (p : Int) := by rw [wr1, if_neg (by omega), h22]; omega
      refine V10_readStatement_268 ⟨Or.inr wr1, V10_readStatement_288 ?_⟩
      rw [e1]
      refine h _ (fun i hi => by rw [up_fr hi, up_fr hi, up_fr hi]) (fun j j1 j2 j3 => by rw [up_sl j3, up_sl j1, up_sl j2]) (by rw [up_eq, up_sl (by omega)]) ?_
      rw [if_neg c1, up_sl (by omega), up_eq, up_sl (by omega), up_sl (by omega), up_eq]
      exact ⟨rfl, rfl⟩
  refine V10_readStatement_246 ⟨fun z => ?_, fun z => ?_⟩
  · have hb0 : b = 0 := by
      rcases hb with e | e
      · exact e
      · rw [h23, e, wr1] at z; omega
    refine T_here hn h21 h22 hp hf (go _ ?_)
    by_cases g : p < n
    · obtain ⟨-, b1, b2⟩ := hf p g
      rw [if_pos g, wr_id (x := f p) (by omega) (by omega), wr_id (x := 59) (by omega) (by omega)]
      by_cases g2 : f p = 59
      · rw [if_pos g2]; exact Or.inl ⟨hb0, g, g2, rfl⟩
      · rw [if_neg g2]; exact Or.inr ⟨fun z => g2 z.2.2, rfl⟩
    · rw [if_neg g, wr_id (x := -1) (by omega) (by omega), wr_id (x := 59) (by omega) (by omega), if_neg (by omega)]
      exact Or.inr ⟨fun z => g z.2.1, rfl⟩
  · have hb1 : b = 1 := by
      rcases hb with e | e
      · rw [h23, e] at z; exact absurd wr0 z
      · exact e
    exact go 1 (Or.inr ⟨fun z => by omega, rfl⟩)
theorem stB_fin {f : Nat → Int} {n a d : Nat} (ha : a < n) (hb : 0 ≤ dB (f a)) (hd : dN (f a) = d) {T : Prop} (hT : nd f n (a + 1) d = d → T) :
    if (if nd f n (a + 1) d < d then (1 : Int) else 0) = 0 ∧ a + 1 + nd f n (a + 1) d < n ∧ f (a + 1 + nd f n (a + 1) d) = 59 then stB f n a = none ∧ a + 1 + nd f n (a + 1) d + 1 = a + dN (f a) + 2 ∧ T else stB f n a = some (a + 1 + nd f n (a + 1) d) := by
  have hle := nd_le (f := f) (n := n) d (a + 1)
  unfold stB
  rw [if_pos (c := a < n ∧ 0 ≤ dB (f a)) ⟨ha, hb⟩, hd]
  by_cases g : nd f n (a + 1) d < d
  · rw [if_pos g, if_pos g, if_neg (by omega)]
  · have e : nd f n (a + 1) d = d := by omega
    rw [if_neg g, if_neg g, e]
    by_cases g2 : a + 1 + d < n ∧ f (a + 1 + d) = 59
    · rw [if_pos ⟨rfl, g2⟩, if_pos g2]; exact ⟨rfl, by omega, hT e⟩
    · rw [if_neg (fun z => g2 z.2), if_neg g2]

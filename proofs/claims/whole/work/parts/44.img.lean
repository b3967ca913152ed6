/-! a field becomes another; image, restore: both sides answer alike -/
theorem L_bc_9_2 {M0 : Mem} {K : Mem → Prop} (h : ∀ M', (∀ i, i ≠ 10 → M' i = M0 i) → (∀ j, j < 40 → M' 10 j = M0 3 j) → K M') : ∀ (k m : Nat) (M : Mem), m + k = 40 → (∀ i, i ≠ 10 → M i = M0 i) → (∀ j, j < m → M 10 j = M0 3 j) →
    TA i0_becomes 2 [some (vr 9), some (vr 2), some (vi (m : Int))] [] (LC, M) (fun rv G' => rv = none ∧ ∃ M', G' = (LC, M') ∧ K M')
  | 0, m, M, hm, hf, hd => by
    have e : m = 40 := by omega
    subst e
    exact W0_becomes_2_9_2 ⟨fun z => absurd z (by decide), fun _ => ⟨rfl, M, rfl, h M hf hd⟩⟩
  | k + 1, m, M, hm, hf, hd => by
    have em : wr (m : Int) = (m : Int) := wr_id (by omega) (by omega)
    have en : ((m : Int)).toNat = m := by omega
    have e1 : ((m + 1 : Nat) : Int) = (m : Int) + 1 := by omega
    refine W0_becomes_2_9_2 ⟨fun _ => ⟨by omega, ?_⟩, fun z => ?_⟩
    · rw [rd_in (by omega) (by omega) (by omega), em, en, hf 3 (by omega)]
      have ih := L_bc_9_2 h k (m + 1) (up M 10 m (M0 3 m)) (by omega) (fun i hi => by rw [up_fr hi]; exact hf i hi) (fun j hj => by
        by_cases ej : j = m
        · rw [ej, up_eq]
        · rw [up_sl ej]; exact hd j (by omega))
      rw [e1] at ih; exact ih
    · rw [em, wr_id (by omega) (by omega)] at z; omega
theorem L_bc_11_4 {M0 : Mem} {K : Mem → Prop} (h : ∀ M', (∀ i, i ≠ 12 → M' i = M0 i) → (∀ j, j < 40 → M' 12 j = M0 5 j) → K M') : ∀ (k m : Nat) (M : Mem), m + k = 40 → (∀ i, i ≠ 12 → M i = M0 i) → (∀ j, j < m → M 12 j = M0 5 j) →
    TA i0_becomes 2 [some (vr 11), some (vr 4), some (vi (m : Int))] [] (LC, M) (fun rv G' => rv = none ∧ ∃ M', G' = (LC, M') ∧ K M')
  | 0, m, M, hm, hf, hd => by
    have e : m = 40 := by omega
    subst e
    exact W0_becomes_2_11_4 ⟨fun z => absurd z (by decide), fun _ => ⟨rfl, M, rfl, h M hf hd⟩⟩
  | k + 1, m, M, hm, hf, hd => by
    have em : wr (m : Int) = (m : Int) := wr_id (by omega) (by omega)
    have en : ((m : Int)).toNat = m := by omega
    have e1 : ((m + 1 : Nat) : Int) = (m : Int) + 1 := by omega
    refine W0_becomes_2_11_4 ⟨fun _ => ⟨by omega, ?_⟩, fun z => ?_⟩
    · rw [rd_in (by omega) (by omega) (by omega), em, en, hf 5 (by omega)]
      have ih := L_bc_11_4 h k (m + 1) (up M 12 m (M0 5 m)) (by omega) (fun i hi => by rw [up_fr hi]; exact hf i hi) (fun j hj => by
        by_cases ej : j = m
        · rw [ej, up_eq]
        · rw [up_sl ej]; exact hd j (by omega))
      rw [e1] at ih; exact ih
    · rw [em, wr_id (by omega) (by omega)] at z; omega
theorem L_bc_13_6 {M0 : Mem} {K : Mem → Prop} (h : ∀ M', (∀ i, i ≠ 14 → M' i = M0 i) → (∀ j, j < 18 → M' 14 j = M0 7 j) → K M') : ∀ (k m : Nat) (M : Mem), m + k = 18 → (∀ i, i ≠ 14 → M i = M0 i) → (∀ j, j < m → M 14 j = M0 7 j) →
    TA i0_becomes 2 [some (vr 13), some (vr 6), some (vi (m : Int))] [] (LC, M) (fun rv G' => rv = none ∧ ∃ M', G' = (LC, M') ∧ K M')
  | 0, m, M, hm, hf, hd => by
    have e : m = 18 := by omega
    subst e
    exact W0_becomes_2_13_6 ⟨fun z => absurd z (by decide), fun _ => ⟨rfl, M, rfl, h M hf hd⟩⟩
  | k + 1, m, M, hm, hf, hd => by
    have em : wr (m : Int) = (m : Int) := wr_id (by omega) (by omega)
    have en : ((m : Int)).toNat = m := by omega
    have e1 : ((m + 1 : Nat) : Int) = (m : Int) + 1 := by omega
    refine W0_becomes_2_13_6 ⟨fun _ => ⟨by omega, ?_⟩, fun z => ?_⟩
    · rw [rd_in (by omega) (by omega) (by omega), em, en, hf 7 (by omega)]
      have ih := L_bc_13_6 h k (m + 1) (up M 14 m (M0 7 m)) (by omega) (fun i hi => by rw [up_fr hi]; exact hf i hi) (fun j hj => by
        by_cases ej : j = m
        · rw [ej, up_eq]
        · rw [up_sl ej]; exact hd j (by omega))
      rw [e1] at ih; exact ih
    · rw [em, wr_id (by omega) (by omega)] at z; omega
theorem T_bc_9_2 {M : Mem} {K : Mem → Prop} (h : ∀ M', (∀ i, i ≠ 10 → M' i = M i) → (∀ j, j < 40 → M' 10 j = M 3 j) → K M') : TV i0_becomes 3 [vr 9, vr 2] (LC, M) K := W0_becomes_0_9_2 (L_bc_9_2 h 40 0 M rfl (fun _ _ => rfl) (fun j hj => absurd hj (by omega)))
theorem T_bc_11_4 {M : Mem} {K : Mem → Prop} (h : ∀ M', (∀ i, i ≠ 12 → M' i = M i) → (∀ j, j < 40 → M' 12 j = M 5 j) → K M') : TV i0_becomes 3 [vr 11, vr 4] (LC, M) K := W0_becomes_0_11_4 (L_bc_11_4 h 40 0 M rfl (fun _ _ => rfl) (fun j hj => absurd hj (by omega)))
theorem T_bc_13_6 {M : Mem} {K : Mem → Prop} (h : ∀ M', (∀ i, i ≠ 14 → M' i = M i) → (∀ j, j < 18 → M' 14 j = M 7 j) → K M') : TV i0_becomes 3 [vr 13, vr 6] (LC, M) K := W0_becomes_0_13_6 (L_bc_13_6 h 18 0 M rfl (fun _ _ => rfl) (fun j hj => absurd hj (by omega)))
theorem T_fb_8_1 {G : FS} {M : Mem} (hR : RCf G M 1) {K : Mem → Prop} (h : ∀ M', (∀ i, i ≠ 8 → i ≠ 10 → i ≠ 12 → i ≠ 14 → M' i = M i) → RCf G M' 8 → K M') : TV i3_becomes 2 [vr 8, vr 1] (LC, M) K := by
  obtain ⟨h1, h2, h3, h4, h5, h6⟩ := hR
  refine W3_becomes_0_8_1 (T_bc_9_2 (fun M1 f1 d1 => T_bc_11_4 (fun M2 f2 d2 => T_bc_13_6 (fun M3 f3 d3 => ⟨rfl, M3, rfl, h M3 (fun i ia i2 i4 i6 => by rw [f3 i i6, f2 i i4, f1 i i2, up_fr ia, up_fr ia, up_fr ia]) ⟨?_, ?_, ?_, fun i hi => ?_, fun i hi => ?_, fun p hp => ?_⟩⟩))))
  · rw [f3 8 (by omega), f2 8 (by omega), f1 8 (by omega), up_sl (by omega), up_sl (by omega), up_eq]; exact h1
  · rw [f3 8 (by omega), f2 8 (by omega), f1 8 (by omega), up_sl (by omega), up_eq]; exact h2
  · rw [f3 8 (by omega), f2 8 (by omega), f1 8 (by omega), up_eq]; exact h3
  · show M3 10 i = _
    rw [f3 10 (by omega), f2 10 (by omega), d1 i hi, up_fr (by omega), up_fr (by omega), up_fr (by omega)]; exact h4 i hi
  · show M3 12 i = _
    rw [f3 12 (by omega), d2 i hi, f1 5 (by omega), up_fr (by omega), up_fr (by omega), up_fr (by omega)]; exact h5 i hi
  · show M3 14 (3 * p) = _ ∧ M3 14 (3 * p + 1) = _ ∧ M3 14 (3 * p + 2) = _
    rw [d3 _ (by omega), d3 _ (by omega), d3 _ (by omega), f2 7 (by omega), f1 7 (by omega), up_fr (by omega), up_fr (by omega), up_fr (by omega)]; exact h6 p hp
theorem L_bc_2_9 {M0 : Mem} {K : Mem → Prop} (h : ∀ M', (∀ i, i ≠ 3 → M' i = M0 i) → (∀ j, j < 40 → M' 3 j = M0 10 j) → K M') : ∀ (k m : Nat) (M : Mem), m + k = 40 → (∀ i, i ≠ 3 → M i = M0 i) → (∀ j, j < m → M 3 j = M0 10 j) →
    TA i0_becomes 2 [some (vr 2), some (vr 9), some (vi (m : Int))] [] (LC, M) (fun rv G' => rv = none ∧ ∃ M', G' = (LC, M') ∧ K M')
  | 0, m, M, hm, hf, hd => by
    have e : m = 40 := by omega
    subst e
    exact W0_becomes_2_2_9 ⟨fun z => absurd z (by decide), fun _ => ⟨rfl, M, rfl, h M hf hd⟩⟩
  | k + 1, m, M, hm, hf, hd => by
    have em : wr (m : Int) = (m : Int) := wr_id (by omega) (by omega)
    have en : ((m : Int)).toNat = m := by omega
    have e1 : ((m + 1 : Nat) : Int) = (m : Int) + 1 := by omega
    refine W0_becomes_2_2_9 ⟨fun _ => ⟨by omega, ?_⟩, fun z => ?_⟩
    · rw [rd_in (by omega) (by omega) (by omega), em, en, hf 10 (by omega)]
      have ih := L_bc_2_9 h k (m + 1) (up M 3 m (M0 10 m)) (by omega) (fun i hi => by rw [up_fr hi]; exact hf i hi) (fun j hj => by
        by_cases ej : j = m
        · rw [ej, up_eq]
        · rw [up_sl ej]; exact hd j (by omega))
      rw [e1] at ih; exact ih
    · rw [em, wr_id (by omega) (by omega)] at z; omega
theorem L_bc_4_11 {M0 : Mem} {K : Mem → Prop} (h : ∀ M', (∀ i, i ≠ 5 → M' i = M0 i) → (∀ j, j < 40 → M' 5 j = M0 12 j) → K M') : ∀ (k m : Nat) (M : Mem), m + k = 40 → (∀ i, i ≠ 5 → M i = M0 i) → (∀ j, j < m → M 5 j = M0 12 j) →
    TA i0_becomes 2 [some (vr 4), some (vr 11), some (vi (m : Int))] [] (LC, M) (fun rv G' => rv = none ∧ ∃ M', G' = (LC, M') ∧ K M')
  | 0, m, M, hm, hf, hd => by
    have e : m = 40 := by omega
    subst e
    exact W0_becomes_2_4_11 ⟨fun z => absurd z (by decide), fun _ => ⟨rfl, M, rfl, h M hf hd⟩⟩
  | k + 1, m, M, hm, hf, hd => by
    have em : wr (m : Int) = (m : Int) := wr_id (by omega) (by omega)
    have en : ((m : Int)).toNat = m := by omega
    have e1 : ((m + 1 : Nat) : Int) = (m : Int) + 1 := by omega
    refine W0_becomes_2_4_11 ⟨fun _ => ⟨by omega, ?_⟩, fun z => ?_⟩
    · rw [rd_in (by omega) (by omega) (by omega), em, en, hf 12 (by omega)]
      have ih := L_bc_4_11 h k (m + 1) (up M 5 m (M0 12 m)) (by omega) (fun i hi => by rw [up_fr hi]; exact hf i hi) (fun j hj => by
        by_cases ej : j = m
        · rw [ej, up_eq]
        · rw [up_sl ej]; exact hd j (by omega))
      rw [e1] at ih; exact ih
    · rw [em, wr_id (by omega) (by omega)] at z; omega
theorem L_bc_6_13 {M0 : Mem} {K : Mem → Prop} (h : ∀ M', (∀ i, i ≠ 7 → M' i = M0 i) → (∀ j, j < 18 → M' 7 j = M0 14 j) → K M') : ∀ (k m : Nat) (M : Mem), m + k = 18 → (∀ i, i ≠ 7 → M i = M0 i) → (∀ j, j < m → M 7 j = M0 14 j) →
    TA i0_becomes 2 [some (vr 6), some (vr 13), some (vi (m : Int))] [] (LC, M) (fun rv G' => rv = none ∧ ∃ M', G' = (LC, M') ∧ K M')
  | 0, m, M, hm, hf, hd => by
    have e : m = 18 := by omega
    subst e
    exact W0_becomes_2_6_13 ⟨fun z => absurd z (by decide), fun _ => ⟨rfl, M, rfl, h M hf hd⟩⟩
  | k + 1, m, M, hm, hf, hd => by
    have em : wr (m : Int) = (m : Int) := wr_id (by omega) (by omega)
    have en : ((m : Int)).toNat = m := by omega
    have e1 : ((m + 1 : Nat) : Int) = (m : Int) + 1 := by omega
    refine W0_becomes_2_6_13 ⟨fun _ => ⟨by omega, ?_⟩, fun z => ?_⟩
    · rw [rd_in (by omega) (by omega) (by omega), em, en, hf 14 (by omega)]
      have ih := L_bc_6_13 h k (m + 1) (up M 7 m (M0 14 m)) (by omega) (fun i hi => by rw [up_fr hi]; exact hf i hi) (fun j hj => by
        by_cases ej : j = m
        · rw [ej, up_eq]
        · rw [up_sl ej]; exact hd j (by omega))
      rw [e1] at ih; exact ih
    · rw [em, wr_id (by omega) (by omega)] at z; omega
theorem T_bc_2_9 {M : Mem} {K : Mem → Prop} (h : ∀ M', (∀ i, i ≠ 3 → M' i = M i) → (∀ j, j < 40 → M' 3 j = M 10 j) → K M') : TV i0_becomes 3 [vr 2, vr 9] (LC, M) K := W0_becomes_0_2_9 (L_bc_2_9 h 40 0 M rfl (fun _ _ => rfl) (fun j hj => absurd hj (by omega)))
theorem T_bc_4_11 {M : Mem} {K : Mem → Prop} (h : ∀ M', (∀ i, i ≠ 5 → M' i = M i) → (∀ j, j < 40 → M' 5 j = M 12 j) → K M') : TV i0_becomes 3 [vr 4, vr 11] (LC, M) K := W0_becomes_0_4_11 (L_bc_4_11 h 40 0 M rfl (fun _ _ => rfl) (fun j hj => absurd hj (by omega)))
theorem T_bc_6_13 {M : Mem} {K : Mem → Prop} (h : ∀ M', (∀ i, i ≠ 7 → M' i = M i) → (∀ j, j < 18 → M' 7 j = M 14 j) → K M') : TV i0_becomes 3 [vr 6, vr 13] (LC, M) K := W0_becomes_0_6_13 (L_bc_6_13 h 18 0 M rfl (fun _ _ => rfl) (fun j hj => absurd hj (by omega)))
theorem T_fb_1_8 {G : FS} {M : Mem} (hR : RCf G M 8) {K : Mem → Prop} (h : ∀ M', (∀ i, i ≠ 1 → i ≠ 3 → i ≠ 5 → i ≠ 7 → M' i = M i) → RCf G M' 1 → K M') : TV i3_becomes 2 [vr 1, vr 8] (LC, M) K := by
  obtain ⟨h1, h2, h3, h4, h5, h6⟩ := hR
  refine W3_becomes_0_1_8 (T_bc_2_9 (fun M1 f1 d1 => T_bc_4_11 (fun M2 f2 d2 => T_bc_6_13 (fun M3 f3 d3 => ⟨rfl, M3, rfl, h M3 (fun i ia i2 i4 i6 => by rw [f3 i i6, f2 i i4, f1 i i2, up_fr ia, up_fr ia, up_fr ia]) ⟨?_, ?_, ?_, fun i hi => ?_, fun i hi => ?_, fun p hp => ?_⟩⟩))))
  · rw [f3 1 (by omega), f2 1 (by omega), f1 1 (by omega), up_sl (by omega), up_sl (by omega), up_eq]; exact h1
  · rw [f3 1 (by omega), f2 1 (by omega), f1 1 (by omega), up_sl (by omega), up_eq]; exact h2
  · rw [f3 1 (by omega), f2 1 (by omega), f1 1 (by omega), up_eq]; exact h3
  · show M3 3 i = _
    rw [f3 3 (by omega), f2 3 (by omega), d1 i hi, up_fr (by omega), up_fr (by omega), up_fr (by omega)]; exact h4 i hi
  · show M3 5 i = _
    rw [f3 5 (by omega), d2 i hi, f1 12 (by omega), up_fr (by omega), up_fr (by omega), up_fr (by omega)]; exact h5 i hi
  · show M3 7 (3 * p) = _ ∧ M3 7 (3 * p + 1) = _ ∧ M3 7 (3 * p + 2) = _
    rw [d3 _ (by omega), d3 _ (by omega), d3 _ (by omega), f2 14 (by omega), f1 14 (by omega), up_fr (by omega), up_fr (by omega), up_fr (by omega)]; exact h6 p hp
theorem L_bc_16_2 {M0 : Mem} {K : Mem → Prop} (h : ∀ M', (∀ i, i ≠ 17 → M' i = M0 i) → (∀ j, j < 40 → M' 17 j = M0 3 j) → K M') : ∀ (k m : Nat) (M : Mem), m + k = 40 → (∀ i, i ≠ 17 → M i = M0 i) → (∀ j, j < m → M 17 j = M0 3 j) →
    TA i0_becomes 2 [some (vr 16), some (vr 2), some (vi (m : Int))] [] (LC, M) (fun rv G' => rv = none ∧ ∃ M', G' = (LC, M') ∧ K M')
  | 0, m, M, hm, hf, hd => by
    have e : m = 40 := by omega
    subst e
    exact W0_becomes_2_16_2 ⟨fun z => absurd z (by decide), fun _ => ⟨rfl, M, rfl, h M hf hd⟩⟩
  | k + 1, m, M, hm, hf, hd => by
    have em : wr (m : Int) = (m : Int) := wr_id (by omega) (by omega)
    have en : ((m : Int)).toNat = m := by omega
    have e1 : ((m + 1 : Nat) : Int) = (m : Int) + 1 := by omega
    refine W0_becomes_2_16_2 ⟨fun _ => ⟨by omega, ?_⟩, fun z => ?_⟩
    · rw [rd_in (by omega) (by omega) (by omega), em, en, hf 3 (by omega)]
      have ih := L_bc_16_2 h k (m + 1) (up M 17 m (M0 3 m)) (by omega) (fun i hi => by rw [up_fr hi]; exact hf i hi) (fun j hj => by
        by_cases ej : j = m
        · rw [ej, up_eq]
        · rw [up_sl ej]; exact hd j (by omega))
      rw [e1] at ih; exact ih
    · rw [em, wr_id (by omega) (by omega)] at z; omega
theorem L_bc_18_4 {M0 : Mem} {K : Mem → Prop} (h : ∀ M', (∀ i, i ≠ 19 → M' i = M0 i) → (∀ j, j < 40 → M' 19 j = M0 5 j) → K M') : ∀ (k m : Nat) (M : Mem), m + k = 40 → (∀ i, i ≠ 19 → M i = M0 i) → (∀ j, j < m → M 19 j = M0 5 j) →
    TA i0_becomes 2 [some (vr 18), some (vr 4), some (vi (m : Int))] [] (LC, M) (fun rv G' => rv = none ∧ ∃ M', G' = (LC, M') ∧ K M')
  | 0, m, M, hm, hf, hd => by
    have e : m = 40 := by omega
    subst e
    exact W0_becomes_2_18_4 ⟨fun z => absurd z (by decide), fun _ => ⟨rfl, M, rfl, h M hf hd⟩⟩
  | k + 1, m, M, hm, hf, hd => by
    have em : wr (m : Int) = (m : Int) := wr_id (by omega) (by omega)
    have en : ((m : Int)).toNat = m := by omega
    have e1 : ((m + 1 : Nat) : Int) = (m : Int) + 1 := by omega
    refine W0_becomes_2_18_4 ⟨fun _ => ⟨by omega, ?_⟩, fun z => ?_⟩
    · rw [rd_in (by omega) (by omega) (by omega), em, en, hf 5 (by omega)]
      have ih := L_bc_18_4 h k (m + 1) (up M 19 m (M0 5 m)) (by omega) (fun i hi => by rw [up_fr hi]; exact hf i hi) (fun j hj => by
        by_cases ej : j = m
        · rw [ej, up_eq]
        · rw [up_sl ej]; exact hd j (by omega))
      rw [e1] at ih; exact ih
    · rw [em, wr_id (by omega) (by omega)] at z; omega
theorem L_bc_20_6 {M0 : Mem} {K : Mem → Prop} (h : ∀ M', (∀ i, i ≠ 21 → M' i = M0 i) → (∀ j, j < 18 → M' 21 j = M0 7 j) → K M') : ∀ (k m : Nat) (M : Mem), m + k = 18 → (∀ i, i ≠ 21 → M i = M0 i) → (∀ j, j < m → M 21 j = M0 7 j) →
    TA i0_becomes 2 [some (vr 20), some (vr 6), some (vi (m : Int))] [] (LC, M) (fun rv G' => rv = none ∧ ∃ M', G' = (LC, M') ∧ K M')
  | 0, m, M, hm, hf, hd => by
    have e : m = 18 := by omega
    subst e
    exact W0_becomes_2_20_6 ⟨fun z => absurd z (by decide), fun _ => ⟨rfl, M, rfl, h M hf hd⟩⟩
  | k + 1, m, M, hm, hf, hd => by
    have em : wr (m : Int) = (m : Int) := wr_id (by omega) (by omega)
    have en : ((m : Int)).toNat = m := by omega
    have e1 : ((m + 1 : Nat) : Int) = (m : Int) + 1 := by omega
    refine W0_becomes_2_20_6 ⟨fun _ => ⟨by omega, ?_⟩, fun z => ?_⟩
    · rw [rd_in (by omega) (by omega) (by omega), em, en, hf 7 (by omega)]
      have ih := L_bc_20_6 h k (m + 1) (up M 21 m (M0 7 m)) (by omega) (fun i hi => by rw [up_fr hi]; exact hf i hi) (fun j hj => by
        by_cases ej : j = m
        · rw [ej, up_eq]
        · rw [up_sl ej]; exact hd j (by omega))
      rw [e1] at ih; exact ih
    · rw [em, wr_id (by omega) (by omega)] at z; omega
theorem T_bc_16_2 {M : Mem} {K : Mem → Prop} (h : ∀ M', (∀ i, i ≠ 17 → M' i = M i) → (∀ j, j < 40 → M' 17 j = M 3 j) → K M') : TV i0_becomes 3 [vr 16, vr 2] (LC, M) K := W0_becomes_0_16_2 (L_bc_16_2 h 40 0 M rfl (fun _ _ => rfl) (fun j hj => absurd hj (by omega)))
theorem T_bc_18_4 {M : Mem} {K : Mem → Prop} (h : ∀ M', (∀ i, i ≠ 19 → M' i = M i) → (∀ j, j < 40 → M' 19 j = M 5 j) → K M') : TV i0_becomes 3 [vr 18, vr 4] (LC, M) K := W0_becomes_0_18_4 (L_bc_18_4 h 40 0 M rfl (fun _ _ => rfl) (fun j hj => absurd hj (by omega)))
theorem T_bc_20_6 {M : Mem} {K : Mem → Prop} (h : ∀ M', (∀ i, i ≠ 21 → M' i = M i) → (∀ j, j < 18 → M' 21 j = M 7 j) → K M') : TV i0_becomes 3 [vr 20, vr 6] (LC, M) K := W0_becomes_0_20_6 (L_bc_20_6 h 18 0 M rfl (fun _ _ => rfl) (fun j hj => absurd hj (by omega)))
theorem T_fb_15_1 {G : FS} {M : Mem} (hR : RCf G M 1) {K : Mem → Prop} (h : ∀ M', (∀ i, i ≠ 15 → i ≠ 17 → i ≠ 19 → i ≠ 21 → M' i = M i) → RCf G M' 15 → K M') : TV i3_becomes 2 [vr 15, vr 1] (LC, M) K := by
  obtain ⟨h1, h2, h3, h4, h5, h6⟩ := hR
  refine W3_becomes_0_15_1 (T_bc_16_2 (fun M1 f1 d1 => T_bc_18_4 (fun M2 f2 d2 => T_bc_20_6 (fun M3 f3 d3 => ⟨rfl, M3, rfl, h M3 (fun i ia i2 i4 i6 => by rw [f3 i i6, f2 i i4, f1 i i2, up_fr ia, up_fr ia, up_fr ia]) ⟨?_, ?_, ?_, fun i hi => ?_, fun i hi => ?_, fun p hp => ?_⟩⟩))))
  · rw [f3 15 (by omega), f2 15 (by omega), f1 15 (by omega), up_sl (by omega), up_sl (by omega), up_eq]; exact h1
  · rw [f3 15 (by omega), f2 15 (by omega), f1 15 (by omega), up_sl (by omega), up_eq]; exact h2
  · rw [f3 15 (by omega), f2 15 (by omega), f1 15 (by omega), up_eq]; exact h3
  · show M3 17 i = _
    rw [f3 17 (by omega), f2 17 (by omega), d1 i hi, up_fr (by omega), up_fr (by omega), up_fr (by omega)]; exact h4 i hi
  · show M3 19 i = _
    rw [f3 19 (by omega), d2 i hi, f1 5 (by omega), up_fr (by omega), up_fr (by omega), up_fr (by omega)]; exact h5 i hi
  · show M3 21 (3 * p) = _ ∧ M3 21 (3 * p + 1) = _ ∧ M3 21 (3 * p + 2) = _
    rw [d3 _ (by omega), d3 _ (by omega), d3 _ (by omega), f2 7 (by omega), f1 7 (by omega), up_fr (by omega), up_fr (by omega), up_fr (by omega)]; exact h6 p hp
theorem L_bc_2_16 {M0 : Mem} {K : Mem → Prop} (h : ∀ M', (∀ i, i ≠ 3 → M' i = M0 i) → (∀ j, j < 40 → M' 3 j = M0 17 j) → K M') : ∀ (k m : Nat) (M : Mem), m + k = 40 → (∀ i, i ≠ 3 → M i = M0 i) → (∀ j, j < m → M 3 j = M0 17 j) →
    TA i0_becomes 2 [some (vr 2), some (vr 16), some (vi (m : Int))] [] (LC, M) (fun rv G' => rv = none ∧ ∃ M', G' = (LC, M') ∧ K M')
  | 0, m, M, hm, hf, hd => by
    have e : m = 40 := by omega
    subst e
    exact W0_becomes_2_2_16 ⟨fun z => absurd z (by decide), fun _ => ⟨rfl, M, rfl, h M hf hd⟩⟩
  | k + 1, m, M, hm, hf, hd => by
    have em : wr (m : Int) = (m : Int) := wr_id (by omega) (by omega)
    have en : ((m : Int)).toNat = m := by omega
    have e1 : ((m + 1 : Nat) : Int) = (m : Int) + 1 := by omega
    refine W0_becomes_2_2_16 ⟨fun _ => ⟨by omega, ?_⟩, fun z => ?_⟩
    · rw [rd_in (by omega) (by omega) (by omega), em, en, hf 17 (by omega)]
      have ih := L_bc_2_16 h k (m + 1) (up M 3 m (M0 17 m)) (by omega) (fun i hi => by rw [up_fr hi]; exact hf i hi) (fun j hj => by
        by_cases ej : j = m
        · rw [ej, up_eq]
        · rw [up_sl ej]; exact hd j (by omega))
      rw [e1] at ih; exact ih
    · rw [em, wr_id (by omega) (by omega)] at z; omega
theorem L_bc_4_18 {M0 : Mem} {K : Mem → Prop} (h : ∀ M', (∀ i, i ≠ 5 → M' i = M0 i) → (∀ j, j < 40 → M' 5 j = M0 19 j) → K M') : ∀ (k m : Nat) (M : Mem), m + k = 40 → (∀ i, i ≠ 5 → M i = M0 i) → (∀ j, j < m → M 5 j = M0 19 j) →
    TA i0_becomes 2 [some (vr 4), some (vr 18), some (vi (m : Int))] [] (LC, M) (fun rv G' => rv = none ∧ ∃ M', G' = (LC, M') ∧ K M')
  | 0, m, M, hm, hf, hd => by
    have e : m = 40 := by omega
    subst e
    exact W0_becomes_2_4_18 ⟨fun z => absurd z (by decide), fun _ => ⟨rfl, M, rfl, h M hf hd⟩⟩
  | k + 1, m, M, hm, hf, hd => by
    have em : wr (m : Int) = (m : Int) := wr_id (by omega) (by omega)
    have en : ((m : Int)).toNat = m := by omega
    have e1 : ((m + 1 : Nat) : Int) = (m : Int) + 1 := by omega
    refine W0_becomes_2_4_18 ⟨fun _ => ⟨by omega, ?_⟩, fun z => ?_⟩
    · rw [rd_in (by omega) (by omega) (by omega), em, en, hf 19 (by omega)]
      have ih := L_bc_4_18 h k (m + 1) (up M 5 m (M0 19 m)) (by omega) (fun i hi => by rw [up_fr hi]; exact hf i hi) (fun j hj => by
        by_cases ej : j = m
        · rw [ej, up_eq]
        · rw [up_sl ej]; exact hd j (by omega))
      rw [e1] at ih; exact ih
    · rw [em, wr_id (by omega) (by omega)] at z; omega
theorem L_bc_6_20 {M0 : Mem} {K : Mem → Prop} (h : ∀ M', (∀ i, i ≠ 7 → M' i = M0 i) → (∀ j, j < 18 → M' 7 j = M0 21 j) → K M') : ∀ (k m : Nat) (M : Mem), m + k = 18 → (∀ i, i ≠ 7 → M i = M0 i) → (∀ j, j < m → M 7 j = M0 21 j) →
    TA i0_becomes 2 [some (vr 6), some (vr 20), some (vi (m : Int))] [] (LC, M) (fun rv G' => rv = none ∧ ∃ M', G' = (LC, M') ∧ K M')
  | 0, m, M, hm, hf, hd => by
    have e : m = 18 := by omega
    subst e
    exact W0_becomes_2_6_20 ⟨fun z => absurd z (by decide), fun _ => ⟨rfl, M, rfl, h M hf hd⟩⟩
  | k + 1, m, M, hm, hf, hd => by
    have em : wr (m : Int) = (m : Int) := wr_id (by omega) (by omega)
    have en : ((m : Int)).toNat = m := by omega
    have e1 : ((m + 1 : Nat) : Int) = (m : Int) + 1 := by omega
    refine W0_becomes_2_6_20 ⟨fun _ => ⟨by omega, ?_⟩, fun z => ?_⟩
    · rw [rd_in (by omega) (by omega) (by omega), em, en, hf 21 (by omega)]
      have ih := L_bc_6_20 h k (m + 1) (up M 7 m (M0 21 m)) (by omega) (fun i hi => by rw [up_fr hi]; exact hf i hi) (fun j hj => by
        by_cases ej : j = m
        · rw [ej, up_eq]
        · rw [up_sl ej]; exact hd j (by omega))
      rw [e1] at ih; exact ih
    · rw [em, wr_id (by omega) (by omega)] at z; omega
theorem T_bc_2_16 {M : Mem} {K : Mem → Prop} (h : ∀ M', (∀ i, i ≠ 3 → M' i = M i) → (∀ j, j < 40 → M' 3 j = M 17 j) → K M') : TV i0_becomes 3 [vr 2, vr 16] (LC, M) K := W0_becomes_0_2_16 (L_bc_2_16 h 40 0 M rfl (fun _ _ => rfl) (fun j hj => absurd hj (by omega)))
theorem T_bc_4_18 {M : Mem} {K : Mem → Prop} (h : ∀ M', (∀ i, i ≠ 5 → M' i = M i) → (∀ j, j < 40 → M' 5 j = M 19 j) → K M') : TV i0_becomes 3 [vr 4, vr 18] (LC, M) K := W0_becomes_0_4_18 (L_bc_4_18 h 40 0 M rfl (fun _ _ => rfl) (fun j hj => absurd hj (by omega)))
theorem T_bc_6_20 {M : Mem} {K : Mem → Prop} (h : ∀ M', (∀ i, i ≠ 7 → M' i = M i) → (∀ j, j < 18 → M' 7 j = M 21 j) → K M') : TV i0_becomes 3 [vr 6, vr 20] (LC, M) K := W0_becomes_0_6_20 (L_bc_6_20 h 18 0 M rfl (fun _ _ => rfl) (fun j hj => absurd hj (by omega)))
theorem T_fb_1_15 {G : FS} {M : Mem} (hR : RCf G M 15) {K : Mem → Prop} (h : ∀ M', (∀ i, i ≠ 1 → i ≠ 3 → i ≠ 5 → i ≠ 7 → M' i = M i) → RCf G M' 1 → K M') : TV i3_becomes 2 [vr 1, vr 15] (LC, M) K := by
  obtain ⟨h1, h2, h3, h4, h5, h6⟩ := hR
  refine W3_becomes_0_1_15 (T_bc_2_16 (fun M1 f1 d1 => T_bc_4_18 (fun M2 f2 d2 => T_bc_6_20 (fun M3 f3 d3 => ⟨rfl, M3, rfl, h M3 (fun i ia i2 i4 i6 => by rw [f3 i i6, f2 i i4, f1 i i2, up_fr ia, up_fr ia, up_fr ia]) ⟨?_, ?_, ?_, fun i hi => ?_, fun i hi => ?_, fun p hp => ?_⟩⟩))))
  · rw [f3 1 (by omega), f2 1 (by omega), f1 1 (by omega), up_sl (by omega), up_sl (by omega), up_eq]; exact h1
  · rw [f3 1 (by omega), f2 1 (by omega), f1 1 (by omega), up_sl (by omega), up_eq]; exact h2
  · rw [f3 1 (by omega), f2 1 (by omega), f1 1 (by omega), up_eq]; exact h3
  · show M3 3 i = _
    rw [f3 3 (by omega), f2 3 (by omega), d1 i hi, up_fr (by omega), up_fr (by omega), up_fr (by omega)]; exact h4 i hi
  · show M3 5 i = _
    rw [f3 5 (by omega), d2 i hi, f1 19 (by omega), up_fr (by omega), up_fr (by omega), up_fr (by omega)]; exact h5 i hi
  · show M3 7 (3 * p) = _ ∧ M3 7 (3 * p + 1) = _ ∧ M3 7 (3 * p + 2) = _
    rw [d3 _ (by omega), d3 _ (by omega), d3 _ (by omega), f2 21 (by omega), f1 21 (by omega), up_fr (by omega), up_fr (by omega), up_fr (by omega)]; exact h6 p hp
theorem RC.im {S : ST} {M M' : Mem} (h : RC S M) {G : FS} (f : ∀ i, i < 36 → i ≠ 0 → i ≠ 8 → i ≠ 10 → i ≠ 12 → i ≠ 14 → M' i = M i) (f7 : M' 0 7 = M 0 7) (hI : M' 0 3 = 1 ∧ RCf G M' 8) : RC (sF S, sL S, sR S, sC S, some G, sT S) M' := by
  obtain ⟨h1, ⟨h2, h3⟩, ⟨h4, h5⟩, h6, -, h8, h9⟩ := h
  have g : ∀ i, (i = 1 ∨ i = 3 ∨ i = 5 ∨ i = 7 ∨ i = 22 ∨ i = 24 ∨ i = 26 ∨ i = 28 ∨ i = 29 ∨ i = 31 ∨ i = 33 ∨ i = 35) → M' i = M i := fun i hi => f i (by omega) (by omega) (by omega) (by omega) (by omega) (by omega)
  exact ⟨h1.frb (g 1 (by omega)) (g (1 + 2) (by omega)) (g (1 + 4) (by omega)) (g (1 + 6) (by omega)), ⟨by rw [g 29 (by omega)]; exact h2, by rw [g 31 (by omega)]; exact h3⟩, ⟨by rw [f7]; exact h4, by rw [g 33 (by omega)]; exact h5⟩, by rw [g 35 (by omega)]; exact h6, hI, by rw [g 22 (by omega)]; exact h8, by rw [g 24 (by omega), g 26 (by omega), g 28 (by omega)]; exact h9⟩
theorem RM.im {S : ST} {M M' : Mem} (h : RM S M) {G : FS} (f1 : ∀ i, 1 ≤ i → (i ≤ 6 ∨ i = 8 ∨ i = 14 ∨ i = 24) → M' i = M i) (f2 : ∀ j, (j = 2 ∨ j = 3 ∨ j = 4 ∨ j = 21 ∨ j = 36 ∨ j = 48) → M' 0 j = M 0 j) (hI : M' 0 30 = 1 ∧ Snap G (M' 13) 0) : RM (sF S, sL S, sR S, sC S, some G, sT S) M' := by
  obtain ⟨h1, ⟨h2, h3⟩, ⟨h4, h5⟩, h6, -, h8, h9⟩ := h
  exact ⟨h1.fr (fun i a b => f1 i a (by omega)) (fun j a b => f2 j (by omega)), ⟨by rw [f2 21 (by omega)]; exact h2, by rw [f1 8 (by omega) (by omega)]; exact h3⟩, ⟨by rw [f2 48 (by omega)]; exact h4, by rw [f1 24 (by omega) (by omega)]; exact h5⟩, by rw [f1 6 (by omega) (by omega)]; exact h6, hI, by rw [f2 36 (by omega)]; exact h8, by rw [f1 14 (by omega) (by omega)]; exact h9⟩
theorem snap_reg {F : FS} {M : Mem} (hR : RMf F M) {f : Nat → Int} (hf : ∀ j, j < 101 → f j = regM M j) : Snap F f 0 := by
  obtain ⟨h1, h2, h3, h4, h5, h6⟩ := hR
  refine ⟨?_, ?_, ?_, fun i hi => ⟨?_, ?_⟩, fun p hp => ⟨?_, ?_, ?_⟩⟩
  · rw [hf 0 (by omega)]; exact h1
  · rw [show (0 + 1 : Nat) = 1 from rfl, hf 1 (by omega)]; exact h2
  · rw [show (0 + 2 : Nat) = 2 from rfl, hf 2 (by omega)]; exact h3
  · rw [show 0 + 3 + 2 * i = 3 + 2 * i by omega, hf _ (by omega), (regM_1 M hi).1]; exact h4 i hi
  · rw [show 0 + 4 + 2 * i = 4 + 2 * i by omega, hf _ (by omega), (regM_1 M hi).2]; exact h5 i hi
  · rw [show 0 + 83 + 3 * p = 83 + 3 * p by omega, hf _ (by omega), (regM_3 M).1]; exact (h6 p hp).1
  · rw [show 0 + 84 + 3 * p = 84 + 3 * p by omega, hf _ (by omega), (regM_3 M).2.1]; exact (h6 p hp).2.1
  · rw [show 0 + 85 + 3 * p = 85 + 3 * p by omega, hf _ (by omega), (regM_3 M).2.2]; exact (h6 p hp).2.2
theorem SIM_image : SIM i9_image 1 i10_image 1 [] := by
  intro S hS
  refine ⟨pn (sF S), (sF S, sL S, sR S, sC S, some (sF S), sT S), ⟨hS.1, hS.2.1, hS.2.2.1, fun G hG => ?_, hS.2.2.2.2⟩, fun M hM => W9_image_0 (T_fb_8_1 hM.1 (fun M1 f1 r1 => ⟨wb1, _, ?_, rfl, ?_⟩)), fun q M hM => W10_image_0 ⟨wb1, T_take_13 (fun M1 hT => ⟨_, _, ?_, rfl, ?_⟩)⟩⟩
  · have e : sF S = G := by injection hG
    rw [← e]; exact hS.1
  · rw [f1 1 (by omega) (by omega) (by omega) (by omega), hM.1.2.2.1]
  · refine hM.im (fun i _ i0 i8 i10 i12 i14 => by rw [up_fr i0]; exact f1 i i8 i10 i12 i14) (by rw [up_sl (by omega), f1 0 (by omega) (by omega) (by omega) (by omega)]) ⟨up_eq, r1.frb (up_fr (by omega)) (up_fr (by omega)) (up_fr (by omega)) (up_fr (by omega))⟩
  · rw [hT.2.1 4 (by omega) (by omega), up_sl (by omega), up_sl (by omega), hM.1.2.2.1]
  · obtain ⟨t1, t2, -, -, t5⟩ := hT
    have hR2 : RMf (sF S) (up (up M 0 8 0) 0 30 1) := hM.1.fr (fun i a b => by rw [up_fr (by omega), up_fr (by omega)]) (fun j a b => by rw [up_sl (by omega), up_sl (by omega)])
    refine hM.im (fun i a b => by rw [t1 i (by omega) (by omega), up_fr (by omega), up_fr (by omega)]) (fun j hj => by rw [t2 j (by omega) (by omega), up_sl (by omega), up_sl (by omega)]) ⟨by rw [t2 30 (by omega) (by omega), up_eq], snap_reg hR2 t5⟩
theorem SIM_restore : SIM i9_restore 1 i10_restore 1 [] := by
  intro S hS
  obtain ⟨I, hI⟩ : ∃ I, I = sI S := ⟨_, rfl⟩
  cases I with
  | none =>
    refine ⟨-3, sRef S (-3), hS.ref _, fun M hM => W9_restore_0 ⟨fun _ => C_ref hM (by omega), fun z => ?_⟩, fun q M hM => W10_restore_0 ⟨fun _ => ⟨by decide, M_ref hM.thr (by omega)⟩, fun z => ?_⟩⟩
    · have h7 := hM.2.2.2.2.1
      unfold Im1 at h7
      rw [← hI] at h7
      rw [h7] at z
      exact absurd wr0 z
    · have h7 := hM.2.2.2.2.1
      unfold Im2 at h7
      rw [← hI] at h7
      rw [h7] at z
      exact absurd wr0 z
  | some G =>
    have hG : FOK G := hS.2.2.2.1 G hI.symm
    refine ⟨pn G, (G, sL S, sR S, sC S, sI S, []), ⟨hG, hS.2.1, hS.2.2.1, hS.2.2.2.1, fun G hG => absurd hG (by simp [sT]), Nat.zero_le _⟩, fun M hM => ?_, fun q M hM => ?_⟩
    · have h7 := hM.2.2.2.2.1
      unfold Im1 at h7
      rw [← hI] at h7
      refine W9_restore_0 ⟨fun z => ?_, fun _ => T_fb_1_8 h7.2 (fun M1 f1 r1 => ⟨_, ?_, rfl, ?_⟩)⟩
      · rw [h7.1, wr1] at z; omega
      · rw [r1.2.2.1]
      · unfold g1_forgets
        refine hM.chF (fun i _ a b _ _ _ => by rw [up_fr b]; exact f1 i (by omega) (by omega) (by omega) (by omega)) (by rw [up_fr (by omega)]; exact f1 0 (by omega) (by omega) (by omega) (by omega)) (r1.frb (up_fr (by omega)) (up_fr (by omega)) (up_fr (by omega)) (up_fr (by omega))) (by rw [up_eq]; rfl) True.intro
    · have h7 := hM.2.2.2.2.1
      unfold Im2 at h7
      rw [← hI] at h7
      refine W10_restore_0 ⟨fun z => ?_, fun _ => T_put_13 (G := G) (by rw [up_fr (by omega)]; exact h7.2) (fun M1 f1 f2 r1 => ⟨_, _, ?_, rfl, ?_⟩)⟩
      · rw [h7.1, wr1] at z; omega
      · rw [r1.2.2.1]
      · refine hM.chF (fun i hi => by rw [up_fr (by omega), f1 i (by omega), up_fr (by omega)]) (fun j hj => by rw [up_sl (by omega), f2 j (by omega) (by omega) (by omega) (by omega) (by omega), up_sl (by omega)]) (r1.fr (fun i a b => up_fr (by omega)) (fun j a b => up_sl (by omega))) (by rw [up_eq]; rfl) True.intro

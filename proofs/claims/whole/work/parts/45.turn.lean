/-! a change is kept: keepTurn in the reference, a change in the class -/
def pushT (F : FS) (T : List FS) : List FS := F :: (if T.length = 8 then T.dropLast else T)
theorem pushT_len {F : FS} {T : List FS} (h : T.length ≤ 8) : (pushT F T).length ≤ 8 := by
  unfold pushT
  rw [List.length_cons]
  split
  · rw [List.length_dropLast]; omega
  · omega
theorem pushT_mem {F : FS} {T : List FS} {P : FS → Prop} (h0 : P F) (h : ∀ G, G ∈ T → P G) : ∀ G, G ∈ pushT F T → P G := by
  intro G hG
  unfold pushT at hG
  rcases List.mem_cons.1 hG with e | e
  · rw [e]; exact h0
  · split at e
    · exact h G (List.dropLast_subset T e)
    · exact h G e
theorem TN_congr {f g : Nat → Int} : ∀ {T : List FS}, (∀ j, j < 101 * T.length → g j = f j) → TN f T → TN g T
  | [], _, _ => True.intro
  | G :: r, h, hT => by
    obtain ⟨⟨a1, a2, a3, a4, a5⟩, h2⟩ := hT
    have hl : (G :: r).length = r.length + 1 := List.length_cons
    rw [hl] at h
    refine ⟨⟨by rw [h _ (by omega)]; exact a1, by rw [h _ (by omega)]; exact a2, by rw [h _ (by omega)]; exact a3, fun i hi => ?_, fun p hp => ?_⟩, TN_congr (fun j hj => h j (by omega)) h2⟩
    · rw [h _ (by omega), h _ (by omega)]; exact a4 i hi
    · rw [h _ (by omega), h _ (by omega), h _ (by omega)]; exact a5 p hp
theorem Snap_sh {f g : Nat → Int} {G : FS} {a b : Nat} (h : ∀ j, j < 101 → g (b + j) = f (a + j)) (hS : Snap G f a) : Snap G g b := by
  obtain ⟨a1, a2, a3, a4, a5⟩ := hS
  have h' : ∀ j k : Nat, k = b + j → j < 101 → g k = f (a + j) := fun j k e hj => by rw [e]; exact h j hj
  refine ⟨?_, ?_, ?_, fun i hi => ⟨?_, ?_⟩, fun p hp => ⟨?_, ?_, ?_⟩⟩
  · rw [h' 0 _ (by omega) (by omega)]; exact a1
  · rw [h' 1 _ (by omega) (by omega)]; exact a2
  · rw [h' 2 _ (by omega) (by omega)]; exact a3
  · rw [h' (3 + 2 * i) _ (by omega) (by omega), ← Nat.add_assoc]; exact (a4 i hi).1
  · rw [h' (4 + 2 * i) _ (by omega) (by omega), ← Nat.add_assoc]; exact (a4 i hi).2
  · rw [h' (83 + 3 * p) _ (by omega) (by omega), ← Nat.add_assoc]; exact (a5 p hp).1
  · rw [h' (84 + 3 * p) _ (by omega) (by omega), ← Nat.add_assoc]; exact (a5 p hp).2.1
  · rw [h' (85 + 3 * p) _ (by omega) (by omega), ← Nat.add_assoc]; exact (a5 p hp).2.2
theorem TN_drop {f g : Nat → Int} : ∀ {T : List FS}, (∀ j, j + 101 < 101 * T.length → g j = f (j + 101)) → TN f T → TN g T.dropLast
  | [], _, _ => True.intro
  | [G], _, _ => True.intro
  | G :: H :: r, h, hT => by
    obtain ⟨h1, h2⟩ := hT
    have e : (G :: H :: r).dropLast = G :: (H :: r).dropLast := rfl
    have hl : (G :: H :: r).length = r.length + 2 := rfl
    have hl2 : (H :: r).length = r.length + 1 := rfl
    have hl3 : (H :: r).dropLast.length = r.length := by rw [List.length_dropLast, hl2]; omega
    rw [hl] at h
    rw [e]
    refine ⟨?_, TN_drop (fun j hj => h j (by omega)) h2⟩
    rw [hl3]
    rw [hl2] at h1
    exact Snap_sh (a := 101 * (r.length + 1)) (fun j hj => by rw [h _ (by omega)]; congr 1; omega) h1
theorem CH_congr {s p b s' p' b' : Nat → Int} : ∀ {T : List FS} {F : FS}, (∀ j, j < T.length → s' j = s j ∧ p' j = p j ∧ b' j = b j) → CH s p b T F → CH s' p' b' T F
  | [], _, _, _ => True.intro
  | G :: r, F, h, hC => by
    obtain ⟨h1, h2⟩ := hC
    have hl : (G :: r).length = r.length + 1 := List.length_cons
    rw [hl] at h
    obtain ⟨e1, e2, e3⟩ := h r.length (by omega)
    refine ⟨by rw [e1, e2, e3]; exact h1, CH_congr (fun j hj => h j (by omega)) h2⟩
theorem CH_drop {s p b s' p' b' : Nat → Int} : ∀ {T : List FS} {F : FS}, (∀ j, j + 1 < T.length → s' j = s (j + 1) ∧ p' j = p (j + 1) ∧ b' j = b (j + 1)) → CH s p b T F → CH s' p' b' T.dropLast F
  | [], _, _, _ => True.intro
  | [G], _, _, _ => True.intro
  | G :: H :: r, F, h, hC => by
    obtain ⟨h1, h2⟩ := hC
    have e : (G :: H :: r).dropLast = G :: (H :: r).dropLast := rfl
    have hl : (G :: H :: r).length = r.length + 2 := rfl
    have hl2 : (H :: r).length = r.length + 1 := rfl
    have hl3 : (H :: r).dropLast.length = r.length := by rw [List.length_dropLast, hl2]; omega
    rw [hl] at h
    rw [e]
    rw [hl2] at h1
    obtain ⟨e1, e2, e3⟩ := h r.length (by omega)
    refine ⟨?_, CH_drop (fun j hj => h j (by omega)) h2⟩
    rw [hl3, e1, e2, e3]; exact h1
/-- the reference: the oldest turn goes -/
theorem L_shift {q : Option Nat} {M0 : Mem} {Post : Option AV → GM → Prop} (h : ∀ M', (∀ i, i ≠ 14 → M' i = M0 i) → (∀ j, j < 707 → M' 14 j = M0 14 (j + 101)) → TQ i10_carryAll 4 [vr 0, vr 15, vi 1] 15 (LM q, up M' 0 36 (M' 0 36 - 1)) (fun M1 => TA i10_keepTurn 61 [some (vr 0), some (vi 0)] [] (LM (some 15), M1) Post)) :
    ∀ (k n : Nat) (M : Mem), n + k = 707 → (∀ i, i ≠ 14 → M i = M0 i) → (∀ j, j < n → M 14 j = M0 14 (j + 101)) → (∀ j, n ≤ j → M 14 j = M0 14 j) →
    TA i10_keepTurn 12 [some (vr 0), some (vi ((n : Int) + 101))] [] (LM q, M) Post
  | 0, n, M, hn, hf, h1, h2 => by
    have e : n = 707 := by omega
    subst e
    exact W10_keepTurn_12 ⟨fun z => absurd z (by decide), fun _ => h M hf h1⟩
  | k + 1, n, M, hn, hf, h1, h2 => by
    have e1 : wr ((n : Int) + 101) = (n : Int) + 101 := wr_id (by omega) (by omega)
    have e2 : wr ((n : Int) + 101 - 101) = (n : Int) := by rw [wr_id (by omega) (by omega)]; omega
    have e3 : ((n : Int)).toNat = n := by omega
    have e4 : ((n : Int) + 101).toNat = n + 101 := by omega
    have e5 : ((n + 1 : Nat) : Int) + 101 = (n : Int) + 101 + 1 := by omega
    refine W10_keepTurn_12 ⟨fun _ => ?_, fun z => ?_⟩
    · rw [e1, e2, e3, e4]
      have ih := L_shift h k (n + 1) (up M 14 n (M 14 (n + 101))) (by omega) (fun i hi => by rw [up_fr hi]; exact hf i hi) (fun j hj => by
        by_cases ej : j = n
        · rw [ej, up_eq]; exact h2 _ (by omega)
        · rw [up_sl ej]; exact h1 j (by omega)) (fun j hj => by rw [up_sl (by omega)]; exact h2 j (by omega))
      rw [e5] at ih
      exact ⟨by omega, by omega, ih⟩
    · rw [e1, wr_id (by omega) (by omega)] at z; omega
theorem L_keep61 {L : Nat} (hL : L < 8) {M0 : Mem} {K : Mem → Prop} (h : ∀ M', (∀ i, i ≠ 14 → M' i = M0 i) → (∀ j, j < 101 * L → M' 14 j = M0 14 j) → (∀ j, j < 101 → M' 14 (101 * L + j) = M0 15 j) → K (up M' 0 36 ((L : Int) + 1))) (h36 : M0 0 36 = (L : Int)) :
    ∀ (k n : Nat) (M : Mem), n + k = 101 → (∀ i, i ≠ 14 → M i = M0 i) → (∀ j, j < 101 * L → M 14 j = M0 14 j) → (∀ j, j < n → M 14 (101 * L + j) = M0 15 j) →
    TA i10_keepTurn 61 [some (vr 0), some (vi (n : Int))] [] (LM (some 15), M) (fun rv G' => rv = none ∧ ∃ M', G' = (LM (some 15), M') ∧ K M')
  | 0, n, M, hn, hf, h1, h2 => by
    have e : n = 101 := by omega
    subst e
    refine W10_keepTurn_61 ⟨fun z => absurd z (by decide), fun _ => ⟨rfl, _, rfl, ?_⟩⟩
    rw [hf 0 (by omega), h36]
    exact h M hf h1 h2
  | k + 1, n, M, hn, hf, h1, h2 => by
    have e0 : M 0 36 = (L : Int) := by rw [hf 0 (by omega)]; exact h36
    have e1 : wr (n : Int) = (n : Int) := wr_id (by omega) (by omega)
    have e2 : wr (101 * (L : Int) + (n : Int)) = 101 * (L : Int) + (n : Int) := wr_id (by omega) (by omega)
    have e3 : ((n : Int)).toNat = n := by omega
    have e4 : (101 * (L : Int) + (n : Int)).toNat = 101 * L + n := by omega
    have e5 : ((n + 1 : Nat) : Int) = (n : Int) + 1 := by omega
    refine W10_keepTurn_61 ⟨fun _ => ?_, fun z => ?_⟩
    · rw [e0, e1, e2, e3, e4]
      have ih := L_keep61 hL h h36 k (n + 1) (up M 14 (101 * L + n) (M 15 n)) (by omega) (fun i hi => by rw [up_fr hi]; exact hf i hi) (fun j hj => by rw [up_sl (by omega)]; exact h1 j hj) (fun j hj => by
        by_cases ej : j = n
        · rw [ej, up_eq, hf 15 (by omega)]
        · rw [up_sl (by omega)]; exact h2 j (by omega))
      rw [e5] at ih
      exact ⟨by omega, by omega, ih⟩
    · rw [e1, wr_id (by omega) (by omega)] at z; omega
theorem T_keep {q : Option Nat} {F : FS} {T : List FS} {M : Mem} (hR : RMf F M) (hT : M 0 36 = (T.length : Int)) (hN : TN (M 14) T) (h8 : T.length ≤ 8) {K : Mem → Prop}
    (h : ∀ M', (∀ i, i ≠ 0 → i ≠ 14 → i ≠ 15 → M' i = M i) → (∀ j, j ≠ 31 → j ≠ 32 → j ≠ 36 → M' 0 j = M 0 j) → M' 0 36 = ((pushT F T).length : Int) → TN (M' 14) (pushT F T) → K M') : TQ i10_keepTurn 2 [vr 0] 15 (LM q, M) K := by
  have fin : ∀ (L : Nat) (T' : List FS) (M1 : Mem), T'.length = L → L < 8 → pushT F T = F :: T' → RMf F M1 → (∀ i, i ≠ 0 → i ≠ 14 → M1 i = M i) → (∀ j, j ≠ 36 → M1 0 j = M 0 j) → M1 0 36 = (L : Int) → TN (M1 14) T' →
      TQ i10_carryAll 4 [vr 0, vr 15, vi 1] 15 (LM q, M1) (fun M2 => TA i10_keepTurn 61 [some (vr 0), some (vi 0)] [] (LM (some 15), M2) (fun rv G' => rv = none ∧ ∃ M', G' = (LM (some 15), M') ∧ K M')) := by
    intro L T' M1 hl hL hp hR1 f1 f2 h36 hN1
    refine T_take_15 (fun M2 hk => ?_)
    obtain ⟨k1, k2, k3, k4, k5⟩ := hk
    have hs := snap_reg hR1 k5
    refine L_keep61 hL (M0 := M2) (fun M3 g1 g2 g3 => ?_) (by rw [k2 36 (by omega) (by omega)]; exact h36) 101 0 M2 rfl (fun _ _ => rfl) (fun _ _ => rfl) (fun j hj => absurd hj (by omega))
    refine h _ (fun i i0 i14 i15 => by rw [up_fr i0, g1 i i14, k1 i i0 i15]; exact f1 i i0 i14) (fun j j31 j32 j36 => by rw [up_sl j36, g1 0 (by omega), k2 j j31 j32]; exact f2 j j36) (by rw [up_eq, hp, List.length_cons, hl]; omega) ?_
    rw [hp, up_fr (by omega)]
    refine ⟨?_, TN_congr (fun j hj => ?_) hN1⟩
    · rw [hl]
      exact Snap_sh (a := 0) (fun j hj => by rw [g3 j hj]; congr 1; omega) hs
    · rw [hl] at hj
      rw [g2 j hj, k1 14 (by omega) (by omega)]
  refine W10_keepTurn_0 ⟨fun z => ?_, fun z => ?_⟩
  · rw [hT, weq (by omega) (by omega) (by omega) (by omega)] at z
    have hl : T.length = 8 := by omega
    have hd : T.dropLast.length = 7 := by rw [List.length_dropLast]; omega
    have hp : pushT F T = F :: T.dropLast := by unfold pushT; rw [if_pos hl]
    refine L_shift (M0 := M) (fun M1 g1 g2 => ?_) 707 0 M rfl (fun _ _ => rfl) (fun j hj => absurd hj (by omega)) (fun _ _ => rfl)
    have e36 : M1 0 36 - 1 = ((7 : Nat) : Int) := by rw [g1 0 (by omega), hT]; omega
    rw [e36]
    refine fin 7 T.dropLast _ hd (by omega) hp (hR.fr (fun i a b => by rw [up_fr (by omega)]; exact g1 i (by omega)) (fun j a b => by rw [up_sl (by omega), g1 0 (by omega)])) (fun i i0 i14 => by rw [up_fr i0]; exact g1 i i14) (fun j hj => by rw [up_sl hj, g1 0 (by omega)]) up_eq ?_
    rw [up_fr (by omega)]
    exact TN_drop (fun j hj => g2 j (by omega)) hN
  · rw [hT, weq (by omega) (by omega) (by omega) (by omega)] at z
    have hp : pushT F T = F :: T := by unfold pushT; rw [if_neg (by omega)]
    exact fin T.length T M rfl (by omega) hp hR (fun _ _ _ => rfl) (fun _ _ => rfl) hT hN
/-- the class: a change more -/
theorem L_loses {M0 : Mem} {K : Mem → Prop} (h : ∀ M', (∀ i, i ≠ 22 → i ≠ 24 → i ≠ 26 → i ≠ 28 → M' i = M0 i) → M' 22 0 = 7 → (∀ j, j < 7 → M' 24 j = M0 24 (j + 1) ∧ M' 26 j = M0 26 (j + 1) ∧ M' 28 j = M0 28 (j + 1)) → K M') :
    ∀ (k n : Nat) (M : Mem), n + k = 7 → (∀ i, i ≠ 24 → i ≠ 26 → i ≠ 28 → M i = M0 i) → (∀ j, j < n → M 24 j = M0 24 (j + 1) ∧ M 26 j = M0 26 (j + 1) ∧ M 28 j = M0 28 (j + 1)) → (∀ j, n ≤ j → M 24 j = M0 24 j ∧ M 26 j = M0 26 j ∧ M 28 j = M0 28 j) →
    TA i1_losesOldest 2 [some (vr 22), some (vi ((n : Int) + 1))] [] (LC, M) (fun rv G' => rv = none ∧ ∃ M', G' = (LC, M') ∧ K M')
  | 0, n, M, hn, hf, h1, h2 => by
    have e : n = 7 := by omega
    subst e
    refine W1_losesOldest_2_22 ⟨fun z => absurd z (by decide), fun _ => ⟨rfl, _, rfl, h _ (fun i i22 i24 i26 i28 => by rw [up_fr i22]; exact hf i i24 i26 i28) up_eq (fun j hj => ?_)⟩⟩
    rw [up_fr (by omega), up_fr (by omega), up_fr (by omega)]; exact h1 j hj
  | k + 1, n, M, hn, hf, h1, h2 => by
    have e1 : (n : Int) + 1 - 1 = (n : Int) := by omega
    have e3 : ((n : Int)).toNat = n := by omega
    have e4 : ((n : Int) + 1).toNat = n + 1 := by omega
    have e5 : ((n + 1 : Nat) : Int) + 1 = (n : Int) + 1 + 1 := by omega
    refine W1_losesOldest_2_22 ⟨fun _ => ?_, fun z => ?_⟩
    · rw [e1, wt_in (by omega) (by omega) (by omega), wt_in (by omega) (by omega) (by omega), wt_in (by omega) (by omega) (by omega), rd_in (by omega) (by omega) (by omega), rd_in (by omega) (by omega) (by omega), rd_in (by omega) (by omega) (by omega), e3, e4, up_fr (i := 26) (by omega), up_fr (i := 28) (by omega), up_fr (i := 28) (by omega)]
      obtain ⟨c1, c2, c3⟩ := h2 (n + 1) (by omega)
      have ih := L_loses h k (n + 1) (up (up (up M 24 n (M 24 (n + 1))) 26 n (M 26 (n + 1))) 28 n (M 28 (n + 1))) (by omega) (fun i i24 i26 i28 => by rw [up_fr i28, up_fr i26, up_fr i24]; exact hf i i24 i26 i28) (fun j hj => by
        rw [up_fr (i := 24) (by omega), up_fr (i := 24) (by omega), up_fr (i := 26) (by omega)]
        by_cases ej : j = n
        · rw [ej, up_eq, up_eq, up_eq]; exact ⟨c1, c2, c3⟩
        · rw [up_sl ej, up_sl ej, up_sl ej, up_fr (i := 26) (by omega), up_fr (i := 28) (by omega), up_fr (i := 28) (by omega)]; exact h1 j (by omega)) (fun j hj => by
        rw [up_fr (i := 24) (by omega), up_fr (i := 24) (by omega), up_fr (i := 26) (by omega), up_sl (by omega), up_sl (by omega), up_sl (by omega), up_fr (i := 26) (by omega), up_fr (i := 28) (by omega), up_fr (i := 28) (by omega)]; exact h2 j (by omega))
      rw [e5] at ih
      exact ih
    · rw [wlt (by omega) (by omega) (by omega) (by omega)] at z; omega
theorem T_adds {F F' : FS} {T : List FS} {M : Mem} (hT : M 22 0 = (T.length : Int)) (hC : CH (M 24) (M 26) (M 28) T F) (h8 : T.length ≤ 8) {s p b : Int} (hU : Und s p b F' F) {K : Mem → Prop}
    (h : ∀ M', (∀ i, i ≠ 22 → i ≠ 24 → i ≠ 26 → i ≠ 28 → M' i = M i) → M' 22 0 = ((pushT F T).length : Int) → CH (M' 24) (M' 26) (M' 28) (pushT F T) F' → K M') : TV i1_adds 4 [vr 22, vi s, vi p, vi b] (LC, M) K := by
  have fin : ∀ (L : Nat) (T' : List FS) (M1 : Mem), T'.length = L → L < 8 → pushT F T = F :: T' → (∀ i, i ≠ 22 → i ≠ 24 → i ≠ 26 → i ≠ 28 → M1 i = M i) → M1 22 0 = (L : Int) → CH (M1 24) (M1 26) (M1 28) T' F →
      K (up (wt (wt (wt M1 24 8 (M1 22 0) s) 26 8 ((wt M1 24 8 (M1 22 0) s) 22 0) p) 28 8 ((wt (wt M1 24 8 (M1 22 0) s) 26 8 ((wt M1 24 8 (M1 22 0) s) 22 0) p) 22 0) b) 22 0 (((wt (wt (wt M1 24 8 (M1 22 0) s) 26 8 ((wt M1 24 8 (M1 22 0) s) 22 0) p) 28 8 ((wt (wt M1 24 8 (M1 22 0) s) 26 8 ((wt M1 24 8 (M1 22 0) s) 22 0) p) 22 0) b) 22 0) + 1)) := by
    intro L T' M1 hl hL hp f1 h22 hC1
    have eL : ((L : Int)).toNat = L := by omega
    rw [h22, wt_in (M := M1) (by omega) (by omega) (by omega), eL, up_fr (i := 22) (a := 24) (by omega), h22, wt_in (a := 26) (by omega) (by omega) (by omega), eL, up_fr (i := 22) (a := 26) (by omega), up_fr (i := 22) (a := 24) (by omega), h22, wt_in (a := 28) (by omega) (by omega) (by omega), eL, up_fr (i := 22) (a := 28) (by omega), up_fr (i := 22) (a := 26) (by omega), up_fr (i := 22) (a := 24) (by omega), h22]
    refine h _ (fun i i22 i24 i26 i28 => by rw [up_fr i22, up_fr i28, up_fr i26, up_fr i24]; exact f1 i i22 i24 i26 i28) (by rw [up_eq, hp, List.length_cons, hl]; omega) ?_
    rw [hp, up_fr (i := 24) (by omega), up_fr (i := 26) (by omega), up_fr (i := 28) (by omega), up_fr (i := 24) (by omega), up_fr (i := 24) (by omega), up_fr (i := 26) (by omega)]
    refine ⟨?_, ?_⟩
    · rw [hl, up_eq, up_eq, up_eq]; exact hU
    · refine CH_congr (fun j hj => ?_) hC1
      rw [hl] at hj
      rw [up_sl (by omega), up_sl (by omega), up_sl (by omega), up_fr (i := 26) (by omega), up_fr (i := 28) (by omega), up_fr (i := 28) (by omega)]
      exact ⟨rfl, rfl, rfl⟩
  refine W1_adds_0_22 ⟨fun z => ?_, fun z => ?_⟩
  · rw [hT, wlt (by omega) (by omega) (by omega) (by omega)] at z
    have hp : pushT F T = F :: T := by unfold pushT; rw [if_neg (by omega)]
    exact ⟨rfl, _, rfl, fin T.length T M rfl (by omega) hp (fun _ _ _ _ _ => rfl) hT hC⟩
  · rw [hT, wlt (by omega) (by omega) (by omega) (by omega)] at z
    have hl : T.length = 8 := by omega
    have hd : T.dropLast.length = 7 := by rw [List.length_dropLast]; omega
    have hp : pushT F T = F :: T.dropLast := by unfold pushT; rw [if_pos hl]
    refine W1_losesOldest_0_22 (L_loses (M0 := M) (fun M1 g1 g2 g3 => ⟨rfl, _, rfl, fin 7 T.dropLast M1 hd (by omega) hp g1 (by rw [g2]; rfl) ?_⟩) 7 0 M rfl (fun _ _ _ _ => rfl) (fun j hj => absurd hj (by omega)) (fun _ _ => ⟨rfl, rfl, rfl⟩))
    exact CH_drop (fun j hj => g3 j (by omega)) hC

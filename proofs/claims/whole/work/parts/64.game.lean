/-! game: both sides answer alike -/
def gmT (a0 a1 b0 b1 : Int) : Int := if a0 + 25 ≤ a1 ∧ b0 + 25 ≤ b1 then 0 else if a0 ≤ a1 + 25 ∧ b1 ≤ b0 + 25 then 1 else if a1 ≤ a0 + 25 ∧ b0 ≤ b1 + 25 then 10 else if a1 + 25 ≤ a0 ∧ b1 + 25 ≤ b0 then 11 else -9
def gmR (A0 A1 B0 B1 : RS) : Int := match A0, A1, B0, B1 with
  | some (_, a0, _, _), some (_, a1, _, _), some (_, b0, _, _), some (_, b1, _, _) => gmT a0 a1 b0 b1
  | _, _, _, _ => -9
theorem T_stays {i j x y : Int} (hi : i = 0 ∨ i = 1) (hj : j = 0 ∨ j = 1) (hx : 0 ≤ x ∧ x ≤ 100000) (hy : 0 ≤ y ∧ y ≤ 100000) {M : Mem} {K : Int → Mem → Prop} (h : K (if (if i = 0 then x else y) + (if i = j then 25 else 0) ≤ (if i = 0 then y else x) + (if i = j then 0 else 25) then 1 else 0) M) : TI i9_staysIn 6 [vi i, vi j, vi x, vi y] (LC, M) K := by
  have ei : wr i = i := wr_id (by omega) (by omega)
  have ej : wr j = j := wr_id (by omega) (by omega)
  have e : (if wr ((if wr i = 0 then y else x) + (if wr i = wr j then 0 else 25)) < wr ((if wr i = 0 then x else y) + (if wr i = wr j then 25 else 0)) then (0 : Int) else 1) = (if (if i = 0 then x else y) + (if i = j then 25 else 0) ≤ (if i = 0 then y else x) + (if i = j then 0 else 25) then 1 else 0) := by
    rw [ei, ej, wr_id (x := (if i = 0 then y else x) + (if i = j then 0 else 25)) (by (repeat' split) <;> omega) (by (repeat' split) <;> omega), wr_id (x := (if i = 0 then x else y) + (if i = j then 25 else 0)) (by (repeat' split) <;> omega) (by (repeat' split) <;> omega)]
    (repeat' split) <;> omega
  refine W9_staysIn_0 (W9_staysIn_9 (W9_staysIn_20 (W9_staysIn_32 (W9_staysIn_43 (W9_staysIn_58 ⟨?_, _, M, rfl, rfl, ?_⟩)))))
  · rw [e]
    by_cases g : (if i = 0 then x else y) + (if i = j then 25 else 0) ≤ (if i = 0 then y else x) + (if i = j then 0 else 25)
    · rw [if_pos g]; exact wb1
    · rw [if_neg g]; exact wb0
  · rw [e]; exact h
theorem L_gmC {S : ST} {M : Mem} (hM : RC S M) {a0 a1 b0 b1 : Int} (h0 : 0 ≤ a0 ∧ a0 ≤ 9000) (h1 : 0 ≤ a1 ∧ a1 ≤ 9000) (h2 : 0 ≤ b0 ∧ b0 ≤ 9000) (h3 : 0 ≤ b1 ∧ b1 ≤ 9000) : TA i9_game 124 [none, none, none, none, none, none, none, none, some (vi a0), some (vi a1), some (vi b0), some (vi b1), some (vi 0), none, none] [] (LC, M) (CP S (gmT a0 a1 b0 b1)) := by
  have w2 : ¬ wr (0 + 1 + 1 : Int) < wr 2 := by decide
  have st : ∀ (i j x y : Int), (i = 0 ∨ i = 1) → (j = 0 ∨ j = 1) → (0 ≤ x ∧ x ≤ 9000) → (0 ≤ y ∧ y ≤ 9000) → ∀ K : Int → Mem → Prop, (∀ v : Int, (v = 1 ∧ (if i = 0 then x else y) + (if i = j then 25 else 0) ≤ (if i = 0 then y else x) + (if i = j then 0 else 25) ∨ v = 0 ∧ ¬ ((if i = 0 then x else y) + (if i = j then 25 else 0) ≤ (if i = 0 then y else x) + (if i = j then 0 else 25))) → K v M) → TI i9_staysIn 6 [vi i, vi j, vi x, vi y] (LC, M) K := by
    intro i j x y hi hj hx hy K hK
    refine T_stays hi hj (by omega) (by omega) (hK _ ?_)
    by_cases g : (if i = 0 then x else y) + (if i = j then 25 else 0) ≤ (if i = 0 then y else x) + (if i = j then 0 else 25)
    · rw [if_pos g]; exact Or.inl ⟨rfl, g⟩
    · rw [if_neg g]; exact Or.inr ⟨rfl, g⟩
  have v01 : ∀ v : Int, (v = 0 ∨ v = 1) → wr v = v := fun v hv => wr_id (by omega) (by omega)
  have one : ∀ (i j : Int) (Post : Option AV → GM → Prop), (i = 0 ∨ i = 1) → (j = 0 ∨ j = 1) →
      (((if i = 0 then a0 else a1) + (if i = j then 25 else 0) ≤ (if i = 0 then a1 else a0) + (if i = j then 0 else 25) ∧ (if j = 0 then b0 else b1) + (if j = i then 25 else 0) ≤ (if j = 0 then b1 else b0) + (if j = i then 0 else 25)) → Post (some (vi (10 * i + j))) (LC, M)) →
      (¬ ((if i = 0 then a0 else a1) + (if i = j then 25 else 0) ≤ (if i = 0 then a1 else a0) + (if i = j then 0 else 25) ∧ (if j = 0 then b0 else b1) + (if j = i then 25 else 0) ≤ (if j = 0 then b1 else b0) + (if j = i then 0 else 25)) → TA i9_game 133 [none, none, none, none, none, none, none, none, some (vi a0), some (vi a1), some (vi b0), some (vi b1), some (vi i), some (vi (j + 1)), none] [] (LC, M) Post) →
      TA i9_game 133 [none, none, none, none, none, none, none, none, some (vi a0), some (vi a1), some (vi b0), some (vi b1), some (vi i), some (vi j), none] [] (LC, M) Post := by
    intro i j Post hi hj hy hn
    refine W9_game_133 ⟨fun _ => st i j a0 a1 hi hj h0 h1 _ (fun v hv => ?_), fun z => ?_⟩
    · rcases hv with ⟨rfl, g1⟩ | ⟨rfl, g1⟩
      · refine ⟨fun z => by rw [wr1] at z; omega, fun _ => st j i b0 b1 hj hi h2 h3 _ (fun v hv => ?_)⟩
        rcases hv with ⟨rfl, g2⟩ | ⟨rfl, g2⟩
        · exact ⟨fun z => by rw [wr1] at z; omega, fun _ => hy ⟨g1, g2⟩⟩
        · exact ⟨fun _ => hn (fun c => g2 c.2), fun z => absurd wr0 z⟩
      · exact ⟨fun _ => hn (fun c => g1 c.1), fun z => absurd wr0 z⟩
    · rw [wlt (by omega) (by omega) (by omega) (by omega)] at z; omega
  refine W9_game_124 ⟨fun _ => ?_, fun z => absurd (by decide) z⟩
  refine one 0 0 _ (Or.inl rfl) (Or.inl rfl) (fun g => ⟨M, ?_, rfl, hM⟩) (fun g => ?_)
  · have g' : a0 + 25 ≤ a1 ∧ b0 + 25 ≤ b1 := ⟨by simpa using g.1, by simpa using g.2⟩
    unfold gmT; rw [if_pos g']; rfl
  · have g' : ¬ (a0 + 25 ≤ a1 ∧ b0 + 25 ≤ b1) := fun c => g ⟨by simpa using c.1, by simpa using c.2⟩
    refine one 0 (0 + 1) _ (Or.inl rfl) (Or.inr rfl) (fun g2 => ⟨M, ?_, rfl, hM⟩) (fun g2 => ?_)
    · have g2' : a0 ≤ a1 + 25 ∧ b1 ≤ b0 + 25 := ⟨by simpa using g2.1, by simpa using g2.2⟩
      unfold gmT; rw [if_neg g', if_pos g2']; rfl
    · have g2' : ¬ (a0 ≤ a1 + 25 ∧ b1 ≤ b0 + 25) := fun c => g2 ⟨by simpa using c.1, by simpa using c.2⟩
      refine W9_game_133 ⟨fun z => absurd z w2, fun _ => W9_game_124 ⟨fun _ => ?_, fun z => absurd (by decide) z⟩⟩
      refine one (0 + 1) 0 _ (Or.inr rfl) (Or.inl rfl) (fun g3 => ⟨M, ?_, rfl, hM⟩) (fun g3 => ?_)
      · have g3' : a1 ≤ a0 + 25 ∧ b0 ≤ b1 + 25 := ⟨by simpa using g3.1, by simpa using g3.2⟩
        unfold gmT; rw [if_neg g', if_neg g2', if_pos g3']; rfl
      · have g3' : ¬ (a1 ≤ a0 + 25 ∧ b0 ≤ b1 + 25) := fun c => g3 ⟨by simpa using c.1, by simpa using c.2⟩
        refine one (0 + 1) (0 + 1) _ (Or.inr rfl) (Or.inr rfl) (fun g4 => ⟨M, ?_, rfl, hM⟩) (fun g4 => ?_)
        · have g4' : a1 + 25 ≤ a0 ∧ b1 + 25 ≤ b0 := ⟨by simpa using g4.1, by simpa using g4.2⟩
          unfold gmT; rw [if_neg g', if_neg g2', if_neg g3', if_pos g4']; rfl
        · have g4' : ¬ (a1 + 25 ≤ a0 ∧ b1 + 25 ≤ b0) := fun c => g4 ⟨by simpa using c.1, by simpa using c.2⟩
          refine W9_game_133 ⟨fun z => absurd z w2, fun _ => W9_game_124 ⟨fun z => absurd z w2, fun _ => ⟨M, ?_, rfl, hM⟩⟩⟩
          unfold gmT; rw [if_neg g', if_neg g2', if_neg g3', if_neg g4']
/-- the reference: a lane -/
theorem L_gmM1 {q : Option Nat} {F : FS} (hF : FOK F) {u v : Nat} (hu : u < 6) (hv : v < 6) {h p : Int} (hb : BOK h p) {l : Nat} (hl : l < 2) {x8 x9 : Int} (h9 : x9 = 0 ∨ x9 = 1) {M : Mem} (hR : RMf (setLn F (l : Int)) M) {Post : Option AV → GM → Prop}
    (hN : ∀ M' (x9' : Int), (∀ i, i ≠ 0 → i ≠ 7 → i ≠ 21 → i ≠ 22 → M' i = M i) → (∀ j, j ≠ 3 → (j < 10 ∨ 18 < j) → M' 0 j = M 0 j) → M' 0 3 = ((l + 1 : Nat) : Int) → M' 21 l = tvM (sRace F l u h p) → M' 22 l = tvM (sRace F l v h p) → (∀ j, j ≠ l → M' 21 j = M 21 j ∧ M' 22 j = M 22 j) → (x9 = 0 ∧ sRace F l u h p ≠ none ∧ sRace F l v h p ≠ none ∧ x9' = 0 ∨ ¬ (x9 = 0 ∧ sRace F l u h p ≠ none ∧ sRace F l v h p ≠ none) ∧ x9' = 1) →
      TA i10_game 61 [some (vr 0), none, some (vi (u : Int)), none, some (vi (v : Int)), some (vi h), some (vi p), none, some (vi x8), some (vi x9'), none, none, none, none, none] [] (LM q, M') Post) :
    TA i10_game 61 [some (vr 0), none, some (vi (u : Int)), none, some (vi (v : Int)), some (vi h), some (vi p), none, some (vi x8), some (vi x9), none, none, none, none, none] [] (LM q, M) Post := by
  have hG : FOK (setLn F (l : Int)) := hF.setLn (by omega)
  have el : (ln (setLn F (l : Int))).toNat = l := by show ((l : Int)).toNat = l; omega
  have e3 : M 0 3 = (l : Int) := hR.2.1
  have ewl : wr (l : Int) = (l : Int) := wr_id (by omega) (by omega)
  have enl : ((l : Int)).toNat = l := by omega
  have bl : 0 ≤ (l : Int) ∧ (l : Int) < ((2 : Nat) : Int) := by omega
  have tA : TB (sRace F l u h p) := TB_race hF hl hu hb
  have tB : TB (sRace F l v h p) := TB_race hF hl hv hb
  have lA := tvM_le tA
  have lB := tvM_le tB
  have nA : tvM (sRace F l u h p) = 9999999 ↔ sRace F l u h p = none := by
    revert tA
    cases sRace F l u h p with
    | none => exact fun _ => ⟨fun _ => rfl, fun _ => rfl⟩
    | some z => obtain ⟨x, t, y, r⟩ := z; intro tA; have h2 : 0 ≤ t ∧ t ≤ 9000 := tA; exact ⟨fun e => by have e' : t = 9999999 := e; omega, fun e => by cases e⟩
  have nB : tvM (sRace F l v h p) = 9999999 ↔ sRace F l v h p = none := by
    revert tB
    cases sRace F l v h p with
    | none => exact fun _ => ⟨fun _ => rfl, fun _ => rfl⟩
    | some z => obtain ⟨x, t, y, r⟩ := z; intro tB; have h2 : 0 ≤ t ∧ t ≤ 9000 := tB; exact ⟨fun e => by have e' : t = 9999999 := e; omega, fun e => by cases e⟩
  refine W10_game_61 ⟨fun _ => ?_, fun z => ?_⟩
  · refine T_plainRun hG hb hu hR (fun M1 hL1 => ?_)
    rw [el] at hL1 ⊢
    have r1e : sRace (setLn F (l : Int)) l u h p = sRace F l u h p := rfl
    rw [r1e, e3, ewl, enl]
    refine ⟨bl, ?_⟩
    have hR1 : RMf (setLn F (l : Int)) (up M1 21 l (tvM (sRace F l u h p))) := (hL1.1.F hR).fr (fun i a b => up_fr (by omega)) (fun j a b => by rw [up_fr (by omega)])
    refine T_plainRun hG hb hv hR1 (fun M2 hL2 => ?_)
    rw [el] at hL2 ⊢
    have r2e : sRace (setLn F (l : Int)) l v h p = sRace F l v h p := rfl
    have f2 := hL2.1
    have f1 := hL1.1
    have e31 : M1 0 3 = (l : Int) := by rw [f1.2 3 (by omega)]; exact e3
    have e32 : M2 0 3 = (l : Int) := by rw [f2.2 3 (by omega), up_fr (by omega)]; exact e31
    have e21 : M2 21 l = tvM (sRace F l u h p) := by rw [f2.1 21 (by omega) (by omega), up_eq]
    rw [r2e, e31, e32, ewl, enl, e21, up_eq]
    have fin : ∀ x9' : Int, (x9 = 0 ∧ sRace F l u h p ≠ none ∧ sRace F l v h p ≠ none ∧ x9' = 0 ∨ ¬ (x9 = 0 ∧ sRace F l u h p ≠ none ∧ sRace F l v h p ≠ none) ∧ x9' = 1) → TA i10_game 144 [some (vr 0), none, some (vi (u : Int)), none, some (vi (v : Int)), some (vi h), some (vi p), none, some (vi x8), none, none, none, none, none, none] [vi x9'] (LM q, up M2 22 l (tvM (sRace F l v h p))) Post := by
      intro x9' hx
      refine W10_game_144 ?_
      have e33 : (up M2 22 l (tvM (sRace F l v h p))) 0 3 + 1 = ((l + 1 : Nat) : Int) := by rw [up_fr (by omega), e32]; omega
      rw [e33]
      refine hN _ x9' (fun i i0 i7 i21 i22 => by rw [up_fr i0, up_fr i22, f2.1 i i0 i7, up_fr i21]; exact f1.1 i i0 i7) (fun j j3 hj => by rw [up_sl j3, up_fr (by omega), f2.2 j hj, up_fr (by omega)]; exact f1.2 j hj) up_eq (by rw [up_fr (by omega), up_fr (by omega)]; exact e21) (by rw [up_fr (by omega), up_eq]) (fun j hj => ⟨by rw [up_fr (by omega), up_fr (by omega), f2.1 21 (by omega) (by omega), up_sl hj, f1.1 21 (by omega) (by omega)], by rw [up_fr (by omega), up_sl hj, f2.1 22 (by omega) (by omega), up_fr (by omega), f1.1 22 (by omega) (by omega)]⟩) hx
    refine ⟨bl, fun z9 => ⟨bl, fun zA => fin 1 ?_, fun zA => ⟨bl, fin _ ?_⟩⟩, fun z9 => fin 1 ?_⟩
    · rw [weq (by omega) (by omega) (by omega) (by omega)] at zA
      exact Or.inr ⟨fun c => c.2.1 (nA.1 zA), rfl⟩
    · rw [weq (by omega) (by omega) (by omega) (by omega)] at zA
      rw [wr_id (x := x9) (by omega) (by omega)] at z9
      rw [wr_id (x := tvM (sRace F l v h p)) (by omega) (by omega), wr_id (x := 9999999) (by omega) (by omega)]
      by_cases g : tvM (sRace F l v h p) = 9999999
      · rw [if_pos g]; exact Or.inr ⟨fun c => c.2.2 (nB.1 g), rfl⟩
      · rw [if_neg g]; exact Or.inl ⟨z9, fun c => zA (nA.2 c), fun c => g (nB.2 c), rfl⟩
    · rw [wr_id (x := x9) (by omega) (by omega)] at z9
      exact Or.inr ⟨fun c => z9 c.1, rfl⟩
  · rw [e3, wlt (by omega) (by omega) (by omega) (by omega)] at z; omega
theorem L_gmM2 {q : Option Nat} {M : Mem} {a0 a1 b0 b1 : Int} (h0 : 0 ≤ a0 ∧ a0 ≤ 9000) (h1 : 0 ≤ a1 ∧ a1 ≤ 9000) (h2 : 0 ≤ b0 ∧ b0 ≤ 9000) (h3 : 0 ≤ b1 ∧ b1 ≤ 9000) (m0 : M 21 0 = a0) (m1 : M 21 1 = a1) (m2 : M 22 0 = b0) (m3 : M 22 1 = b1) {Post : Option AV → GM → Prop} (hK : Post (some (vi (gmT a0 a1 b0 b1))) (LM q, M)) : TA i10_game 168 [some (vr 0), none, none, none, none, none, none, none, none, some (vi 0), some (vi 0), none, none, none, none] [] (LM q, M) Post := by
  have one : ∀ (k : Int) (i j : Nat), i < 2 → j < 2 → (k = 2 * (i : Int) + (j : Int)) →
      ((M 21 i + (if i = j then 25 else 0) ≤ M 21 (1 - i) + (if i = j then 0 else 25) ∧ M 22 j + (if i = j then 25 else 0) ≤ M 22 (1 - j) + (if i = j then 0 else 25)) → Post (some (vi (10 * (i : Int) + (j : Int)))) (LM q, M)) →
      (¬ (M 21 i + (if i = j then 25 else 0) ≤ M 21 (1 - i) + (if i = j then 0 else 25) ∧ M 22 j + (if i = j then 25 else 0) ≤ M 22 (1 - j) + (if i = j then 0 else 25)) → TA i10_game 168 [some (vr 0), none, none, none, none, none, none, none, none, some (vi 0), some (vi (k + 1)), none, none, none, none] [] (LM q, M) Post) →
      TA i10_game 168 [some (vr 0), none, none, none, none, none, none, none, none, some (vi 0), some (vi k), none, none, none, none] [] (LM q, M) Post := by
    intro k i j hi hj hk hy hn
    have mi : ∀ i : Nat, i < 2 → 0 ≤ M 21 i ∧ M 21 i ≤ 9000 := by
      intro i hi
      have : i = 0 ∨ i = 1 := by omega
      rcases this with rfl | rfl
      · rw [m0]; exact h0
      · rw [m1]; exact h1
    have mj : ∀ i : Nat, i < 2 → 0 ≤ M 22 i ∧ M 22 i ≤ 9000 := by
      intro i hi
      have : i = 0 ∨ i = 1 := by omega
      rcases this with rfl | rfl
      · rw [m2]; exact h2
      · rw [m3]; exact h3
    have qi := mi i hi
    have qi' := mi (1 - i) (by omega)
    have qj := mj j hj
    have qj' := mj (1 - j) (by omega)
    have d1 : dv k 2 = (i : Int) := by rw [dv_nat (by omega) (by omega) (by omega) (by omega)]; omega
    have d2 : rmd k 2 = (j : Int) := by rw [rmd_nat (by omega) (by omega) (by omega) (by omega)]; omega
    have wi : wr (i : Int) = (i : Int) := wr_id (by omega) (by omega)
    have wj : wr (j : Int) = (j : Int) := wr_id (by omega) (by omega)
    have wi' : wr (1 - (i : Int)) = ((1 - i : Nat) : Int) := by rw [wr_id (by omega) (by omega)]; omega
    have wj' : wr (1 - (j : Int)) = ((1 - j : Nat) : Int) := by rw [wr_id (by omega) (by omega)]; omega
    have ni : ∀ i : Nat, ((i : Int)).toNat = i := fun i => by omega
    have eij : ∀ x y : Int, (if (i : Int) = (j : Int) then x else y) = if i = j then x else y := by
      intro x y
      by_cases g : i = j
      · rw [if_pos g, if_pos (by omega)]
      · rw [if_neg g, if_neg (by omega)]
    refine W10_game_168 ⟨fun _ => ⟨fun _ => ⟨by decide, by decide, ?_⟩, fun z => absurd wr0 z⟩, fun z => ?_⟩
    · rw [d1, d2, wi, wj, ni, eij]
      refine ⟨by omega, W10_game_211 ⟨by rw [wi']; omega, W10_game_234 (W10_game_243 ⟨by rw [wj]; omega, W10_game_265 ⟨by rw [wj']; omega, W10_game_288 (W10_game_297 ?_)⟩⟩)⟩⟩
      rw [wi, wj, wi', wj', ni, ni, ni, eij, eij]
      obtain ⟨x, hx⟩ : ∃ x : Int, x = if i = j then 25 else 0 := ⟨_, rfl⟩
      obtain ⟨y, hy'⟩ : ∃ y : Int, y = if i = j then 0 else 25 := ⟨_, rfl⟩
      have bx : 0 ≤ x ∧ x ≤ 25 := by rw [hx]; split <;> omega
      have by' : 0 ≤ y ∧ y ≤ 25 := by rw [hy']; split <;> omega
      rw [← hx, ← hy'] at hy hn ⊢
      have c1 : (if wr (M 21 (1 - i) + y) < wr (M 21 i + x) then (0 : Int) else 1) = if M 21 i + x ≤ M 21 (1 - i) + y then 1 else 0 := by
        rw [wr_id (x := M 21 (1 - i) + y) (by omega) (by omega), wr_id (x := M 21 i + x) (by omega) (by omega)]
        (repeat' split) <;> omega
      have c2 : (if wr (M 22 (1 - j) + y) < wr (M 22 j + x) then (0 : Int) else 1) = if M 22 j + x ≤ M 22 (1 - j) + y then 1 else 0 := by
        rw [wr_id (x := M 22 (1 - j) + y) (by omega) (by omega), wr_id (x := M 22 j + x) (by omega) (by omega)]
        (repeat' split) <;> omega
      rw [c1, c2]
      by_cases g1 : M 21 i + x ≤ M 21 (1 - i) + y
      · rw [if_pos g1]
        refine ⟨fun z => by rw [wr1] at z; omega, fun _ => ?_⟩
        by_cases g2 : M 22 j + x ≤ M 22 (1 - j) + y
        · rw [if_pos g2]
          exact ⟨fun z => by rw [wr1] at z; omega, fun _ => hy ⟨g1, g2⟩⟩
        · rw [if_neg g2]
          exact ⟨fun _ => hn (fun c => g2 c.2), fun z => absurd wr0 z⟩
      · rw [if_neg g1]
        exact ⟨fun _ => hn (fun c => g1 c.1), fun z => absurd wr0 z⟩
    · rw [wlt (by omega) (by omega) (by omega) (by omega)] at z; omega
  have s0 : ∀ k : Int, k = k := fun _ => rfl
  refine one 0 0 0 (by omega) (by omega) rfl (fun g => ?_) (fun g => ?_)
  · have g' : a0 + 25 ≤ a1 ∧ b0 + 25 ≤ b1 := by rw [← m0, ← m1, ← m2, ← m3]; exact ⟨by simpa using g.1, by simpa using g.2⟩
    unfold gmT at hK; rw [if_pos g'] at hK; exact hK
  · have g' : ¬ (a0 + 25 ≤ a1 ∧ b0 + 25 ≤ b1) := fun c => g (by rw [← m0, ← m1, ← m2, ← m3] at c; exact ⟨by simpa using c.1, by simpa using c.2⟩)
    refine one (0 + 1) 0 1 (by omega) (by omega) rfl (fun g2 => ?_) (fun g2 => ?_)
    · have g2' : a0 ≤ a1 + 25 ∧ b1 ≤ b0 + 25 := by rw [← m0, ← m1, ← m2, ← m3]; exact ⟨by simpa using g2.1, by simpa using g2.2⟩
      unfold gmT at hK; rw [if_neg g', if_pos g2'] at hK; exact hK
    · have g2' : ¬ (a0 ≤ a1 + 25 ∧ b1 ≤ b0 + 25) := fun c => g2 (by rw [← m0, ← m1, ← m2, ← m3] at c; exact ⟨by simpa using c.1, by simpa using c.2⟩)
      refine one (0 + 1 + 1) 1 0 (by omega) (by omega) rfl (fun g3 => ?_) (fun g3 => ?_)
      · have g3' : a1 ≤ a0 + 25 ∧ b0 ≤ b1 + 25 := by rw [← m0, ← m1, ← m2, ← m3]; exact ⟨by simpa using g3.1, by simpa using g3.2⟩
        unfold gmT at hK; rw [if_neg g', if_neg g2', if_pos g3'] at hK; exact hK
      · have g3' : ¬ (a1 ≤ a0 + 25 ∧ b0 ≤ b1 + 25) := fun c => g3 (by rw [← m0, ← m1, ← m2, ← m3] at c; exact ⟨by simpa using c.1, by simpa using c.2⟩)
        refine one (0 + 1 + 1 + 1) 1 1 (by omega) (by omega) rfl (fun g4 => ?_) (fun g4 => ?_)
        · have g4' : a1 + 25 ≤ a0 ∧ b1 + 25 ≤ b0 := by rw [← m0, ← m1, ← m2, ← m3]; exact ⟨by simpa using g4.1, by simpa using g4.2⟩
          unfold gmT at hK; rw [if_neg g', if_neg g2', if_neg g3', if_pos g4'] at hK; exact hK
        · have g4' : ¬ (a1 + 25 ≤ a0 ∧ b1 + 25 ≤ b0) := fun c => g4 (by rw [← m0, ← m1, ← m2, ← m3] at c; exact ⟨by simpa using c.1, by simpa using c.2⟩)
          unfold gmT at hK; rw [if_neg g', if_neg g2', if_neg g3', if_neg g4'] at hK
          exact W10_game_168 ⟨fun z => absurd z (by decide), fun _ => hK⟩
theorem SIM_game {a b c d h p : Int} (ia : IR a) (ib : IR b) (ic : IR c) (id' : IR d) (ih : IR h) (ip : IR p) : SIM i9_game 15 i10_game 15 [vi a, vi b, vi c, vi d, vi h, vi p] := by
  intro S hS
  have hF := hS.1
  have hby := sBy_le h p
  obtain ⟨W, hW⟩ : ∃ W : Int, W = if sFour (sF S) a b c d then sBy h p else -1 := ⟨_, rfl⟩
  have hWb : -6 ≤ W ∧ W ≤ 0 := by rw [hW]; split <;> omega
  have k1 : ∀ M, RC S M → f9_firstOf (f9_noFour M a b c d) (f9_low h p) (f9_high h p) = W := by
    intro M hM
    rw [by_eq (F := sF S) ih ip (noFour_eq hF hM.1 ia ib ic id'), hW]
    by_cases g : sFour (sF S) a b c d
    · rw [if_neg (fun z => z g), if_pos g]
    · rw [if_pos g, if_neg g]
  have k2 : ∀ M, RM S M → (if wr (f10_wrongFour (up M 0 8 0) a b c d) = 0 then f10_wrongBy h p else f10_wrongFour (up M 0 8 0) a b c d) = W := by
    intro M hM
    rw [wrongFour_eq hF hM.thr.1 ia ib ic id', wrongBy_eq ih ip, hW]
    by_cases g : sFour (sF S) a b c d
    · rw [if_pos g, if_pos wr0, if_pos g]
    · rw [if_neg g, if_neg (by rw [wr_id (by omega) (by omega)]; omega), if_neg g]
  by_cases e : W = 0
  · have g4 : sFour (sF S) a b c d := by
      apply Classical.byContradiction
      intro c4
      rw [if_neg c4] at hW; omega
    have hB : BOK h p := by rw [if_pos g4] at hW; exact sBy_ok (by omega)
    obtain ⟨u, hu6, rfl, -⟩ := g4.1.2.1.n hF
    obtain ⟨v, hv6, rfl, -⟩ := g4.2.1.2.1.n hF
    obtain ⟨A0, hA0⟩ : ∃ A, A = sRace (sF S) 0 u h p := ⟨_, rfl⟩
    obtain ⟨A1, hA1⟩ : ∃ A, A = sRace (sF S) 1 u h p := ⟨_, rfl⟩
    obtain ⟨B0, hB0⟩ : ∃ A, A = sRace (sF S) 0 v h p := ⟨_, rfl⟩
    obtain ⟨B1, hB1⟩ : ∃ A, A = sRace (sF S) 1 v h p := ⟨_, rfl⟩
    have tA0 : TB A0 := by rw [hA0]; exact TB_race hF (by omega) hu6 hB
    have tA1 : TB A1 := by rw [hA1]; exact TB_race hF (by omega) hu6 hB
    have tB0 : TB B0 := by rw [hB0]; exact TB_race hF (by omega) hv6 hB
    have tB1 : TB B1 := by rw [hB1]; exact TB_race hF (by omega) hv6 hB
    refine ⟨gmR A0 A1 B0 B1, S, hS, fun M hM => W9_game_0 ⟨fun _ => ?_, fun z => ?_⟩, fun q M hM => W10_game_0 ⟨isOne_01 hF hM.1 ia, isOne_01 hF hM.1 ib, isOne_01 hF hM.1 ic, isOne_01 hF hM.1 id', ?_⟩⟩
    · refine T_timeIn hF hM.1 (l := 0) (by omega) hu6 hB (fun M1 hL1 => ?_)
      have hM1 := hM.fr hL1.C
      refine T_timeIn hF hM1.1 (l := 1) (by omega) hu6 hB (fun M2 hL2 => ?_)
      have hM2 := hM1.fr hL2.C
      refine T_timeIn hF hM2.1 (l := 0) (by omega) hv6 hB (fun M3 hL3 => ?_)
      have hM3 := hM2.fr hL3.C
      refine T_timeIn hF hM3.1 (l := 1) (by omega) hv6 hB (fun M4 hL4 => ?_)
      have hM4 := hM3.fr hL4.C
      rw [show sRace (sF S) (0 : Int).toNat u h p = A0 from hA0.symm, show sRace (sF S) (1 : Int).toNat u h p = A1 from hA1.symm, show sRace (sF S) (0 : Int).toNat v h p = B0 from hB0.symm, show sRace (sF S) (1 : Int).toNat v h p = B1 from hB1.symm]
      have nn : ¬ wr (tvC none) < wr 10000000 := by rw [show tvC none = 10000000 from rfl]; omega
      have ss : ∀ {z : Int × Int × Int × Int}, TB (some z) → wr (tvC (some z)) < wr 10000000 := by
        intro z hz
        obtain ⟨x, t, y, r⟩ := z
        have h2 : 0 ≤ t ∧ t ≤ 9000 := hz
        show wr t < wr 10000000
        rw [wlt (by omega) (by omega) (by omega) (by omega)]; omega
      cases A0 with
      | none => exact ⟨fun z => absurd z nn, fun _ => ⟨M4, rfl, rfl, hM4⟩⟩
      | some z0 =>
        refine ⟨fun _ => ?_, fun z => absurd (ss tA0) z⟩
        cases A1 with
        | none => exact ⟨fun z => absurd z nn, fun _ => ⟨M4, rfl, rfl, hM4⟩⟩
        | some z1 =>
          refine ⟨fun _ => ?_, fun z => absurd (ss tA1) z⟩
          cases B0 with
          | none => exact ⟨fun z => absurd z nn, fun _ => ⟨M4, rfl, rfl, hM4⟩⟩
          | some z2 =>
            refine ⟨fun _ => ?_, fun z => absurd (ss tB0) z⟩
            cases B1 with
            | none => exact ⟨fun z => absurd z nn, fun _ => ⟨M4, rfl, rfl, hM4⟩⟩
            | some z3 =>
              refine ⟨fun _ => ?_, fun z => absurd (ss tB1) z⟩
              obtain ⟨x0, t0, y0, r0⟩ := z0
              obtain ⟨x1, t1, y1, r1⟩ := z1
              obtain ⟨x2, t2, y2, r2⟩ := z2
              obtain ⟨x3, t3, y3, r3⟩ := z3
              exact L_gmC hM4 tA0 tA1 tB0 tB1
    · rw [k1 M hM, e] at z; exact absurd wr0 z
    · rw [k2 M hM, e]
      have hT := hM.thr
      refine W10_game_33 ⟨fun z => ?_, fun _ => ?_⟩
      · rw [wr0] at z; omega
      · have eln : up M 0 8 0 0 3 = ln (sF S) := hT.1.2.1
        rw [eln]
        refine L_gmM1 hF hu6 hv6 hB (l := 0) (by omega) (Or.inl rfl) (hT.1.setLn 0) (fun M1 x1 f1 g1 m3 ma mb mo hx1 => ?_)
        have hR1 : RMf (setLn (sF S) ((1 : Nat) : Int)) M1 := by
          obtain ⟨h1, h2, h3, h4, h5, h6⟩ := hT.1.setLn 0
          refine ⟨by rw [g1 2 (by omega) (by omega)]; exact h1, m3, by rw [g1 4 (by omega) (by omega)]; exact h3, by rw [f1 1 (by omega) (by omega) (by omega) (by omega)]; exact h4, by rw [f1 2 (by omega) (by omega) (by omega) (by omega)]; exact h5, by rw [f1 3 (by omega) (by omega) (by omega) (by omega), f1 4 (by omega) (by omega) (by omega) (by omega), f1 5 (by omega) (by omega) (by omega) (by omega)]; exact h6⟩
        refine L_gmM1 hF hu6 hv6 hB (l := 1) (by omega) (by rcases hx1 with ⟨-, -, -, e⟩ | ⟨-, e⟩ <;> omega) hR1 (fun M2 x2 f2 g2 m32 ma2 mb2 mo2 hx2 => ?_)
        rw [← hA0] at ma hx1
        rw [← hB0] at mb hx1
        rw [← hA1] at ma2 hx2
        rw [← hB1] at mb2 hx2
        obtain ⟨M3, hM3⟩ : ∃ M3, M3 = up M2 0 3 (ln (sF S)) := ⟨_, rfl⟩
        have hMf : RM S M3 := by
          rw [hM3]
          refine hT.fr ⟨fun i a b => ?_, fun j hj => ?_⟩
          · rw [up_fr (by omega), f2 i (by omega) (by omega) (by omega) (by omega), f1 i (by omega) (by omega) (by omega) (by omega), up_fr (by omega)]
          · by_cases j3 : j = 3
            · rw [j3, up_eq]; exact eln.symm
            · rw [up_sl j3, g2 j j3 (by omega), g1 j j3 (by omega), up_sl j3]
        refine W10_game_61 ⟨fun z => ?_, fun _ => ?_⟩
        · rw [m32] at z; exact absurd z (by decide)
        · rw [← hM3]
          by_cases gx : x2 = 0
          · have q2 : x1 = 0 ∧ A1 ≠ none ∧ B1 ≠ none := by
              rcases hx2 with ⟨q1, q2, q3, -⟩ | ⟨-, q4⟩
              · exact ⟨q1, q2, q3⟩
              · omega
            have q1 : A0 ≠ none ∧ B0 ≠ none := by
              rcases hx1 with ⟨-, q2, q3, -⟩ | ⟨-, q4⟩
              · exact ⟨q2, q3⟩
              · omega
            cases A0 with
            | none => exact absurd rfl q1.1
            | some z0 =>
              cases B0 with
              | none => exact absurd rfl q1.2
              | some z2 =>
                cases A1 with
                | none => exact absurd rfl q2.2.1
                | some z1 =>
                  cases B1 with
                  | none => exact absurd rfl q2.2.2
                  | some z3 =>
                    obtain ⟨x0, t0, y0, r0⟩ := z0
                    obtain ⟨x1', t1, y1, r1⟩ := z1
                    obtain ⟨x2', t2, y2, r2⟩ := z2
                    obtain ⟨x3, t3, y3, r3⟩ := z3
                    rw [gx]
                    exact L_gmM2 tA0 tA1 tB0 tB1 (by rw [hM3, up_fr (by omega), (mo2 0 (by omega)).1]; exact ma) (by rw [hM3, up_fr (by omega)]; exact ma2) (by rw [hM3, up_fr (by omega), (mo2 0 (by omega)).2]; exact mb) (by rw [hM3, up_fr (by omega)]; exact mb2) ⟨q, M3, rfl, rfl, hMf⟩
          · have hx2' : x2 = 1 := by rcases hx2 with ⟨-, -, -, q⟩ | ⟨-, q⟩ <;> omega
            have hnone : gmR A0 A1 B0 B1 = -9 := by
              cases A0 with
              | none => rfl
              | some z0 =>
                cases A1 with
                | none => rfl
                | some z1 =>
                  cases B0 with
                  | none => rfl
                  | some z2 =>
                    cases B1 with
                    | none => rfl
                    | some z3 =>
                      rcases hx2 with ⟨-, -, -, q⟩ | ⟨q, -⟩
                      · omega
                      · exfalso
                        apply q
                        refine ⟨?_, Option.some_ne_none _, Option.some_ne_none _⟩
                        rcases hx1 with ⟨-, -, -, q4⟩ | ⟨q4, -⟩
                        · exact q4
                        · exact absurd ⟨rfl, Option.some_ne_none _, Option.some_ne_none _⟩ q4
            rw [hnone, hx2']
            refine W10_game_168 ⟨fun _ => ⟨fun z => ?_, fun _ => ⟨q, M3, rfl, rfl, hMf⟩⟩, fun _ => ⟨q, M3, rfl, rfl, hMf⟩⟩
            rw [wr1] at z; omega
  · refine ⟨W, sRef S W, hS.ref _, fun M hM => W9_game_0 ⟨fun z => ?_, fun _ => ?_⟩, fun q M hM => W10_game_0 ⟨isOne_01 hF hM.1 ia, isOne_01 hF hM.1 ib, isOne_01 hF hM.1 ic, isOne_01 hF hM.1 id', ?_⟩⟩
    · rw [k1 M hM, wr_id (by omega) (by omega)] at z; exact absurd z e
    · rw [k1 M hM]; exact C_ref hM (by omega)
    · rw [k2 M hM]
      refine W10_game_33 ⟨fun _ => ⟨by rw [wr_id (by omega) (by omega)]; omega, M_ref hM.thr (by omega)⟩, fun z => ?_⟩
      rw [wr_id (by omega) (by omega)] at z; omega

/-! statements come into a field, on both sides -/
def stm (f : Nat → Int) (a : Nat) (F : FS) : Option FS :=
  if f a = 110 then (if 1 ≤ v2 f (a + 1) ∧ v2 f (a + 1) ≤ 20 then some (setYd F (v2 f (a + 1))) else none)
  else if f a = 112 then (if pn F < 6 ∧ (1 ≤ v2 f (a + 1) ∧ v2 f (a + 1) ≤ 60) ∧ 1 ≤ v1 f (a + 3) ∧ 1 ≤ v1 f (a + 4) then some (setOne F (v2 f (a + 1)) (v1 f (a + 3)) (v1 f (a + 4))) else none)
  else if f a = 121 then (if v1 f (a + 1) < 2 ∧ v2 f (a + 2) < yd F ∧ v1 f (a + 4) < 6 then some (setGr F (20 * v1 f (a + 1) + v2 f (a + 2)).toNat (v1 f (a + 4)) (v1 f (a + 5))) else none)
  else (if v1 f (a + 1) < 2 then some (setLn F (v1 f (a + 1))) else none)
theorem Wf.c {f : Nat → Int} {n a : Nat} (h : Wf f n a) : f a = 110 ∨ f a = 112 ∨ f a = 121 ∨ f a = 108 := by
  have h2 := h.2.1
  unfold dB at h2
  (repeat' split at h2) <;> omega
theorem Wf.v {f : Nat → Int} {n a : Nat} (h : Wf f n a) (j : Nat) (hj : j < dN (f a)) : 0 ≤ v1 f (a + 1 + j) ∧ v1 f (a + 1 + j) ≤ 9 := by
  have := h.2.2.1 j hj
  unfold v1
  omega
theorem v2_eq (f : Nat → Int) (p : Nat) : v2 f p = 10 * v1 f p + v1 f (p + 1) := rfl
/-- the numbers of each kind of statement -/
theorem Wf.n {f : Nat → Int} {n a : Nat} (h : Wf f n a) (e : f a = 110) : (0 ≤ v2 f (a + 1) ∧ v2 f (a + 1) ≤ 99) ∧ a + 2 < n := by
  have hd : dN (f a) = 2 := by rw [e]; rfl
  have k0 := h.v 0 (by omega)
  have k1 := h.v 1 (by omega)
  have h4 := h.2.2.2
  rw [v2_eq]
  rw [show a + 1 + 0 = a + 1 from rfl] at k0
  omega
theorem Wf.p {f : Nat → Int} {n a : Nat} (h : Wf f n a) (e : f a = 112) : (0 ≤ v2 f (a + 1) ∧ v2 f (a + 1) ≤ 99) ∧ (0 ≤ v1 f (a + 3) ∧ v1 f (a + 3) ≤ 9) ∧ (0 ≤ v1 f (a + 4) ∧ v1 f (a + 4) ≤ 9) ∧ a + 4 < n := by
  have hd : dN (f a) = 4 := by rw [e]; rfl
  have k0 := h.v 0 (by omega)
  have k1 := h.v 1 (by omega)
  have k2 := h.v 2 (by omega)
  have k3 := h.v 3 (by omega)
  have h4 := h.2.2.2
  rw [v2_eq]
  rw [show a + 1 + 0 = a + 1 from rfl] at k0
  rw [show a + 1 + 2 = a + 3 from rfl] at k2
  rw [show a + 1 + 3 = a + 4 from rfl] at k3
  omega
theorem Wf.y {f : Nat → Int} {n a : Nat} (h : Wf f n a) (e : f a = 121) : (0 ≤ v1 f (a + 1) ∧ v1 f (a + 1) ≤ 9) ∧ (0 ≤ v2 f (a + 2) ∧ v2 f (a + 2) ≤ 99) ∧ (0 ≤ v1 f (a + 4) ∧ v1 f (a + 4) ≤ 9) ∧ (0 ≤ v1 f (a + 5) ∧ v1 f (a + 5) ≤ 9) ∧ a + 5 < n := by
  have hd : dN (f a) = 5 := by rw [e]; rfl
  have k0 := h.v 0 (by omega)
  have k1 := h.v 1 (by omega)
  have k2 := h.v 2 (by omega)
  have k3 := h.v 3 (by omega)
  have k4 := h.v 4 (by omega)
  have h4 := h.2.2.2
  rw [v2_eq]
  rw [show a + 1 + 0 = a + 1 from rfl] at k0
  rw [show a + 1 + 1 = a + 2 from rfl] at k1
  rw [show a + 1 + 2 = a + 2 + 1 from rfl] at k2
  rw [show a + 1 + 3 = a + 4 from rfl] at k3
  rw [show a + 1 + 4 = a + 5 from rfl] at k4
  omega
theorem Wf.l {f : Nat → Int} {n a : Nat} (h : Wf f n a) (e : f a = 108) : (0 ≤ v1 f (a + 1) ∧ v1 f (a + 1) ≤ 9) ∧ a + 1 < n := by
  have hd : dN (f a) = 1 := by rw [e]; rfl
  have k0 := h.v 0 (by omega)
  have h4 := h.2.2.2
  rw [show a + 1 + 0 = a + 1 from rfl] at k0
  omega
theorem stm_ok {f : Nat → Int} {n a : Nat} (h : Wf f n a) {F F' : FS} (hF : FOK F) (hs : stm f a F = some F') : FOK F' := by
  unfold stm at hs
  rcases h.c with e | e | e | e
  · rw [if_pos e] at hs
    split at hs
    · rename_i g
      injection hs with hs
      rw [← hs]; exact ⟨g, hF.2⟩
    · cases hs
  · rw [if_neg (by omega), if_pos e] at hs
    have := h.p e
    split at hs
    · rename_i g
      injection hs with hs
      rw [← hs]; exact hF.one g.2.1 (by omega) (by omega) g.1
    · cases hs
  · rw [if_neg (by omega), if_neg (by omega), if_pos e] at hs
    have := h.y e
    split at hs
    · rename_i g
      injection hs with hs
      rw [← hs]; exact hF.gr ⟨by omega, by omega⟩
    · cases hs
  · rw [if_neg (by omega), if_neg (by omega), if_neg (by omega)] at hs
    have := h.l e
    split at hs
    · rename_i g
      injection hs with hs
      rw [← hs]; exact hF.setLn (by omega)
    · cases hs
def FrA (M M' : Mem) : Prop := (∀ i, 5 < i → M' i = M i) ∧ (∀ j, j ≠ 2 → j ≠ 3 → j ≠ 4 → M' 0 j = M 0 j)
theorem FrA.rf (M : Mem) : FrA M M := ⟨fun _ _ => rfl, fun _ _ _ _ => rfl⟩
theorem FrA.tr {M M1 M2 : Mem} (h1 : FrA M M1) (h2 : FrA M1 M2) : FrA M M2 := ⟨fun i a => (h2.1 i a).trans (h1.1 i a), fun j a b c => (h2.2 j a b c).trans (h1.2 j a b c)⟩
theorem RMf.one {F : FS} {M : Mem} (hR : RMf F M) (hp : 0 ≤ pn F ∧ pn F < 6) {a h d : Int} : RMf (setOne F a h d) (g10_oneComes M a h d) := by
  unfold g10_oneComes
  rw [hR.2.2.1, wr_id (x := pn F) (by omega) (by omega)]
  have f : ∀ i, i ≠ 0 → i ≠ 3 → i ≠ 4 → i ≠ 5 → up (up (up (up M 3 (pn F).toNat a) 4 (pn F).toNat h) 5 (pn F).toNat d) 0 4 (pn F + 1) i = M i := fun i i0 i3 i4 i5 => by rw [up_fr i0, up_fr i5, up_fr i4, up_fr i3]
  have g : ∀ j, j ≠ 4 → up (up (up (up M 3 (pn F).toNat a) 4 (pn F).toNat h) 5 (pn F).toNat d) 0 4 (pn F + 1) 0 j = M 0 j := fun j j4 => by rw [up_sl j4, up_fr (by omega), up_fr (by omega), up_fr (by omega)]
  obtain ⟨h1, h2, -, h4, h5, h6⟩ := hR
  refine ⟨by rw [g 2 (by omega)]; exact h1, by rw [g 3 (by omega)]; exact h2, up_eq, by rw [f 1 (by omega) (by omega) (by omega) (by omega)]; exact h4, by rw [f 2 (by omega) (by omega) (by omega) (by omega)]; exact h5, fun p hp6 => ?_⟩
  obtain ⟨q1, q2, q3⟩ := h6 p hp6
  refine ⟨?_, ?_, ?_⟩
  · rw [up_fr (by omega), up_fr (by omega), up_fr (by omega)]; exact up_upn q1
  · rw [up_fr (by omega), up_fr (by omega)]; exact up_upn (by rw [up_fr (by omega)]; exact q2)
  · rw [up_fr (by omega)]; exact up_upn (by rw [up_fr (by omega), up_fr (by omega)]; exact q3)
theorem T_told {q : Option Nat} {f : Nat → Int} {n a i : Nat} {F : FS} {M : Mem} (hW : Wf f n a) (hi : i ≤ 40) (hF : FOK F) (hR : RMf F M) (h10 : M 10 i = f a) (hT : Tel f a (M 11) (4 * i)) {K : Int → Mem → Prop}
    (h0 : stm f a F = none → ∀ M', FrA M M' → K 0 M') (h1 : ∀ F' M', stm f a F = some F' → FrA M M' → RMf F' M' → K 1 M') : TI i10_comesTold 5 [vr 0, vi (i : Int)] (LM q, M) K := by
  have hp := hF.2.2.1
  have hy := hF.1
  have i40 : wr (4 * (i : Int)) = 4 * (i : Int) := wr_id (by omega) (by omega)
  have i41 : wr (4 * (i : Int) + 1) = 4 * (i : Int) + 1 := wr_id (by omega) (by omega)
  have i42 : wr (4 * (i : Int) + 2) = 4 * (i : Int) + 2 := wr_id (by omega) (by omega)
  have i43 : wr (4 * (i : Int) + 3) = 4 * (i : Int) + 3 := wr_id (by omega) (by omega)
  have n0 : (4 * (i : Int)).toNat = 4 * i := by omega
  have n1 : (4 * (i : Int) + 1).toNat = 4 * i + 1 := by omega
  have n2 : (4 * (i : Int) + 2).toNat = 4 * i + 2 := by omega
  have n3 : (4 * (i : Int) + 3).toNat = 4 * i + 3 := by omega
  have ei : wr (i : Int) = (i : Int) := wr_id (by omega) (by omega)
  have ni : ((i : Int)).toNat = i := by omega
  refine W10_comesTold_0 ?_
  rw [i40, i41, i42, n0, n1, n2, ei, ni, h10]
  refine ⟨by omega, by omega, ?_⟩
  rcases hW.c with e | e | e | e
  · have t0 := hT.1 e
    have r0 := (hW.n e).1
    rw [t0, e, wr_id (x := v2 f (a + 1)) (by omega) (by omega), in_eq (by unfold IR; omega) (by unfold IR; omega) (by unfold IR; omega)]
    refine ⟨fun _ => ?_, fun z => absurd (by decide) z⟩
    by_cases g : 1 ≤ v2 f (a + 1) ∧ v2 f (a + 1) ≤ 20
    · have eS : stm f a F = some (setYd F (v2 f (a + 1))) := by unfold stm; rw [if_pos e, if_pos g]
      rw [if_pos (c := ((1 : Nat) : Int) ≤ v2 f (a + 1) ∧ v2 f (a + 1) ≤ 20) (by omega), if_neg (by rw [wr1]; omega)]
      refine W10_comesTold_81 ⟨wb1, 1, _, rfl, rfl, h1 _ _ eS ⟨fun i hi => up_fr (by omega), fun j j2 _ _ => up_sl j2⟩ ?_⟩
      obtain ⟨h1, h2, h3, h4, h5, h6⟩ := hR
      exact ⟨up_eq, by rw [up_sl (by omega)]; exact h2, by rw [up_sl (by omega)]; exact h3, by rw [up_fr (by omega)]; exact h4, by rw [up_fr (by omega)]; exact h5, by rw [up_fr (by omega), up_fr (by omega), up_fr (by omega)]; exact h6⟩
    · have eS : stm f a F = none := by unfold stm; rw [if_pos e, if_neg g]
      rw [if_neg (c := ((1 : Nat) : Int) ≤ v2 f (a + 1) ∧ v2 f (a + 1) ≤ 20) (by omega), if_pos wr0]
      exact W10_comesTold_81 ⟨wb0, 0, _, rfl, rfl, h0 eS _ ⟨fun i hi => up_fr (by omega), fun j j2 _ _ => up_sl j2⟩⟩
  · obtain ⟨t0, t1, t2⟩ := hT.2.1 e
    obtain ⟨r0, r1, r2, -⟩ := hW.p e
    have h234 : stm f a F = none → TA i10_comesTold 234 [some (vr 0), none, some (vi (4 * (i : Int))), some (vi (v2 f (a + 1))), none] [] (LM q, M) (fun rv G' => ∃ r M', rv = some (vi r) ∧ G' = ((LM q, M).1, M') ∧ K r M') := fun eS =>
      W10_comesTold_234 (W10_comesTold_235 ⟨fun _ => W10_comesTold_263 ⟨wb0, 0, M, rfl, rfl, h0 eS M (FrA.rf M)⟩, fun z => absurd wr0 z⟩)
    have no : ¬ (pn F < 6 ∧ (1 ≤ v2 f (a + 1) ∧ v2 f (a + 1) ≤ 60) ∧ 1 ≤ v1 f (a + 3) ∧ 1 ≤ v1 f (a + 4)) → stm f a F = none := fun g => by unfold stm; rw [if_neg (by omega), if_pos e, if_neg g]
    rw [t0, t1, t2, e, hR.2.2.1, wr_id (x := v2 f (a + 1)) (by omega) (by omega), wr_id (x := v1 f (a + 3)) (by omega) (by omega), wr_id (x := v1 f (a + 4)) (by omega) (by omega), wr_id (x := pn F) (by omega) (by omega), wr_id (x := 6) (by omega) (by omega), in_eq (b := 60) (by unfold IR; omega) (by unfold IR; omega) (by unfold IR; omega)]
    refine ⟨fun z => absurd z (by decide), fun _ => ⟨fun _ => ⟨fun z => h234 (no (fun g => ?_)), fun z1 => ⟨by omega, fun z2 => ⟨by omega, fun z3 => ⟨fun z4 => ?_, fun z => h234 (no (fun g => by omega))⟩, fun z => h234 (no (fun g => by omega))⟩, fun z => h234 (no (fun g => by omega))⟩⟩, fun z => absurd (by decide) z⟩⟩
    · rw [if_pos (c := ((1 : Nat) : Int) ≤ v2 f (a + 1) ∧ v2 f (a + 1) ≤ 60) (by omega), wr1] at z; omega
    · have g60 : 1 ≤ v2 f (a + 1) ∧ v2 f (a + 1) ≤ 60 := by
        apply Classical.byContradiction
        intro c
        rw [if_neg (c := ((1 : Nat) : Int) ≤ v2 f (a + 1) ∧ v2 f (a + 1) ≤ 60) (by omega)] at z1
        exact z1 wr0
      have eS : stm f a F = some (setOne F (v2 f (a + 1)) (v1 f (a + 3)) (v1 f (a + 4))) := by unfold stm; rw [if_neg (by omega), if_pos e, if_pos ⟨by omega, g60, by omega, by omega⟩]
      refine W10_comesTold_235 ⟨fun z => ?_, fun _ => ?_⟩
      · rw [wr1] at z; omega
      · rw [i41, n1, i42, n2, t1, t2, hR.2.2.1, wr_id (x := pn F) (by omega) (by omega)]
        refine ⟨by omega, by omega, by omega, W10_comesTold_263 ⟨wb1, 1, _, rfl, rfl, h1 _ _ eS ?_ (hR.one ⟨by omega, by omega⟩)⟩⟩
        unfold g10_oneComes
        exact ⟨fun i hi => by rw [up_fr (by omega), up_fr (by omega), up_fr (by omega), up_fr (by omega)], fun j j2 j3 j4 => by rw [up_sl j4, up_fr (by omega), up_fr (by omega), up_fr (by omega)]⟩
  · obtain ⟨t0, t1, t2, t3⟩ := hT.2.2.1 e
    obtain ⟨r0, r1, r2, r3, -⟩ := hW.y e
    have h124 : stm f a F = none → TA i10_comesTold 124 [some (vr 0), none, some (vi (4 * (i : Int))), some (vi (v1 f (a + 1))), none] [] (LM q, M) (fun rv G' => ∃ r M', rv = some (vi r) ∧ G' = ((LM q, M).1, M') ∧ K r M') := fun eS =>
      W10_comesTold_124 (W10_comesTold_125 ⟨fun _ => W10_comesTold_184 ⟨wb0, 0, M, rfl, rfl, h0 eS M (FrA.rf M)⟩, fun z => absurd wr0 z⟩)
    have no : ¬ (v1 f (a + 1) < 2 ∧ v2 f (a + 2) < yd F ∧ v1 f (a + 4) < 6) → stm f a F = none := fun g => by unfold stm; rw [if_neg (by omega), if_neg (by omega), if_pos e, if_neg g]
    have y01 := yard_01 hF hR (a := v2 f (a + 2)) (by unfold IR; omega)
    rw [wr_id (x := v2 f (a + 2)) (by omega) (by omega)] at y01
    rw [t0, t1, t2, e, wr_id (x := v1 f (a + 1)) (by omega) (by omega), wr_id (x := v2 f (a + 2)) (by omega) (by omega), wr_id (x := v1 f (a + 4)) (by omega) (by omega), wr_id (x := 6) (by omega) (by omega), wr_id (x := 2) (by omega) (by omega), isYard_eq hF hR (by unfold IR; omega)]
    refine ⟨fun z => absurd z (by decide), fun _ => ⟨fun z => absurd z (by decide), fun _ => ⟨fun _ => ⟨fun z1 => ⟨by omega, y01, fun z => h124 (no (fun g => ?_)), fun z2 => ⟨by omega, fun z3 => ?_, fun z => h124 (no (fun g => by omega))⟩⟩, fun z => h124 (no (fun g => by omega))⟩, fun z => absurd (by decide) z⟩⟩⟩
    · rw [if_pos (c := 0 ≤ v2 f (a + 2) ∧ v2 f (a + 2) < yd F) (by omega), wr1] at z; omega
    · have gy : v2 f (a + 2) < yd F := by
        apply Classical.byContradiction
        intro c
        rw [if_neg (c := 0 ≤ v2 f (a + 2) ∧ v2 f (a + 2) < yd F) (by omega)] at z2
        exact z2 wr0
      have eS : stm f a F = some (setGr F (20 * v1 f (a + 1) + v2 f (a + 2)).toNat (v1 f (a + 4)) (v1 f (a + 5))) := by unfold stm; rw [if_neg (by omega), if_neg (by omega), if_pos e, if_pos ⟨z1, gy, z3⟩]
      refine W10_comesTold_125 ⟨fun z => ?_, fun _ => ?_⟩
      · rw [wr1] at z; omega
      · rw [i41, n1, i42, n2, i43, n3, t1, t2, t3, wr_id (x := 20 * v1 f (a + 1) + v2 f (a + 2)) (by omega) (by omega)]
        refine ⟨by omega, by omega, by omega, by omega, by omega, by omega, W10_comesTold_184 ⟨wb1, 1, _, rfl, rfl, h1 _ _ eS ⟨fun i hi => by rw [up_fr (by omega), up_fr (by omega)], fun j _ _ _ => by rw [up_fr (by omega), up_fr (by omega)]⟩ hR.gr⟩⟩
  · have t0 := hT.2.2.2 e
    have r0 := (hW.l e).1
    rw [t0, e, wr_id (x := v1 f (a + 1)) (by omega) (by omega), wr_id (x := 2) (by omega) (by omega)]
    refine ⟨fun z => absurd z (by decide), fun _ => ⟨fun z => absurd z (by decide), fun _ => ⟨fun z => absurd z (by decide), fun _ => W10_comesTold_276 ?_⟩⟩⟩
    by_cases g : v1 f (a + 1) < 2
    · have eS : stm f a F = some (setLn F (v1 f (a + 1))) := by unfold stm; rw [if_neg (by omega), if_neg (by omega), if_neg (by omega), if_pos g]
      rw [if_pos g, if_neg (by rw [wr1]; omega)]
      exact W10_comesTold_292 ⟨wb1, 1, _, rfl, rfl, h1 _ _ eS ⟨fun i hi => up_fr (by omega), fun j _ j3 _ => up_sl j3⟩ (hR.setLn _)⟩
    · have eS : stm f a F = none := by unfold stm; rw [if_neg (by omega), if_neg (by omega), if_neg (by omega), if_neg g]
      rw [if_neg g, if_pos wr0]
      exact W10_comesTold_292 ⟨wb0, 0, _, rfl, rfl, h0 eS _ ⟨fun i hi => up_fr (by omega), fun j _ j3 _ => up_sl j3⟩⟩

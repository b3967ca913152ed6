/-! races with changes of who walks, step by step, on both sides; relay, team, bestTurn -/
abbrev SA (F : FS) (h p : Int) (chg : Nat → Option PT) (o : Nat) (y : Nat) : PT × RS × Int := sAll (lk F (ln F).toNat) (lf F (ln F).toNat) h p chg (PW F o) (some (ar F o, 0, 0, 0)) y
theorem WR.le {M : Mem} {w : Nat} {s : RS} {j j' : Int} (h : WR M w s j) (h1 : j ≤ j') (h2 : j' ≤ 100000) : WR M w s j' := by
  obtain ⟨z1, z2, z3⟩ := h
  refine ⟨z1, by omega, ?_⟩
  revert z3
  cases s with
  | none => exact fun z3 => z3
  | some z =>
    obtain ⟨l, t, a, b⟩ := z
    intro z3
    obtain ⟨s7, s3, s4, s5, s6, b1, b2, b3, b4⟩ := z3
    exact ⟨s7, s3, s4, s5, s6, b1, by omega, by omega, by omega⟩
theorem WM.le {M : Mem} {s : RS} {j j' : Int} (h : WM M s j) (h1 : j ≤ j') (h2 : j' ≤ 100000) : WM M s j' := by
  obtain ⟨z1, z2, z3, z4⟩ := h
  refine ⟨z1, by omega, z3, ?_⟩
  revert z4
  cases s with
  | none => exact fun z3 => z3
  | some z =>
    obtain ⟨l, t, a, b⟩ := z
    intro z3
    obtain ⟨s7, s3, s4, s5, s6, b1, b2, b3, b4⟩ := z3
    exact ⟨s7, s3, s4, s5, s6, b1, by omega, by omega, by omega⟩
def IC (F : FS) (h p : Int) (chg : Nat → Option PT) (o : Nat) (M0 M : Mem) (y : Nat) : Prop := (∀ i, i ≠ 41 → M i = M0 i) ∧ M 41 0 = (SA F h p chg o y).1.1 ∧ M 41 1 = (SA F h p chg o y).1.2.1 ∧ M 41 2 = (SA F h p chg o y).1.2.2 ∧ WR M 41 (SA F h p chg o y).2.1 (2 * (y : Int))
def IM (F : FS) (h p : Int) (chg : Nat → Option PT) (o : Nat) (M0 M : Mem) (y : Nat) : Prop := FrR M0 M ∧ M 0 10 = (SA F h p chg o y).1.1 ∧ M 0 11 = (SA F h p chg o y).1.2.1 ∧ M 0 12 = (SA F h p chg o y).1.2.2 ∧ WM M (SA F h p chg o y).2.1 (2 * (y : Int))
theorem SA_n {F : FS} {h p : Int} {chg : Nat → Option PT} {o y : Nat} (e : chg y = none) : (SA F h p chg o (y + 1)).1 = (SA F h p chg o y).1 ∧ (SA F h p chg o (y + 1)).2.1 = sStep (lk F (ln F).toNat y) (lf F (ln F).toNat y) (SA F h p chg o y).1.1 (SA F h p chg o y).1.2.1 (SA F h p chg o y).1.2.2 h p (SA F h p chg o y).2.1 := by
  simp only [SA, sAll]; rw [e]; exact ⟨rfl, rfl⟩
theorem SA_s {F : FS} {h p : Int} {chg : Nat → Option PT} {o y x : Nat} (e : chg y = some (PW F x)) : (SA F h p chg o (y + 1)).1 = PW F x ∧ (SA F h p chg o (y + 1)).2.1 = sStep (lk F (ln F).toNat y) (lf F (ln F).toNat y) (ar F x) (hv F x) (hd F x) h p (sTake (PW F x) (SA F h p chg o y).2.1) := by
  simp only [SA, sAll]; rw [e]; exact ⟨rfl, rfl⟩
theorem IC_goes {F : FS} (hF : FOK F) {h p : Int} (hb : BOK h p) {chg : Nat → Option PT} {o : Nat} {M0 : Mem} (hC : CO M0 36 (yd F).toNat (lk F (ln F).toNat) (lf F (ln F).toNat)) {M : Mem} {y : Nat} (hy : y < (yd F).toNat) (hI : IC F h p chg o M0 M y) (e : chg y = none) {K : Mem → Prop} (hK : ∀ M', IC F h p chg o M0 M' (y + 1) → K M') : TV i8_goes 9 [vr 41, vr 36, vi (y : Int), vi h, vi p] (LC, M) K := by
  have hyd := hF.1
  obtain ⟨hf, h0, h1, h2, hW⟩ := hI
  obtain ⟨k1, k2, k3⟩ := hC.2.2 y hy
  have ey : ((y : Int)).toNat = y := by omega
  obtain ⟨e1, e2⟩ := SA_n (F := F) (h := h) (p := p) (o := o) e
  refine T_goes_41_36 k3 hb (by omega) (by rw [hf 38 (by omega), ey]; exact k1) (by rw [hf 40 (by omega), ey]; exact k2) hW (by omega) (fun M' f1 f2 f3 f4 f5 => hK M' ⟨fun i hi => by rw [f1 i hi]; exact hf i hi, by rw [f2, e1]; exact h0, by rw [f3, e1]; exact h1, by rw [f4, e1]; exact h2, ?_⟩)
  rw [h0, h1, h2] at f5
  rw [e2]
  exact f5.le (by omega) (by omega)
theorem IC_take {F : FS} (hF : FOK F) {h p : Int} (hb : BOK h p) {chg : Nat → Option PT} {o : Nat} {M0 : Mem} (hR : RCf F M0 1) (hC : CO M0 36 (yd F).toNat (lk F (ln F).toNat) (lf F (ln F).toNat)) {M : Mem} {y : Nat} (hy : y < (yd F).toNat) (hI : IC F h p chg o M0 M y) {x : Nat} (hx : x < 6) (e : chg y = some (PW F x)) {K : Mem → Prop} (hK : ∀ M', IC F h p chg o M0 M' (y + 1) → K M') : TV i8_goes 9 [vr 41, vr 36, vi (y : Int), vi h, vi p] (LC, g8_isTakenOver M 41 1 (x : Int)) K := by
  have hyd := hF.1
  obtain ⟨hf, h0, h1, h2, hW⟩ := hI
  obtain ⟨k1, k2, k3⟩ := hC.2.2 y hy
  have ey : ((y : Int)).toNat = y := by omega
  obtain ⟨e1, e2⟩ := SA_s (h := h) (p := p) (o := o) e
  obtain ⟨t1, t2, t3, t4, t5⟩ := taken_ok hF (hR.fr (fun i hi => hf i (by omega))) hx hW (by omega)
  refine T_goes_41_36 k3 hb (by omega) (by rw [t1 38 (by omega), hf 38 (by omega), ey]; exact k1) (by rw [t1 40 (by omega), hf 40 (by omega), ey]; exact k2) t5 (by omega) (fun M' f1 f2 f3 f4 f5 => hK M' ⟨fun i hi => by rw [f1 i hi, t1 i hi]; exact hf i hi, by rw [f2, t2, e1]; rfl, by rw [f3, t3, e1]; rfl, by rw [f4, t4, e1]; rfl, ?_⟩)
  rw [t2, t3, t4] at f5
  rw [e2]
  exact f5.le (by omega) (by omega)
theorem IC_start {F : FS} (hF : FOK F) {h p : Int} {chg : Nat → Option PT} {M0 : Mem} (hR : RCf F M0 1) {o : Nat} (ho : o < 6) : IC F h p chg o M0 (g8_starts M0 41 1 (o : Int)) 0 := by
  obtain ⟨pa, ph, pd⟩ := hF.P ho
  rw [starts_eq hR ho]
  obtain ⟨g1, g2, g3, g4, g5⟩ := startsAs_ok (M := M0) (w := 41) pa ph pd
  exact ⟨g1, g2, g3, g4, g5⟩
theorem IM_goes {q : Option Nat} {F : FS} (hF : FOK F) {h p : Int} (hb : BOK h p) {chg : Nat → Option PT} {o : Nat} {M0 : Mem} (hR : RMf F M0) {M : Mem} {y : Nat} (hy : y < (yd F).toNat) (hI : IM F h p chg o M0 M y) (e : chg y = none) {K : Mem → Prop} (hK : ∀ M', IM F h p chg o M0 M' (y + 1) → K M') : TV i10_stepOn 5 [vr 0, vi (20 * ln F + (y : Int)), vi h, vi p] (LM q, M) K := by
  have hyd := hF.1
  have hl := hF.2.1
  obtain ⟨hf, h0, h1, h2, hW⟩ := hI
  have hRM := hf.F hR
  have hKK := hF.K (lane := (ln F).toNat) (y := y) (by omega) (by omega)
  have e20 : (20 * ln F + (y : Int)).toNat = 20 * (ln F).toNat + y := by omega
  obtain ⟨e1, e2⟩ := SA_n (F := F) (h := h) (p := p) (o := o) e
  refine T_stepOn (k := lk F (ln F).toNat y) (f := lf F (ln F).toNat y) (by omega) hKK hb (by rw [hRM.2.2.2.1 _ (by omega), e20]; rfl) (by rw [hRM.2.2.2.2.1 _ (by omega), e20]; rfl) hW (by omega) (fun M2 f2 hW2 _ => hK M2 ⟨hf.s f2, by rw [f2.2 10 (by omega), e1]; exact h0, by rw [f2.2 11 (by omega), e1]; exact h1, by rw [f2.2 12 (by omega), e1]; exact h2, ?_⟩)
  rw [h0, h1, h2] at hW2
  rw [e2]
  exact hW2.le (by omega) (by omega)
theorem IM_take {q : Option Nat} {F : FS} (hF : FOK F) {h p : Int} (hb : BOK h p) {chg : Nat → Option PT} {o : Nat} {M0 : Mem} (hR : RMf F M0) {M : Mem} {y : Nat} (hy : y < (yd F).toNat) (hI : IM F h p chg o M0 M y) {x : Nat} (hx : x < 6) (e : chg y = some (PW F x)) {K : Mem → Prop} (hK : ∀ M', IM F h p chg o M0 M' (y + 1) → K M') : TV i10_stepOn 5 [vr 0, vi (20 * ln F + (y : Int)), vi h, vi p] (LM q, up (g10_walkAs (up M 0 13 (M 0 13 + 40)) (x : Int)) 0 16 (ar F x)) K := by
  have hyd := hF.1
  have hl := hF.2.1
  obtain ⟨hf, h0, h1, h2, hW⟩ := hI
  have hRM := hf.F hR
  have hKK := hF.K (lane := (ln F).toNat) (y := y) (by omega) (by omega)
  have e20 : (20 * ln F + (y : Int)).toNat = 20 * (ln F).toNat + y := by omega
  obtain ⟨e1, e2⟩ := SA_s (h := h) (p := p) (o := o) e
  obtain ⟨pa, ph, pd⟩ := hF.P hx
  have hR2 : RMf F (up M 0 13 (M 0 13 + 40)) := ((FrR.rf M).w (by omega) : FrR M _).F hRM
  obtain ⟨g1, g2, g3, g4, g5, g6⟩ := walkAs_ok hF hR2 hx
  obtain ⟨M1, hM1⟩ : ∃ M1, M1 = up (g10_walkAs (up M 0 13 (M 0 13 + 40)) (x : Int)) 0 16 (ar F x) := ⟨_, rfl⟩
  rw [← hM1]
  have f1 : FrR M M1 := by rw [hM1]; exact (((FrR.rf M).w (by omega)).tr g1).w (by omega)
  have a10 : M1 0 10 = ar F x := by rw [hM1, up_sl (by omega)]; exact g2
  have a11 : M1 0 11 = hv F x := by rw [hM1, up_sl (by omega)]; exact g3
  have a12 : M1 0 12 = hd F x := by rw [hM1, up_sl (by omega)]; exact g4
  have a13 : M1 0 13 = M 0 13 + 40 := by rw [hM1, up_sl (by omega), g5 13 (by omega), up_eq]
  have a14 : M1 0 14 = M 0 14 := by rw [hM1, up_sl (by omega), g5 14 (by omega), up_sl (by omega)]
  have a15 : M1 0 15 = M 0 15 := by rw [hM1, up_sl (by omega), g5 15 (by omega), up_sl (by omega)]
  have a16 : M1 0 16 = ar F x := by rw [hM1, up_eq]
  have a17 : M1 0 17 = M 0 17 := by rw [hM1, up_sl (by omega), g5 17 (by omega), up_sl (by omega)]
  have a18 : M1 0 18 = M 0 18 := by rw [hM1, up_sl (by omega), g5 18 (by omega), up_sl (by omega)]
  have hRM1 := (hf.tr f1).F hR
  have hW1 : WM M1 (sTake (PW F x) (SA F h p chg o y).2.1) (2 * (y : Int) + 1) := by
    obtain ⟨-, hjj, h8, hs⟩ := hW
    refine ⟨⟨by rw [a10]; omega, by rw [a11]; omega, by rw [a12]; omega⟩, by omega, by rw [a18]; omega, ?_⟩
    revert hs
    cases (SA F h p chg o y).2.1 with
    | none => intro hs; exact (show M1 0 17 = 1 by rw [a17]; exact hs)
    | some z =>
      intro hs
      obtain ⟨l, t, a, b⟩ := z
      obtain ⟨s7, s16, s13, s14, s15, hl, ht, hn, hr⟩ := hs
      refine ⟨by rw [a17]; exact s7, a16, by rw [a13, s13], by rw [a14]; exact s14, by rw [a15]; exact s15, ?_, by omega, by omega, by omega⟩
      rw [a10]
      show 0 ≤ ar F x ∧ ar F x ≤ ar F x
      omega
  refine T_stepOn (k := lk F (ln F).toNat y) (f := lf F (ln F).toNat y) (by omega) hKK hb (by rw [hRM1.2.2.2.1 _ (by omega), e20]; rfl) (by rw [hRM1.2.2.2.2.1 _ (by omega), e20]; rfl) hW1 (by omega) (fun M2 f2 hW2 _ => hK M2 ⟨(hf.tr f1).s f2, by rw [f2.2 10 (by omega), e1]; exact a10, by rw [f2.2 11 (by omega), e1]; exact a11, by rw [f2.2 12 (by omega), e1]; exact a12, ?_⟩)
  rw [a10, a11, a12] at hW2
  rw [e2]
  exact hW2.le (by omega) (by omega)
theorem IM_start {F : FS} (hF : FOK F) {h p : Int} {chg : Nat → Option PT} {M0 : Mem} (hR : RMf F M0) {o : Nat} (ho : o < 6) : IM F h p chg o M0 (g10_start (g10_walkAs M0 (o : Int))) 0 := by
  obtain ⟨q1, q2, q3, q4, q5⟩ := hR.start hF ho
  exact ⟨q1, q2, q3, q4, q5⟩
theorem endM_eq {M : Mem} {s : RS} {j : Int} (h : WM M s j) : (if wr (M 0 17) = 0 then M 0 13 else 9999999) = tvM s := by
  obtain ⟨-, -, -, hs⟩ := h
  revert hs
  cases s with
  | none => intro hs; rw [show M 0 17 = 1 from hs, wr1, if_neg (by omega)]; rfl
  | some z => obtain ⟨l, t, a, b⟩ := z; intro hs; rw [show M 0 17 = 0 from hs.1, wr0, if_pos rfl]; exact hs.2.2.1
theorem SA_none {F : FS} {h p : Int} {chg : Nat → Option PT} {o y : Nat} (e : (SA F h p chg o y).2.1 = none) (k : Nat) : (SA F h p chg o (y + k)).2.1 = none := (sAll_none e k).1
/-! team -/
def chgT (F : FS) (t : Nat) : Nat → Option PT := fun y => if 0 < y ∧ y % t = 0 then some (PW F (y / t % 3)) else none
theorem chgT_ok {F : FS} {t : Nat} : ∀ y w, chgT F t y = some w → ∃ x, x < 6 ∧ w = PW F x := by
  intro y w h
  unfold chgT at h
  split at h
  · injection h with h
    exact ⟨y / t % 3, by omega, h.symm⟩
  · exact absurd h (by simp)
abbrev rTe (F : FS) (h p : Int) (t : Nat) : RS := sOver F (ln F).toNat 0 h p (chgT F t)
theorem TB_rTe {F : FS} (hF : FOK F) {h p : Int} (hb : BOK h p) (t : Nat) : TB (rTe F h p t) := TB_over hF (hln hF) hb chgT_ok (by omega)
theorem divN {y t : Nat} (hy : y < 20) (ht : 1 ≤ t ∧ t ≤ 9) : wr (rmd (y : Int) (t : Int)) = ((y % t : Nat) : Int) ∧ rmd (dv (y : Int) (t : Int)) 3 = ((y / t % 3 : Nat) : Int) := by
  have h1 : y % t < t := Nat.mod_lt _ (by omega)
  have h2 : y / t ≤ y := Nat.div_le_self _ _
  have a1 : (y : Int) % (t : Int) = ((y % t : Nat) : Int) := (Int.natCast_emod y t).symm
  have a2 : (y : Int) / (t : Int) = ((y / t : Nat) : Int) := (Int.natCast_ediv y t).symm
  refine ⟨?_, ?_⟩
  · rw [rmd_nat (by omega) (by omega) (by omega) (by omega), a1, wr_id (by omega) (by omega)]
  · rw [dv_nat (by omega) (by omega) (by omega) (by omega), a2]
    generalize y / t = d at h2
    rw [rmd_nat (by omega) (by omega) (by omega) (by omega)]; rfl
theorem L_teC {F : FS} (hF : FOK F) {h p : Int} (hb : BOK h p) {t : Nat} (ht : 1 ≤ t ∧ t ≤ 9) {M0 : Mem} (hR : RCf F M0 1) (hC : CO M0 36 (yd F).toNat (lk F (ln F).toNat) (lf F (ln F).toNat)) {K : Int → Mem → Prop} (hK : ∀ M', (∀ i, i ≠ 41 → M' i = M0 i) → K (tvC (rTe F h p t)) M') : ∀ (k y : Nat) (M : Mem), y + k = (yd F).toNat → IC F h p (chgT F t) 0 M0 M y →
    TA i9_timeByTurns 41 [some (vr 0), some (vi (t : Int)), some (vi h), some (vi p), some (vi (y : Int))] [] (LC, M) (fun rv G' => ∃ r M', rv = some (vi r) ∧ G' = (LC, M') ∧ K r M')
  | 0, y, M, hy, hI => by
    have hyd := hF.1
    have e : y = (yd F).toNat := by omega
    subst e
    obtain ⟨hf, h0, h1, h2, hW⟩ := hI
    refine W9_timeByTurns_41 ⟨fun z => ?_, fun _ => ⟨_, M, rfl, rfl, ?_⟩⟩
    · rw [hf 36 (by omega), hC.1, wlt (by omega) (by omega) (by omega) (by omega)] at z; omega
    · rw [time_eq hW]
      exact hK M hf
  | k + 1, y, M, hy, hI => by
    have hyd := hF.1
    obtain ⟨d1, d2⟩ := divN (y := y) (by omega) ht
    have en : ((y + 1 : Nat) : Int) = (y : Int) + 1 := by omega
    have wt0 : wr (t : Int) ≠ 0 := by rw [wr_id (by omega) (by omega)]; omega
    have nxt : ∀ M', IC F h p (chgT F t) 0 M0 M' (y + 1) → TA i9_timeByTurns 41 [some (vr 0), some (vi (t : Int)), some (vi h), some (vi p), some (vi ((y : Int) + 1))] [] (LC, M') (fun rv G' => ∃ r M', rv = some (vi r) ∧ G' = (LC, M') ∧ K r M') := by
      intro M' hI'
      have ih := L_teC hF hb ht hR hC hK k (y + 1) M' (by omega) hI'
      rw [en] at ih; exact ih
    refine W9_timeByTurns_41 ?_
    rw [d1, d2, wr_id (x := (y : Int)) (by omega) (by omega)]
    refine ⟨fun _ => ⟨fun z1 => ⟨wt0, fun z2 => ⟨wt0, by decide, ?_⟩, fun z2 => ?_⟩, fun z1 => ?_⟩, fun z => ?_⟩
    · exact IC_take hF hb hR hC (by omega) hI (x := y / t % 3) (by omega) (by unfold chgT; rw [if_pos ⟨by omega, by omega⟩]) nxt
    · exact IC_goes hF hb hC (by omega) hI (by unfold chgT; rw [if_neg (fun c => z2 (by omega))]) nxt
    · exact IC_goes hF hb hC (by omega) hI (by unfold chgT; rw [if_neg (fun c => z1 (by omega))]) nxt
    · rw [hI.1 36 (by omega), hC.1, wr_id (by omega) (by omega)] at z; omega
theorem T_teC {F : FS} (hF : FOK F) {h p : Int} (hb : BOK h p) {t : Nat} (ht : 1 ≤ t ∧ t ≤ 9) {M : Mem} (hR : RCf F M 1) {K : Int → Mem → Prop} (hK : ∀ M', FrC M M' → K (tvC (rTe F h p t)) M') : TI i9_timeByTurns 5 [vr 0, vi (t : Int), vi h, vi p] (LC, M) K := by
  refine W9_timeByTurns_0 ⟨fun z => ?_, fun _ => ?_⟩
  · rw [wlt (by omega) (by omega) (by omega) (by omega)] at z; omega
  · rw [hR.2.1]
    refine T_takes_36 hF hF.2.1 hR (fun M1 f1 hC => ⟨wb0, ?_⟩)
    have g1 : FrC M M1 := fun i hi => f1 i (by omega) (by omega) (by omega)
    have hR1 : RCf F M1 1 := hR.fr (fun i hi => g1 i hi)
    exact L_teC hF hb ht hR1 hC (fun M' f => hK M' (g1.tr (FrC.of41 f))) (yd F).toNat 0 _ (by omega) (IC_start hF hR1 (o := 0) (by omega))
theorem L_teM {q : Option Nat} {F : FS} (hF : FOK F) {h p : Int} (hb : BOK h p) {t : Nat} (ht : 1 ≤ t ∧ t ≤ 9) {M0 : Mem} (hR : RMf F M0) {K : Int → Mem → Prop} (hK : ∀ M', FrR M0 M' → K (tvM (rTe F h p t)) M') : ∀ (k y : Nat) (M : Mem), y + k = (yd F).toNat → IM F h p (chgT F t) 0 M0 M y →
    TA i10_teamBy 12 [some (vr 0), some (vi (t : Int)), some (vi h), some (vi p), some (vi (y : Int))] [] (LM q, M) (fun rv G' => ∃ r M', rv = some (vi r) ∧ G' = (LM q, M') ∧ K r M')
  | 0, y, M, hy, hI => by
    have hyd := hF.1
    have e : y = (yd F).toNat := by omega
    subst e
    obtain ⟨hf, h0, h1, h2, hW⟩ := hI
    have hRM := hf.F hR
    refine W10_teamBy_12 ⟨fun z => ?_, fun _ => W10_teamBy_107 ⟨_, M, rfl, rfl, ?_⟩⟩
    · rw [hRM.1, wlt (by omega) (by omega) (by omega) (by omega)] at z; omega
    · rw [endM_eq hW]; exact hK M hf
  | k + 1, y, M, hy, hI => by
    have hyd := hF.1
    have hl := hF.2.1
    obtain ⟨d1, d2⟩ := divN (y := y) (by omega) ht
    have en : ((y + 1 : Nat) : Int) = (y : Int) + 1 := by omega
    have wt0 : wr (t : Int) ≠ 0 := by rw [wr_id (by omega) (by omega)]; omega
    have hRM := hI.1.F hR
    have nxt : ∀ M', IM F h p (chgT F t) 0 M0 M' (y + 1) → TA i10_teamBy 12 [some (vr 0), some (vi (t : Int)), some (vi h), some (vi p), some (vi ((y : Int) + 1))] [] (LM q, M') (fun rv G' => ∃ r M', rv = some (vi r) ∧ G' = (LM q, M') ∧ K r M') := by
      intro M' hI'
      have ih := L_teM (q := q) hF hb ht hR hK k (y + 1) M' (by omega) hI'
      rw [en] at ih; exact ih
    have w3 : wr ((y / t % 3 : Nat) : Int) = ((y / t % 3 : Nat) : Int) := wr_id (by omega) (by omega)
    have n3 : (((y / t % 3 : Nat) : Int)).toNat = y / t % 3 := by omega
    refine W10_teamBy_12 ?_
    rw [d1, d2, w3, n3, hRM.2.1, (hRM.2.2.2.2.2 (y / t % 3) (by omega)).1, wr_id (x := (y : Int)) (by omega) (by omega)]
    refine ⟨fun _ => ⟨fun _ => ⟨fun z1 => ⟨wt0, fun z2 => ⟨wt0, by decide, by omega, ?_⟩, fun z2 => ?_⟩, fun z1 => ?_⟩, fun z => W10_teamBy_107 ⟨_, M, rfl, rfl, ?_⟩⟩, fun z => ?_⟩
    · exact IM_take hF hb hR (by omega) hI (x := y / t % 3) (by omega) (by unfold chgT; rw [if_pos ⟨by omega, by omega⟩]) nxt
    · exact IM_goes hF hb hR (by omega) hI (by unfold chgT; rw [if_neg (fun c => z2 (by omega))]) nxt
    · exact IM_goes hF hb hR (by omega) hI (by unfold chgT; rw [if_neg (fun c => z1 (by omega))]) nxt
    · have en' := hI.2.2.2.2.never z
      have := SA_none en' (k + 1)
      rw [hy] at this
      rw [endM_eq hI.2.2.2.2, en', show none = rTe F h p t from this.symm]
      exact hK M hI.1
    · rw [hRM.1, wr_id (by omega) (by omega)] at z; omega
theorem T_teM {q : Option Nat} {F : FS} (hF : FOK F) {h p : Int} (hb : BOK h p) {t : Nat} (ht : 1 ≤ t ∧ t ≤ 9) {M : Mem} (hR : RMf F M) {K : Int → Mem → Prop} (hK : ∀ M', FrR M M' → K (tvM (rTe F h p t)) M') : TI i10_teamBy 5 [vr 0, vi (t : Int), vi h, vi p] (LM q, M) K := W10_teamBy_0 ⟨by decide, wb0, L_teM hF hb ht hR hK (yd F).toNat 0 _ (by omega) (IM_start hF hR (o := 0) (by omega))⟩
theorem SIM_team {t h p : Int} (it : IR t) (ih : IR h) (ip : IR p) : SIM i9_team 5 i10_team 5 [vi t, vi h, vi p] := by
  intro S hS
  have hF := hS.1
  have hp3 := hF.2.2.1
  obtain ⟨W, hW⟩ : ∃ W : Int, W = if pn (sF S) < 3 then -3 else s3w False (t < 1 ∨ h < 0 ∨ p < 1) (9 < t ∨ 2 < h ∨ 9 < p) := ⟨_, rfl⟩
  have hWb : -6 ≤ W ∧ W ≤ 0 := by rw [hW]; unfold s3w; (repeat' split) <;> omega
  have c11 : f9_firstOf 0 1 1 = -4 := by decide
  have c10 : f9_firstOf 0 1 0 = -4 := by decide
  have c01 : f9_firstOf 0 0 1 = -6 := by decide
  have c00 : f9_firstOf 0 0 0 = 0 := by decide
  have kC : ∀ M Post, RC S M → ((W = 0 → TI i9_timeByTurns 5 [vr 0, vi t, vi h, vi p] (LC, M) (fun r1 M1 => Post (some (vi (f9_toldTime r1))) (LC, M1))) ∧ (W ≠ 0 → Post (some (vi (f9_refuse W))) (LC, g9_refuse M W))) → TC i9_team 5 [vr 0, vi t, vi h, vi p] (LC, M) Post := by
    intro M Post hM hAB
    refine W9_team_0 ?_
    have e3 : (if wr (M 1 2) < wr 3 then (-3) else if wr (f9_low h p) = 0 then (if wr t < wr 1 then (if wr (f9_high h p) = 0 then (if wr 9 < wr t then f9_firstOf 0 1 1 else f9_firstOf 0 1 0) else f9_firstOf 0 1 1) else if wr (f9_high h p) = 0 then (if wr 9 < wr t then f9_firstOf 0 0 1 else f9_firstOf 0 0 0) else f9_firstOf 0 0 1) else if wr (f9_high h p) = 0 then (if wr 9 < wr t then f9_firstOf 0 1 1 else f9_firstOf 0 1 0) else f9_firstOf 0 1 1) = W := by
      rw [hW, hM.1.2.2.1, low_eq ih ip, high_eq ih ip, it.w, wr1, wr_id (x := 9) (by omega) (by omega), wr_id (x := 3) (by omega) (by omega), wr_id (x := pn (sF S)) (by omega) (by omega), c11, c10, c01, c00]
      unfold s3w
      rw [if_neg (c := False) (fun z => z)]
      by_cases g0 : pn (sF S) < 3
      · rw [if_pos g0, if_pos g0]
      · rw [if_neg g0, if_neg g0]
        by_cases g1 : h < 0 ∨ p < 1
        · rw [if_pos g1, if_neg (c := wr 1 = 0) (by rw [wr1]; omega), if_pos (c := t < 1 ∨ h < 0 ∨ p < 1) (Or.inr g1)]
          (repeat' split) <;> rfl
        · rw [if_neg g1, if_pos wr0]
          by_cases g2 : 2 < h ∨ 9 < p
          · rw [if_pos g2, if_neg (c := wr 1 = 0) (by rw [wr1]; omega), if_neg (c := wr 1 = 0) (by rw [wr1]; omega)]
            (repeat' split) <;> omega
          · rw [if_neg g2, if_pos wr0, if_pos wr0]
            (repeat' split) <;> omega
    rw [e3]
    refine W9_team_57 ?_
    rw [wr_id (by omega) (by omega)]
    exact hAB
  have kM : ∀ q M Post, RM S M → TA i10_team 60 [some (vr 0), some (vi t), some (vi h), some (vi p), none] [vi W] (LM q, up M 0 8 0) Post → TC i10_team 5 [vr 0, vi t, vi h, vi p] (LM q, M) Post := by
    intro q M Post hM k
    refine W10_team_0 ?_
    have e3 : (if wr (M 0 4) < wr 3 then (-3) else if wr t < wr 1 then (-4) else if wr h < 0 then (-4) else if wr p < wr 1 then (-4) else if wr 9 < wr t then (-6) else if wr 2 < wr h then (-6) else if wr 9 < wr p then (-6) else 0) = W := by
      rw [hW, hM.1.2.2.1, it.w, ih.w, ip.w, wr1, wr_id (x := 9) (by omega) (by omega), wr_id (x := 2) (by omega) (by omega), wr_id (x := 3) (by omega) (by omega), wr_id (x := pn (sF S)) (by omega) (by omega)]
      unfold s3w
      rw [if_neg (c := False) (fun z => z)]
      (repeat' split) <;> omega
    rw [e3]; exact k
  by_cases e : W = 0
  · have hx : (1 ≤ t ∧ t ≤ 9) ∧ BOK h p := by
      rw [hW] at e; unfold s3w at e; unfold BOK; (repeat' split at e) <;> omega
    obtain ⟨hx, hB⟩ := hx
    obtain ⟨n, rfl⟩ : ∃ n : Nat, t = (n : Int) := ⟨t.toNat, by omega⟩
    have tb := TB_rTe hF hB n
    refine ⟨sTold (rTe (sF S) h p n), S, hS, fun M hM => kC M _ hM ⟨fun _ => T_teC hF hB (by omega) hM.1 (fun M' f => ⟨M', by rw [toldC tb], rfl, hM.fr f⟩), fun z => absurd e z⟩, fun q M hM => kM q M _ hM (W10_team_60 ⟨fun z => ?_, fun _ => T_teM hF hB (by omega) hM.thr.1 (fun M' f => ⟨q, M', by rw [toldM tb], rfl, hM.thr.fr f.q⟩)⟩)⟩
    rw [e, wr0] at z; omega
  · refine ⟨W, sRef S W, hS.ref _, fun M hM => kC M _ hM ⟨fun z => absurd z e, fun _ => C_ref hM (by omega)⟩, fun q M hM => kM q M _ hM (W10_team_60 ⟨fun _ => ⟨by rw [wr_id (by omega) (by omega)]; omega, M_ref hM.thr (by omega)⟩, fun z => ?_⟩)⟩
    rw [wr_id (by omega) (by omega)] at z; omega
abbrev fTu (F : FS) (h p : Int) : Nat → RS := fun n => rTe F h p (n + 1)
theorem L_btC {S : ST} (hF : FOK (sF S)) {h p : Int} (hb : BOK h p) : ∀ (k n : Nat) (M : Mem), n + k = 9 → RC S M →
    TA i9_bestTurn 52 [some (vr 0), some (vi h), some (vi p), none, some (vi (bestN (fTu (sF S) h p) vSucc none n).1), some (vi (tvC (bestN (fTu (sF S) h p) vSucc none n).2)), some (vi ((n : Int) + 1)), none] [] (LC, M) (CP S (bestN (fTu (sF S) h p) vSucc none 9).1)
  | 0, n, M, hn, hM => by
    have e : n = 9 := by omega
    subst e
    exact W9_bestTurn_52 ⟨fun _ => ⟨M, rfl, rfl, hM⟩, fun z => absurd (by decide) z⟩
  | k + 1, n, M, hn, hM => by
    have t1 : TB (fTu (sF S) h p n) := TB_rTe hF hb _
    have t2 : TB (bestN (fTu (sF S) h p) vSucc none n).2 := TB_best TB_no (m := n) (fun j _ => TB_rTe hF hb _) n (by omega)
    have en : ((n + 1 : Nat) : Int) = (n : Int) + 1 := by omega
    have tt := T_teC hF hb (t := n + 1) (by omega) hM.1 (K := fun r1 M1 => (wr r1 < wr (tvC (bestN (fTu (sF S) h p) vSucc none n).2) → TA i9_bestTurn 52 [some (vr 0), some (vi h), some (vi p), none, some (vi ((n : Int) + 1)), some (vi r1), some (vi ((n : Int) + 1 + 1)), none] [] (LC, M1) (CP S (bestN (fTu (sF S) h p) vSucc none 9).1)) ∧ (¬ (wr r1 < wr (tvC (bestN (fTu (sF S) h p) vSucc none n).2)) → TA i9_bestTurn 52 [some (vr 0), some (vi h), some (vi p), none, some (vi (bestN (fTu (sF S) h p) vSucc none n).1), some (vi (tvC (bestN (fTu (sF S) h p) vSucc none n).2)), some (vi ((n : Int) + 1 + 1)), none] [] (LC, M1) (CP S (bestN (fTu (sF S) h p) vSucc none 9).1))) (fun M' f => by
      have ih := L_btC hF hb k (n + 1) M' (by omega) (hM.fr f)
      rw [en] at ih
      refine ⟨fun z => ?_, fun z => ?_⟩
      · rw [best_lt ((tlC t1 t2).1 z)] at ih; exact ih
      · rw [best_ge (fun y => z ((tlC t1 t2).2 y))] at ih; exact ih)
    rw [en] at tt
    refine W9_bestTurn_52 ⟨fun z => ?_, fun _ => tt⟩
    rw [wlt (by omega) (by omega) (by omega) (by omega)] at z; omega
theorem L_btM {S : ST} (hF : FOK (sF S)) {h p : Int} (hb : BOK h p) {q : Option Nat} : ∀ (k n : Nat) (M : Mem), n + k = 9 → RM S M →
    TA i10_bestTurn 45 [some (vr 0), some (vi h), some (vi p), none, some (vi (bestN (fTu (sF S) h p) vSucc none n).1), some (vi (tvM (bestN (fTu (sF S) h p) vSucc none n).2)), some (vi ((n : Int) + 1)), none] [] (LM q, M) (MP S (bestN (fTu (sF S) h p) vSucc none 9).1)
  | 0, n, M, hn, hM => by
    have e : n = 9 := by omega
    subst e
    exact W10_bestTurn_45 ⟨fun _ => ⟨q, M, rfl, rfl, hM⟩, fun z => absurd (by decide) z⟩
  | k + 1, n, M, hn, hM => by
    have t1 : TB (fTu (sF S) h p n) := TB_rTe hF hb _
    have t2 : TB (bestN (fTu (sF S) h p) vSucc none n).2 := TB_best TB_no (m := n) (fun j _ => TB_rTe hF hb _) n (by omega)
    have en : ((n + 1 : Nat) : Int) = (n : Int) + 1 := by omega
    have tt := T_teM (q := q) hF hb (t := n + 1) (by omega) hM.1 (K := fun r1 M1 => TA i10_bestTurn 76 [some (vr 0), some (vi h), some (vi p), none, none, some (vi (tvM (bestN (fTu (sF S) h p) vSucc none n).2)), some (vi ((n : Int) + 1)), some (vi r1)] [vi (if wr r1 < wr (tvM (bestN (fTu (sF S) h p) vSucc none n).2) then (n : Int) + 1 else (bestN (fTu (sF S) h p) vSucc none n).1)] (LM q, M1) (MP S (bestN (fTu (sF S) h p) vSucc none 9).1)) (fun M' f => W10_bestTurn_76 (W10_bestTurn_92 (by
      have ih := L_btM hF hb (q := q) k (n + 1) M' (by omega) (hM.fr f.q)
      rw [en, ← best_1, ← best_2] at ih
      simp only [← tlM t1 t2] at ih
      exact ih)))
    rw [en] at tt
    refine W10_bestTurn_45 ⟨fun z => ?_, fun _ => tt⟩
    rw [wlt (by omega) (by omega) (by omega) (by omega)] at z; omega
theorem SIM_bestTurn {h p : Int} (ih : IR h) (ip : IR p) : SIM i9_bestTurn 8 i10_bestTurn 8 [vi h, vi p] := by
  intro S hS
  have hF := hS.1
  have hp3 := hF.2.2.1
  have hb6 := sBy_le h p
  obtain ⟨W, hW⟩ : ∃ W : Int, W = if pn (sF S) < 3 then -3 else sBy h p := ⟨_, rfl⟩
  have hWb : -6 ≤ W ∧ W ≤ 0 := by rw [hW]; split <;> omega
  have kC : ∀ M Post, RC S M → TA i9_bestTurn 30 [some (vr 0), some (vi h), some (vi p), none, none, none, none, none] [vi W] (LC, M) Post → TC i9_bestTurn 8 [vr 0, vi h, vi p] (LC, M) Post := by
    intro M Post hM k
    refine W9_bestTurn_0 ?_
    rw [hM.1.2.2.1, by0_eq ih ip, wr_id (x := 3) (by omega) (by omega), wr_id (x := pn (sF S)) (by omega) (by omega), ← hW]
    exact k
  have kM : ∀ q M Post, RM S M → TA i10_bestTurn 23 [some (vr 0), some (vi h), some (vi p), none, none, none, none, none] [vi W] (LM q, up M 0 8 0) Post → TC i10_bestTurn 8 [vr 0, vi h, vi p] (LM q, M) Post := by
    intro q M Post hM k
    refine W10_bestTurn_0 ?_
    rw [hM.1.2.2.1, wrongBy_eq ih ip, wr_id (x := 3) (by omega) (by omega), wr_id (x := pn (sF S)) (by omega) (by omega), ← hW]
    exact k
  by_cases e : W = 0
  · have hB : BOK h p := by
      rw [hW] at e
      split at e
      · omega
      · exact sBy_ok e
    refine ⟨(bestN (fTu (sF S) h p) vSucc none 9).1, S, hS, fun M hM => kC M _ hM (W9_bestTurn_30 ⟨fun _ => L_btC hF hB 9 0 M rfl hM, fun z => ?_⟩), fun q M hM => kM q M _ hM (W10_bestTurn_23 ⟨fun z => ?_, fun _ => L_btM hF hB 9 0 _ rfl hM.thr⟩)⟩
    · rw [e] at z; exact absurd wr0 z
    · rw [e, wr0] at z; omega
  · refine ⟨W, sRef S W, hS.ref _, fun M hM => kC M _ hM (W9_bestTurn_30 ⟨fun z => ?_, fun _ => C_ref hM (by omega)⟩), fun q M hM => kM q M _ hM (W10_bestTurn_23 ⟨fun _ => ⟨by rw [wr_id (by omega) (by omega)]; omega, M_ref hM.thr (by omega)⟩, fun z => ?_⟩)⟩
    · rw [wr_id (by omega) (by omega)] at z; exact absurd z e
    · rw [wr_id (by omega) (by omega)] at z; omega

/-! raceOver, bestChange: both sides answer alike -/
theorem FrC.of41 {M M' : Mem} (h : ∀ i, i ≠ 41 → M' i = M i) : FrC M M' := fun i hi => h i (by omega)
/-- a run with one change, in the reference -/
theorem T_runO {q : Option Nat} {F : FS} (hF : FOK F) {hold pace : Int} (hb : BOK hold pace) {c : Int} (hc : -100 ≤ c ∧ c ≤ 100) {o : Nat} (ho : o < 6) {p : Nat} (hp : p < 6) {M : Mem} (hR : RMf F M) {K : Int → Mem → Prop}
    (h : ∀ M', FrR M M' → K (tvM (sOver F (ln F).toNat p hold pace (overC F c o))) M') : TI i10_run 7 [vr 0, vi (p : Int), vi hold, vi pace, vi c, vi (o : Int)] (LM q, M) K :=
  T_run hF hb hc ho hp hR (fun M' hM => h M' hM.1)
theorem TB_overC {F : FS} (hF : FOK F) {lane : Nat} (hlane : lane < 2) {hold pace : Int} (hb : BOK hold pace) {c : Int} {o p : Nat} (ho : o < 6) (hp : p < 6) : TB (sOver F lane p hold pace (overC F c o)) := by
  rw [← sOver_over hF]
  exact TB_over hF hlane hb (chg2_ok ho hp) hp
theorem T_tOverC {F : FS} (hF : FOK F) {lane : Nat} (hlane : lane < 2) {hold pace : Int} (hb : BOK hold pace) {c : Int} (hc : -100 ≤ c ∧ c ≤ 100) {o p : Nat} (ho : o < 6) (hp : p < 6) {M : Mem} (hR : RCf F M 1) (hC : CO M 36 (yd F).toNat (lk F lane) (lf F lane)) {K : Int → Mem → Prop}
    (h : ∀ M', (∀ i, i ≠ 41 → M' i = M i) → K (tvC (sOver F lane p hold pace (overC F c o))) M') : TI i9_timeOver 8 [vr 0, vi (o : Int), vi (p : Int), vi hold, vi pace, vi c, vi 20] (LC, M) K := by
  refine T_tOver hF hlane hb hc (by omega) ho hp hR hC (fun M' f _ => ?_)
  rw [sOver_over hF]
  exact h M' f
def sOvC (F : FS) (a b h p c : Int) : Int := s3w (¬ (sWho F a ∧ sWho F b ∧ a ≠ b)) ((h < 0 ∨ p < 1) ∨ c < 1) ((2 < h ∨ 9 < p) ∨ yd F ≤ c)
theorem SIM_raceOver {a b h p c : Int} (ia : IR a) (ib : IR b) (ih : IR h) (ip : IR p) (ic : IR c) : SIM i9_raceOver 7 i10_raceOver 7 [vi a, vi b, vi h, vi p, vi c] := by
  intro S hS
  have hF := hS.1
  obtain ⟨hy1, hy2⟩ := hF.1
  obtain ⟨W, hW⟩ : ∃ W, W = sOvC (sF S) a b h p c := ⟨_, rfl⟩
  have b2 : -6 ≤ W ∧ W ≤ 0 := by rw [hW]; unfold sOvC s3w; (repeat' split) <;> omega
  have kC : ∀ M Post, RC S M → ((W = 0 → TV i2_takes 4 [vr 36, vr 1, vi (M 1 1)] (LC, M) (fun M1 => TI i9_timeOver 8 [vr 0, vi a, vi b, vi h, vi p, vi c, vi 20] (LC, M1) (fun r2 M2 => Post (some (vi (f9_toldTime r2))) (LC, M2)))) ∧ (W ≠ 0 → Post (some (vi (f9_refuse W))) (LC, g9_refuse M W))) → TC i9_raceOver 7 [vr 0, vi a, vi b, vi h, vi p, vi c] (LC, M) Post := by
    intro M Post hM k
    refine W9_raceOver_0 (W9_raceOver_26 (W9_raceOver_52 ?_))
    have e1 : (if wr (f9_low h p) = 0 then (if wr c < wr 1 then (1 : Int) else 0) else 1) = if (h < 0 ∨ p < 1) ∨ c < 1 then 1 else 0 := by
      rw [low_eq ih ip, ic.w, wr1]
      by_cases g : h < 0 ∨ p < 1
      · rw [if_pos g, if_neg (by rw [wr1]; omega), if_pos (Or.inl g)]
      · rw [if_neg g, if_pos wr0]
        (repeat' split) <;> omega
    have e2 : (if wr (f9_high h p) = 0 then (if wr c < wr (M 1 0) then (0 : Int) else 1) else 1) = if (2 < h ∨ 9 < p) ∨ yd (sF S) ≤ c then 1 else 0 := by
      rw [high_eq ih ip, ic.w, hM.1.1, wr_id (x := yd (sF S)) (by omega) (by omega)]
      by_cases g : 2 < h ∨ 9 < p
      · rw [if_pos g, if_neg (by rw [wr1]; omega), if_pos (Or.inl g)]
      · rw [if_neg g, if_pos wr0]
        (repeat' split) <;> omega
    rw [e1, e2, noTwo_eq hF hM.1 ia ib, first_eq, show s3w (¬ (sWho (sF S) a ∧ sWho (sF S) b ∧ a ≠ b)) ((h < 0 ∨ p < 1) ∨ c < 1) ((2 < h ∨ 9 < p) ∨ yd (sF S) ≤ c) = W from hW.symm, wr_id (by omega) (by omega)]
    exact k
  have kM : ∀ q M Post, RM S M → TA i10_raceOver 71 [some (vr 0), some (vi a), some (vi b), some (vi h), some (vi p), some (vi c), some (vi W)] [] (LM q, up M 0 8 0) Post → TC i10_raceOver 7 [vr 0, vi a, vi b, vi h, vi p, vi c] (LM q, M) Post := by
    intro q M Post hM k
    have e0 := areTwo_eq hF hM.thr.1 ia ib
    have e3 : wr 2 = 2 := wr_id (by omega) (by omega)
    have e9 : wr 9 = 9 := wr_id (by omega) (by omega)
    refine W10_raceOver_0 ⟨isOne_01 hF hM.1 ia, isOne_01 hF hM.1 ib, ?_⟩
    rw [e0, ih.w, ip.w, ic.w, wr1, e3, e9, hM.1.1, wr_id (x := yd (sF S)) (by omega) (by omega)]
    by_cases g : sWho (sF S) a ∧ sWho (sF S) b ∧ a ≠ b
    · have eg : W = if (h < 0 ∨ p < 1) ∨ c < 1 then -4 else if (2 < h ∨ 9 < p) ∨ yd (sF S) ≤ c then -6 else 0 := by
        rw [hW]; unfold sOvC s3w; rw [if_neg (fun z => z g)]
      rw [if_pos g]
      refine ⟨fun z => absurd z (by rw [wr1]; omega), fun _ => ?_⟩
      have h4 : ((h < 0 ∨ p < 1) ∨ c < 1) → TA i10_raceOver 39 [some (vr 0), some (vi a), some (vi b), some (vi h), some (vi p), some (vi c), none] [] (LM q, up M 0 8 0) Post := fun z => W10_raceOver_39 (by rw [eg, if_pos z] at k; exact k)
      have h6 : ¬ ((h < 0 ∨ p < 1) ∨ c < 1) → ((2 < h ∨ 9 < p) ∨ yd (sF S) ≤ c) → TA i10_raceOver 67 [some (vr 0), some (vi a), some (vi b), some (vi h), some (vi p), some (vi c), none] [] (LM q, up M 0 8 0) Post := fun z y => W10_raceOver_67 (by rw [eg, if_neg z, if_pos y] at k; exact k)
      refine ⟨fun z => h4 (by omega), fun z1 => ⟨fun z => h4 (by omega), fun z2 => ⟨fun z => h4 (by omega), fun z3 => ⟨fun z => h6 (by omega) (by omega), fun z4 => ⟨fun z => h6 (by omega) (by omega), fun z5 => ⟨fun z => ?_, fun z => h6 (by omega) (by omega)⟩⟩⟩⟩⟩⟩
      rw [eg, if_neg (by omega), if_neg (by omega)] at k
      exact k
    · have eg : W = -1 := by rw [hW]; unfold sOvC s3w; rw [if_pos g]
      rw [if_neg g]
      refine ⟨fun _ => ?_, fun z => absurd wr0 z⟩
      rw [eg] at k
      exact k
  by_cases e : W = 0
  · have hd : (sWho (sF S) a ∧ sWho (sF S) b ∧ a ≠ b) ∧ BOK h p ∧ 1 ≤ c ∧ c < yd (sF S) := by
      rw [hW] at e
      unfold sOvC s3w at e
      by_cases g : sWho (sF S) a ∧ sWho (sF S) b ∧ a ≠ b
      · rw [if_neg (fun z => z g)] at e
        unfold BOK
        refine ⟨g, ?_⟩
        (repeat' split at e) <;> omega
      · rw [if_pos g] at e; omega
    obtain ⟨⟨ha, hb, -⟩, hB, hc⟩ := hd
    obtain ⟨n, hn6, rfl, -⟩ := hb.n hF
    obtain ⟨m, hm6, rfl, -⟩ := ha.n hF
    have tb := TB_overC hF (hln hF) hB (c := c) hm6 hn6
    refine ⟨sTold (sOver (sF S) (ln (sF S)).toNat n h p (overC (sF S) c m)), S, hS, fun M hM => kC M _ hM ⟨fun _ => ?_, fun z => absurd e z⟩, fun q M hM => kM q M _ hM (W10_raceOver_71 ⟨fun z => ?_, fun _ => ?_⟩)⟩
    · rw [hM.1.2.1]
      refine T_takes_36 hF hF.2.1 hM.1 (fun M1 f1 hC => ?_)
      have g1 : FrC M M1 := fun i hi => f1 i (by omega) (by omega) (by omega)
      refine T_tOverC hF (hln hF) hB (by omega) hm6 hn6 (hM.fr g1).1 hC (fun M2 f2 => ?_)
      exact ⟨M2, by rw [toldC tb], rfl, hM.fr (g1.tr (FrC.of41 f2))⟩
    · rw [e, wr0] at z; omega
    · refine T_runO hF hB (by omega) hm6 hn6 hM.thr.1 (fun M' f => ?_)
      exact ⟨q, M', by rw [toldM tb], rfl, hM.thr.fr f.q⟩
  · refine ⟨W, sRef S W, hS.ref _, fun M hM => kC M _ hM ⟨fun z => absurd z e, fun _ => C_ref hM (by omega)⟩, fun q M hM => kM q M _ hM (W10_raceOver_71 ⟨fun _ => ⟨by rw [wr_id (by omega) (by omega)]; omega, M_ref hM.thr (by omega)⟩, fun z => ?_⟩)⟩
    rw [wr_id (by omega) (by omega)] at z; omega
theorem CO.fr {M M' : Mem} {n : Nat} {kf ff : Nat → Int} (h : CO M 36 n kf ff) (f : ∀ i, i ≠ 41 → M' i = M i) : CO M' 36 n kf ff := by
  obtain ⟨c0, c1, c2⟩ := h
  exact ⟨by rw [f 36 (by omega)]; exact c0, c1, fun y hy => by rw [f (36 + 2) (by omega), f (36 + 4) (by omega)]; exact c2 y hy⟩
abbrev fChange (F : FS) (p o : Nat) (h pace : Int) : Nat → RS := fun n => sOver F (ln F).toNat p h pace (overC F ((n : Int) + 1) o)
theorem L_bestChangeC {S : ST} (hF : FOK (sF S)) {p o : Nat} (hp : p < 6) (ho : o < 6) {h pace : Int} (hb : BOK h pace) {s0 : RS} (hs0 : TB s0) : ∀ (k n : Nat) (M : Mem), n + k + 1 = (yd (sF S)).toNat → RC S M → CO M 36 (yd (sF S)).toNat (lk (sF S) (ln (sF S)).toNat) (lf (sF S) (ln (sF S)).toNat) →
    TA i9_bestChange 40 [some (vr 0), some (vi (o : Int)), some (vi (p : Int)), some (vi h), some (vi pace), none, some (vi (bestN (fChange (sF S) p o h pace) vSucc s0 n).1), some (vi (tvC (bestN (fChange (sF S) p o h pace) vSucc s0 n).2)), some (vi ((n : Int) + 1)), none] [] (LC, M) (CP S (bestN (fChange (sF S) p o h pace) vSucc s0 ((yd (sF S)).toNat - 1)).1)
  | 0, n, M, hn, hM, hC => by
    obtain ⟨hy1, hy2⟩ := hF.1
    have e : n = (yd (sF S)).toNat - 1 := by omega
    subst e
    refine W9_bestChange_40 ⟨fun z => ?_, fun _ => ⟨M, rfl, rfl, hM⟩⟩
    rw [hM.1.1, wlt (by omega) (by omega) (by omega) (by omega)] at z
    omega
  | k + 1, n, M, hn, hM, hC => by
    obtain ⟨hy1, hy2⟩ := hF.1
    have t1 : TB (fChange (sF S) p o h pace n) := TB_overC hF (hln hF) hb ho hp
    have t2 : TB (bestN (fChange (sF S) p o h pace) vSucc s0 n).2 := TB_best hs0 (m := n) (fun j hj => TB_overC hF (hln hF) hb ho hp) n (by omega)
    refine W9_bestChange_40 ⟨fun _ => T_tOverC hF (hln hF) hb (by omega) ho hp hM.1 hC (fun M' f => ?_), fun z => ?_⟩
    · have ih := L_bestChangeC hF hp ho hb hs0 k (n + 1) M' (by omega) (hM.fr (FrC.of41 f)) (hC.fr f)
      have en : ((n + 1 : Nat) : Int) = (n : Int) + 1 := by omega
      rw [en] at ih
      refine ⟨fun z => ?_, fun z => ?_⟩
      · rw [best_lt ((tlC t1 t2).1 z)] at ih; exact ih
      · rw [best_ge (fun y => z ((tlC t1 t2).2 y))] at ih; exact ih
    · rw [hM.1.1, wlt (by omega) (by omega) (by omega) (by omega)] at z; omega
theorem L_bestChangeM {S : ST} (hF : FOK (sF S)) {p o : Nat} (hp : p < 6) (ho : o < 6) {h pace : Int} (hb : BOK h pace) {s0 : RS} (hs0 : TB s0) {q : Option Nat} : ∀ (k n : Nat) (M : Mem), n + k + 1 = (yd (sF S)).toNat → RM S M →
    TA i10_bestChange 45 [some (vr 0), some (vi (o : Int)), some (vi (p : Int)), some (vi h), some (vi pace), none, some (vi (bestN (fChange (sF S) p o h pace) vSucc s0 n).1), some (vi (tvM (bestN (fChange (sF S) p o h pace) vSucc s0 n).2)), some (vi ((n : Int) + 1)), none] [] (LM q, M) (MP S (bestN (fChange (sF S) p o h pace) vSucc s0 ((yd (sF S)).toNat - 1)).1)
  | 0, n, M, hn, hM => by
    obtain ⟨hy1, hy2⟩ := hF.1
    have e : n = (yd (sF S)).toNat - 1 := by omega
    subst e
    refine W10_bestChange_45 ⟨fun z => ?_, fun _ => ⟨q, M, rfl, rfl, hM⟩⟩
    rw [hM.1.1, wlt (by omega) (by omega) (by omega) (by omega)] at z
    omega
  | k + 1, n, M, hn, hM => by
    obtain ⟨hy1, hy2⟩ := hF.1
    have t1 : TB (fChange (sF S) p o h pace n) := TB_overC hF (hln hF) hb ho hp
    have t2 : TB (bestN (fChange (sF S) p o h pace) vSucc s0 n).2 := TB_best hs0 (m := n) (fun j hj => TB_overC hF (hln hF) hb ho hp) n (by omega)
    refine W10_bestChange_45 ⟨fun _ => T_runO hF hb (by omega) ho hp hM.1 (fun M' f => W10_bestChange_81 (W10_bestChange_97 ?_)), fun z => ?_⟩
    · have ih := L_bestChangeM hF hp ho hb hs0 (q := q) k (n + 1) M' (by omega) (hM.fr f.q)
      have en : ((n + 1 : Nat) : Int) = (n : Int) + 1 := by omega
      rw [en, ← best_1, ← best_2] at ih
      simp only [← tlM t1 t2] at ih
      exact ih
    · rw [hM.1.1, wlt (by omega) (by omega) (by omega) (by omega)] at z; omega
theorem SIM_bestChange {a b h p : Int} (ia : IR a) (ib : IR b) (ih : IR h) (ip : IR p) : SIM i9_bestChange 10 i10_bestChange 10 [vi a, vi b, vi h, vi p] := by
  intro S hS
  have hF := hS.1
  have hy := hF.1
  have c1 := sTwo_le (sF S) a b h p
  have k1 : ∀ M, RC S M → f9_badTwo M a b h p = sTwo (sF S) a b h p := fun M hM => badTwo_eq hF hM.1 ia ib ih ip
  have k2 : ∀ M, RM S M → f10_wrongRace (up M 0 8 0) a b h p = sTwo (sF S) a b h p := fun M hM => wrongRace_eq hF hM.thr.1 ia ib ih ip
  by_cases e : sTwo (sF S) a b h p = 0
  · obtain ⟨ha, hb, -, hB⟩ := sTwo_ok e
    obtain ⟨n, hn6, rfl, -⟩ := hb.n hF
    obtain ⟨m, hm6, rfl, -⟩ := ha.n hF
    have t0 : TB (sRace (sF S) (ln (sF S)).toNat n h p) := TB_race hF (hln hF) hn6 hB
    refine ⟨(bestN (fChange (sF S) n m h p) vSucc (sRace (sF S) (ln (sF S)).toNat n h p) ((yd (sF S)).toNat - 1)).1, S, hS, fun M hM => W9_bestChange_0 ⟨fun _ => T_timeOf hF hM.1 hn6 hB (fun M' hL => ?_), fun z => ?_⟩, fun q M hM => W10_bestChange_0 ⟨isOne_01 hF hM.1 ia, isOne_01 hF hM.1 ib, fun z => ?_, fun _ => T_plainRun hF hB hn6 hM.thr.1 (fun M' hL => ?_)⟩⟩
    · exact L_bestChangeC hF hn6 hm6 hB t0 ((yd (sF S)).toNat - 1) 0 M' (by omega) (hM.fr hL.C) hL.2.1
    · rw [k1 M hM, e] at z; exact absurd wr0 z
    · rw [k2 M hM, e, wr0] at z; omega
    · exact L_bestChangeM hF hn6 hm6 hB t0 ((yd (sF S)).toNat - 1) 0 M' (by omega) (hM.thr.fr hL.1.q)
  · refine ⟨sTwo (sF S) a b h p, sRef S (sTwo (sF S) a b h p), hS.ref _, fun M hM => W9_bestChange_0 ⟨fun z => ?_, fun _ => ?_⟩, fun q M hM => W10_bestChange_0 ⟨isOne_01 hF hM.1 ia, isOne_01 hF hM.1 ib, fun _ => ?_, fun z => ?_⟩⟩
    · rw [k1 M hM, wr_id (by omega) (by omega)] at z; exact absurd z e
    · rw [k1 M hM]; exact C_ref hM (by omega)
    · rw [k2 M hM, wr_id (x := -_) (by omega) (by omega)]
      exact ⟨by omega, M_ref hM.thr (by omega)⟩
    · rw [k2 M hM, wr_id (by omega) (by omega)] at z; omega

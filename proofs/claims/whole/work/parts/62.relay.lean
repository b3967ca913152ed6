/-! relay, catches: both sides answer alike -/
abbrev rrl (F : FS) (o p : Nat) (h pace : Int) (c e : Nat) : RS := sOver F (ln F).toNat p h pace (chg2 F (c : Int) o (e : Int) p)
theorem TB_rrl {F : FS} (hF : FOK F) {o p : Nat} (ho : o < 6) (hp : p < 6) {h pace : Int} (hb : BOK h pace) (c e : Nat) : TB (rrl F o p h pace c e) := TB_over hF (hln hF) hb (chg2_ok ho hp) hp
theorem L_rlM {q : Option Nat} {F : FS} (hF : FOK F) {h pace : Int} (hb : BOK h pace) {o p : Nat} (ho : o < 6) (hp : p < 6) {c e : Nat} (hc : c < 50) (he : e < 50) {M0 : Mem} (hR : RMf F M0) {K : Int → Mem → Prop} (hK : ∀ M', FrR M0 M' → K (tvM (rrl F o p h pace c e)) M') : ∀ (k y : Nat) (M : Mem), y + k = (yd F).toNat → IM F h pace (chg2 F (c : Int) o (e : Int) p) p M0 M y →
    TA i10_relayBy 12 [some (vr 0), some (vi (o : Int)), some (vi (p : Int)), some (vi h), some (vi pace), some (vi (100 * (c : Int) + (e : Int))), some (vi (y : Int))] [] (LM q, M) (fun rv G' => ∃ r M', rv = some (vi r) ∧ G' = (LM q, M') ∧ K r M')
  | 0, y, M, hy, hI => by
    have hyd := hF.1
    have ey : y = (yd F).toNat := by omega
    subst ey
    obtain ⟨hf, h0, h1, h2, hW⟩ := hI
    have hRM := hf.F hR
    refine W10_relayBy_12 ⟨fun z => ?_, fun _ => W10_relayBy_125 ⟨_, M, rfl, rfl, ?_⟩⟩
    · rw [hRM.1, wlt (by omega) (by omega) (by omega) (by omega)] at z; omega
    · rw [endM_eq hW]; exact hK M hf
  | k + 1, y, M, hy, hI => by
    have hyd := hF.1
    have hl := hF.2.1
    have en : ((y + 1 : Nat) : Int) = (y : Int) + 1 := by omega
    have hRM := hI.1.F hR
    have nxt : ∀ M', IM F h pace (chg2 F (c : Int) o (e : Int) p) p M0 M' (y + 1) → TA i10_relayBy 12 [some (vr 0), some (vi (o : Int)), some (vi (p : Int)), some (vi h), some (vi pace), some (vi (100 * (c : Int) + (e : Int))), some (vi ((y : Int) + 1))] [] (LM q, M') (fun rv G' => ∃ r M', rv = some (vi r) ∧ G' = (LM q, M') ∧ K r M') := by
      intro M' hI'
      have ih := L_rlM (q := q) hF hb ho hp hc he hR hK k (y + 1) M' (by omega) hI'
      rw [en] at ih; exact ih
    have d1 : dv (100 * (c : Int) + (e : Int)) 100 = (c : Int) := by rw [dv_nat (by omega) (by omega) (by omega) (by omega)]; omega
    have d2 : rmd (100 * (c : Int) + (e : Int)) 100 = (e : Int) := by rw [rmd_nat (by omega) (by omega) (by omega) (by omega)]; omega
    have take : ∀ x : Nat, x < 6 → chg2 F (c : Int) o (e : Int) p y = some (PW F x) → TA i10_relayBy 75 [some (vr 0), some (vi (o : Int)), some (vi (p : Int)), some (vi h), some (vi pace), some (vi (100 * (c : Int) + (e : Int))), some (vi (y : Int))] [vi (x : Int), vr 0] (LM q, up M 0 13 (M 0 13 + 40)) (fun rv G' => ∃ r M', rv = some (vi r) ∧ G' = (LM q, M') ∧ K r M') := by
      intro x hx hch
      refine W10_relayBy_75 ⟨by rw [wr_id (by omega) (by omega)]; omega, ?_⟩
      rw [wr_id (x := (x : Int)) (by omega) (by omega), show ((x : Int)).toNat = x by omega, up_fr (i := 3) (by omega), (hRM.2.2.2.2.2 x hx).1, up_sl (j := 3) (by omega), hRM.2.1]
      exact IM_take hF hb hR (by omega) hI hx hch nxt
    refine W10_relayBy_12 ?_
    rw [d1, d2, wr_id (x := (y : Int)) (by omega) (by omega), wr_id (x := (c : Int)) (by omega) (by omega), wr_id (x := (e : Int)) (by omega) (by omega)]
    refine ⟨fun _ => ⟨fun _ => ⟨by decide, fun z1 => ⟨by decide, ?_⟩, fun z1 => ⟨by decide, fun z2 => ⟨by decide, ?_⟩, fun z2 => ?_⟩⟩, fun z => W10_relayBy_125 ⟨_, M, rfl, rfl, ?_⟩⟩, fun z => ?_⟩
    · rw [if_pos z1]
      exact take o ho (by unfold chg2; rw [if_pos z1])
    · rw [if_neg z1]
      exact take p hp (by unfold chg2; rw [if_neg z1, if_pos z2])
    · rw [hRM.2.1]
      exact IM_goes hF hb hR (by omega) hI (by unfold chg2; rw [if_neg z1, if_neg z2]) nxt
    · have en' := hI.2.2.2.2.never z
      have := SA_none en' (k + 1)
      rw [hy] at this
      rw [endM_eq hI.2.2.2.2, en', show none = rrl F o p h pace c e from this.symm]
      exact hK M hI.1
    · rw [hRM.1, wr_id (by omega) (by omega)] at z; omega
theorem T_rlM {q : Option Nat} {F : FS} (hF : FOK F) {h pace : Int} (hb : BOK h pace) {o p : Nat} (ho : o < 6) (hp : p < 6) {c e : Nat} (hc : c < 50) (he : e < 50) {M : Mem} (hR : RMf F M) {K : Int → Mem → Prop} (hK : ∀ M', FrR M M' → K (tvM (rrl F o p h pace c e)) M') : TI i10_relayBy 7 [vr 0, vi (o : Int), vi (p : Int), vi h, vi pace, vi (100 * (c : Int) + (e : Int))] (LM q, M) K :=
  W10_relayBy_0 ⟨by rw [wr_id (by omega) (by omega)]; omega, wb0, L_rlM hF hb ho hp hc he hR hK (yd F).toNat 0 _ (by omega) (IM_start hF hR hp)⟩
def bst (b : Int × RS) (v : Int) (r : RS) : Int × RS := if tvM r < tvM b.2 then (v, r) else b
theorem bst_lt {b : Int × RS} {v : Int} {r : RS} (g : tvM r < tvM b.2) : bst b v r = (v, r) := if_pos g
theorem bst_ge {b : Int × RS} {v : Int} {r : RS} (g : ¬ tvM r < tvM b.2) : bst b v r = b := if_neg g
theorem TB_bst {b : Int × RS} {v : Int} {r : RS} (h1 : TB b.2) (h2 : TB r) : TB (bst b v r).2 := by
  unfold bst
  split
  · exact h2
  · exact h1
theorem bst_1 {b : Int × RS} {v : Int} {r : RS} : (if tvM r < tvM b.2 then v else b.1) = (bst b v r).1 := by
  by_cases g : tvM r < tvM b.2
  · rw [if_pos g, bst_lt g]
  · rw [if_neg g, bst_ge g]
theorem bst_2 {b : Int × RS} {v : Int} {r : RS} : (if tvM r < tvM b.2 then tvM r else tvM b.2) = tvM (bst b v r).2 := by
  by_cases g : tvM r < tvM b.2
  · rw [if_pos g, bst_lt g]
  · rw [if_neg g, bst_ge g]
def inR (F : FS) (o p : Nat) (h pace : Int) (c : Nat) : Nat → Nat → Int × RS → Int × RS
  | 0, _, b => b
  | k + 1, e, b => inR F o p h pace c k (e + 1) (bst b (100 * (c : Int) + (e : Int)) (rrl F o p h pace c e))
def ouR (F : FS) (o p : Nat) (h pace : Int) : Nat → Nat → Int × RS → Int × RS
  | 0, _, b => b
  | k + 1, c, b => ouR F o p h pace k (c + 1) (inR F o p h pace c k (c + 1) b)
theorem TB_inR {F : FS} (hF : FOK F) {o p : Nat} (ho : o < 6) (hp : p < 6) {h pace : Int} (hb : BOK h pace) {c : Nat} : ∀ (k e : Nat) (b : Int × RS), TB b.2 → TB (inR F o p h pace c k e b).2
  | 0, _, _, t => t
  | k + 1, e, b, t => TB_inR hF ho hp hb k (e + 1) _ (TB_bst t (TB_rrl hF ho hp hb c e))
theorem L_riC {S : ST} (hF : FOK (sF S)) {o p : Nat} (ho : o < 6) (hp : p < 6) {h pace : Int} (hb : BOK h pace) {c : Nat} (hc : c < 20) {Post : Option AV → GM → Prop} : ∀ (k e : Nat) (b : Int × RS) (M : Mem), e + k = (yd (sF S)).toNat → TB b.2 → RC S M → CO M 36 (yd (sF S)).toNat (lk (sF S) (ln (sF S)).toNat) (lf (sF S) (ln (sF S)).toNat) →
    (∀ M', RC S M' → CO M' 36 (yd (sF S)).toNat (lk (sF S) (ln (sF S)).toNat) (lf (sF S) (ln (sF S)).toNat) → TA i9_relay 40 [some (vr 0), some (vi (o : Int)), some (vi (p : Int)), some (vi h), some (vi pace), none, some (vi (inR (sF S) o p h pace c k e b).1), some (vi (tvC (inR (sF S) o p h pace c k e b).2)), some (vi ((c : Int) + 1)), none, none] [] (LC, M') Post) →
    TA i9_relay 58 [some (vr 0), some (vi (o : Int)), some (vi (p : Int)), some (vi h), some (vi pace), none, some (vi b.1), some (vi (tvC b.2)), some (vi (c : Int)), some (vi (e : Int)), none] [] (LC, M) Post
  | 0, e, b, M, he, tb, hM, hC, hN => by
    have hyd := hF.1
    refine W9_relay_58 ⟨fun z => ?_, fun _ => hN M hM hC⟩
    rw [hM.1.1, wlt (by omega) (by omega) (by omega) (by omega)] at z; omega
  | k + 1, e, b, M, he, tb, hM, hC, hN => by
    have hyd := hF.1
    have en : ((e + 1 : Nat) : Int) = (e : Int) + 1 := by omega
    have t1 := TB_rrl hF ho hp hb c e
    refine W9_relay_58 ⟨fun _ => T_tOver hF (hln hF) hb (by omega) (by omega) ho hp hM.1 hC (fun M' f _ => ?_), fun z => ?_⟩
    · have ih := L_riC hF ho hp hb hc k (e + 1) (bst b (100 * (c : Int) + (e : Int)) (rrl (sF S) o p h pace c e)) M' (by omega) (TB_bst tb t1) (hM.fr (FrC.of41 f)) (hC.fr f) hN
      rw [en] at ih
      refine ⟨fun z => ?_, fun z => ?_⟩
      · rw [bst_lt ((tlC t1 tb).1 z)] at ih; exact ih
      · rw [bst_ge (fun y => z ((tlC t1 tb).2 y))] at ih; exact ih
    · rw [hM.1.1, wlt (by omega) (by omega) (by omega) (by omega)] at z; omega
theorem L_roC {S : ST} (hF : FOK (sF S)) {o p : Nat} (ho : o < 6) (hp : p < 6) {h pace : Int} (hb : BOK h pace) : ∀ (k c : Nat) (b : Int × RS) (M : Mem), c + k = (yd (sF S)).toNat → TB b.2 → RC S M → CO M 36 (yd (sF S)).toNat (lk (sF S) (ln (sF S)).toNat) (lf (sF S) (ln (sF S)).toNat) →
    TA i9_relay 40 [some (vr 0), some (vi (o : Int)), some (vi (p : Int)), some (vi h), some (vi pace), none, some (vi b.1), some (vi (tvC b.2)), some (vi (c : Int)), none, none] [] (LC, M) (CP S (ouR (sF S) o p h pace k c b).1)
  | 0, c, b, M, hc, tb, hM, hC => by
    have hyd := hF.1
    refine W9_relay_40 ⟨fun z => ?_, fun _ => ⟨M, rfl, rfl, hM⟩⟩
    rw [hM.1.1, wlt (by omega) (by omega) (by omega) (by omega)] at z; omega
  | k + 1, c, b, M, hc, tb, hM, hC => by
    have hyd := hF.1
    have en : ((c + 1 : Nat) : Int) = (c : Int) + 1 := by omega
    refine W9_relay_40 ⟨fun _ => ?_, fun z => ?_⟩
    · rw [← en]
      refine L_riC hF ho hp hb (by omega) k (c + 1) b M (by omega) tb hM hC (fun M' hM' hC' => ?_)
      rw [← en]
      exact L_roC hF ho hp hb k (c + 1) _ M' (by omega) (TB_inR hF ho hp hb k (c + 1) b tb) hM' hC'
    · rw [hM.1.1, wlt (by omega) (by omega) (by omega) (by omega)] at z; omega
theorem L_riM {S : ST} (hF : FOK (sF S)) {o p : Nat} (ho : o < 6) (hp : p < 6) {h pace : Int} (hb : BOK h pace) {c : Nat} (hc : c < 20) {q : Option Nat} {Post : Option AV → GM → Prop} : ∀ (k e : Nat) (b : Int × RS) (M : Mem), e + k = (yd (sF S)).toNat → TB b.2 → RM S M →
    (∀ M', RM S M' → TA i10_relay 45 [some (vr 0), some (vi (o : Int)), some (vi (p : Int)), some (vi h), some (vi pace), none, some (vi (inR (sF S) o p h pace c k e b).1), some (vi (tvM (inR (sF S) o p h pace c k e b).2)), some (vi ((c : Int) + 1)), none, none] [] (LM q, M') Post) →
    TA i10_relay 60 [some (vr 0), some (vi (o : Int)), some (vi (p : Int)), some (vi h), some (vi pace), none, some (vi b.1), some (vi (tvM b.2)), some (vi (c : Int)), some (vi (e : Int)), none] [] (LM q, M) Post
  | 0, e, b, M, he, tb, hM, hN => by
    have hyd := hF.1
    refine W10_relay_60 ⟨fun z => ?_, fun _ => hN M hM⟩
    rw [hM.1.1, wlt (by omega) (by omega) (by omega) (by omega)] at z; omega
  | k + 1, e, b, M, he, tb, hM, hN => by
    have hyd := hF.1
    have en : ((e + 1 : Nat) : Int) = (e : Int) + 1 := by omega
    have t1 := TB_rrl hF ho hp hb c e
    refine W10_relay_60 ⟨fun _ => T_rlM hF hb ho hp (by omega) (by omega) hM.1 (fun M' f => W10_relay_108 (W10_relay_124 ?_)), fun z => ?_⟩
    · have ih := L_riM hF ho hp hb hc (q := q) k (e + 1) (bst b (100 * (c : Int) + (e : Int)) (rrl (sF S) o p h pace c e)) M' (by omega) (TB_bst tb t1) (hM.fr f.q) hN
      rw [en, ← bst_1, ← bst_2] at ih
      simp only [← tlM t1 tb] at ih
      exact ih
    · rw [hM.1.1, wlt (by omega) (by omega) (by omega) (by omega)] at z; omega
theorem L_roM {S : ST} (hF : FOK (sF S)) {o p : Nat} (ho : o < 6) (hp : p < 6) {h pace : Int} (hb : BOK h pace) {q : Option Nat} : ∀ (k c : Nat) (b : Int × RS) (M : Mem), c + k = (yd (sF S)).toNat → TB b.2 → RM S M →
    TA i10_relay 45 [some (vr 0), some (vi (o : Int)), some (vi (p : Int)), some (vi h), some (vi pace), none, some (vi b.1), some (vi (tvM b.2)), some (vi (c : Int)), none, none] [] (LM q, M) (MP S (ouR (sF S) o p h pace k c b).1)
  | 0, c, b, M, hc, tb, hM => by
    have hyd := hF.1
    refine W10_relay_45 ⟨fun z => ?_, fun _ => ⟨q, M, rfl, rfl, hM⟩⟩
    rw [hM.1.1, wlt (by omega) (by omega) (by omega) (by omega)] at z; omega
  | k + 1, c, b, M, hc, tb, hM => by
    have hyd := hF.1
    have en : ((c + 1 : Nat) : Int) = (c : Int) + 1 := by omega
    refine W10_relay_45 ⟨fun _ => ?_, fun z => ?_⟩
    · rw [← en]
      refine L_riM hF ho hp hb (by omega) k (c + 1) b M (by omega) tb hM (fun M' hM' => ?_)
      rw [← en]
      exact L_roM hF ho hp hb k (c + 1) _ M' (by omega) (TB_inR hF ho hp hb k (c + 1) b tb) hM'
    · rw [hM.1.1, wlt (by omega) (by omega) (by omega) (by omega)] at z; omega
theorem SIM_relay {a b h p : Int} (ia : IR a) (ib : IR b) (ih : IR h) (ip : IR p) : SIM i9_relay 11 i10_relay 11 [vi a, vi b, vi h, vi p] := by
  intro S hS
  have hF := hS.1
  have hy := hF.1
  have c1 := sTwo_le (sF S) a b h p
  have k1 : ∀ M, RC S M → f9_badTwo M a b h p = sTwo (sF S) a b h p := fun M hM => badTwo_eq hF hM.1 ia ib ih ip
  have k2 : ∀ M, RM S M → f10_wrongRace (up M 0 8 0) a b h p = sTwo (sF S) a b h p := fun M hM => wrongRace_eq hF hM.thr.1 ia ib ih ip
  by_cases e : sTwo (sF S) a b h p = 0
  · obtain ⟨ha, hb, -, hB⟩ := sTwo_ok e
    obtain ⟨n, hn6, rfl, -⟩ := hb.n hF
    obtain ⟨m, hm6, rfl, -⟩ := ha.n hF
    have t0 : TB (sRace (sF S) (ln (sF S)).toNat n h p) := TB_race hF (hln hF) hn6 hB
    refine ⟨(ouR (sF S) m n h p ((yd (sF S)).toNat - 1) 1 (-9, sRace (sF S) (ln (sF S)).toNat n h p)).1, S, hS, fun M hM => W9_relay_0 ⟨fun _ => T_timeOf hF hM.1 hn6 hB (fun M' hL => ?_), fun z => ?_⟩, fun q M hM => W10_relay_0 ⟨isOne_01 hF hM.1 ia, isOne_01 hF hM.1 ib, fun z => ?_, fun _ => T_plainRun hF hB hn6 hM.thr.1 (fun M' hL => ?_)⟩⟩
    · exact L_roC hF hm6 hn6 hB ((yd (sF S)).toNat - 1) 1 (-9, sRace (sF S) (ln (sF S)).toNat n h p) M' (by omega) t0 (hM.fr hL.C) hL.2.1
    · rw [k1 M hM, e] at z; exact absurd wr0 z
    · rw [k2 M hM, e, wr0] at z; omega
    · exact L_roM hF hm6 hn6 hB ((yd (sF S)).toNat - 1) 1 (-9, sRace (sF S) (ln (sF S)).toNat n h p) M' (by omega) t0 (hM.thr.fr hL.1.q)
  · refine ⟨sTwo (sF S) a b h p, sRef S (sTwo (sF S) a b h p), hS.ref _, fun M hM => W9_relay_0 ⟨fun z => ?_, fun _ => ?_⟩, fun q M hM => W10_relay_0 ⟨isOne_01 hF hM.1 ia, isOne_01 hF hM.1 ib, fun _ => ?_, fun z => ?_⟩⟩
    · rw [k1 M hM, wr_id (by omega) (by omega)] at z; exact absurd z e
    · rw [k1 M hM]; exact C_ref hM (by omega)
    · rw [k2 M hM, wr_id (x := -_) (by omega) (by omega)]
      exact ⟨by omega, M_ref hM.thr (by omega)⟩
    · rw [k2 M hM, wr_id (by omega) (by omega)] at z; omega

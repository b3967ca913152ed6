/-! whoFirst, heavy: both sides answer alike -/
/-- what both sides ask first of two who are told -/
theorem SIM_whoFirst {a b h p : Int} (ia : IR a) (ib : IR b) (ih : IR h) (ip : IR p) : SIM i9_whoFirst 7 i10_whoFirst 6 [vi a, vi b, vi h, vi p] := by
  intro S hS
  have hF := hS.1
  have c1 := sTwo_le (sF S) a b h p
  have k1 : ∀ M, RC S M → f9_badTwo M a b h p = sTwo (sF S) a b h p := fun M hM => badTwo_eq hF hM.1 ia ib ih ip
  have k2 : ∀ M, RM S M → f10_wrongRace (up M 0 8 0) a b h p = sTwo (sF S) a b h p := fun M hM => wrongRace_eq hF hM.thr.1 ia ib ih ip
  by_cases e : sTwo (sF S) a b h p = 0
  · obtain ⟨ha, hb, -, hB⟩ := sTwo_ok e
    obtain ⟨n, hn6, rfl, -⟩ := hb.n hF
    obtain ⟨m, hm6, rfl, -⟩ := ha.n hF
    have t0 : TB (sRace (sF S) (ln (sF S)).toNat n h p) := TB_race hF (hln hF) hn6 hB
    have t1 : TB (sRace (sF S) (ln (sF S)).toNat m h p) := TB_race hF (hln hF) hm6 hB
    refine ⟨if tvM (sRace (sF S) (ln (sF S)).toNat m h p) < tvM (sRace (sF S) (ln (sF S)).toNat n h p) then 1 else 0, S, hS, fun M hM => W9_whoFirst_0 ⟨fun _ => T_timeOf hF hM.1 hn6 hB (fun M1 hL1 => T_timeOf hF (hM.fr hL1.C).1 hm6 hB (fun M2 hL2 => W9_whoFirst_51 ⟨M2, ?_, rfl, hM.fr (hL1.C.tr hL2.C)⟩)), fun z => ?_⟩, fun q M hM => W10_whoFirst_0 ⟨isOne_01 hF hM.1 ia, isOne_01 hF hM.1 ib, fun z => ?_, fun _ => T_plainRun hF hB hm6 hM.thr.1 (fun M1 hL1 => T_plainRun hF hB hn6 (hM.thr.fr hL1.1.q).1 (fun M2 hL2 => W10_whoFirst_52 ⟨q, M2, ?_, rfl, hM.thr.fr (hL1.1.q.tr hL2.1.q)⟩))⟩⟩
    · simp only [tlC t1 t0]
    · rw [k1 M hM, e] at z; exact absurd wr0 z
    · rw [k2 M hM, e, wr0] at z; omega
    · simp only [tlM t1 t0]
  · refine ⟨sTwo (sF S) a b h p, sRef S (sTwo (sF S) a b h p), hS.ref _, fun M hM => W9_whoFirst_0 ⟨fun z => ?_, fun _ => ?_⟩, fun q M hM => W10_whoFirst_0 ⟨isOne_01 hF hM.1 ia, isOne_01 hF hM.1 ib, fun _ => ?_, fun z => ?_⟩⟩
    · rw [k1 M hM, wr_id (by omega) (by omega)] at z; exact absurd z e
    · rw [k1 M hM]; exact C_ref hM (by omega)
    · rw [k2 M hM, wr_id (x := -_) (by omega) (by omega)]
      exact ⟨by omega, M_ref hM.thr (by omega)⟩
    · rw [k2 M hM, wr_id (by omega) (by omega)] at z; omega
/-- by how much the other is later -/
def sLater (s s' : RS) : Int := match s, s' with
  | some (_, t, _, _), some (_, t', _, _) => t' - t
  | _, _ => -999999
theorem laterC {s s' : RS} (h : TB s) (h' : TB s') : f9_later (tvC s) (tvC s') = sLater s s' := by
  have h1 := tvC_le h
  have h2 := tvC_le h'
  unfold f9_later
  rw [wr_id (x := tvC s) (by omega) (by omega), wr_id (x := tvC s') (by omega) (by omega), wr_id (x := 10000000) (by omega) (by omega)]
  cases s with
  | none => cases s' <;> rfl
  | some z =>
    obtain ⟨l, t, a, b⟩ := z
    have h3 : 0 ≤ t ∧ t ≤ 9000 := h
    cases s' with
    | none => show (if t < (10000000 : Int) then (if (10000000 : Int) < 10000000 then (10000000 : Int) - t else -999999) else -999999) = -999999; (repeat' split) <;> omega
    | some z' =>
      obtain ⟨l', t', a', b'⟩ := z'
      have h4 : 0 ≤ t' ∧ t' ≤ 9000 := h'
      show (if t < (10000000 : Int) then (if t' < (10000000 : Int) then t' - t else -999999) else -999999) = t' - t
      rw [if_pos (by omega), if_pos (by omega)]
theorem laterM {s s' : RS} (h : TB s) (h' : TB s') : (if wr (tvM s) = wr 9999999 then (-999999) else if wr (tvM s') = wr 9999999 then (-999999) else tvM s' - tvM s) = sLater s s' := by
  have h1 := tvM_le h
  have h2 := tvM_le h'
  rw [wr_id (x := tvM s) (by omega) (by omega), wr_id (x := tvM s') (by omega) (by omega), wr_id (x := 9999999) (by omega) (by omega)]
  cases s with
  | none => cases s' <;> rfl
  | some z =>
    obtain ⟨l, t, a, b⟩ := z
    have h3 : 0 ≤ t ∧ t ≤ 9000 := h
    cases s' with
    | none => show (if t = (9999999 : Int) then (-999999 : Int) else if (9999999 : Int) = 9999999 then -999999 else 9999999 - t) = -999999; (repeat' split) <;> omega
    | some z' =>
      obtain ⟨l', t', a', b'⟩ := z'
      have h4 : 0 ≤ t' ∧ t' ≤ 9000 := h'
      show (if t = (9999999 : Int) then (-999999 : Int) else if t' = (9999999 : Int) then -999999 else t' - t) = t' - t
      rw [if_neg (by omega), if_neg (by omega)]
theorem C_ref2 {S : ST} {M : Mem} (h : RC S M) {w : Int} (hw : -6 ≤ w ∧ w ≤ -1) : RC (sRef S w) (g9_refuse M w) := by
  obtain ⟨M', -, e, h2⟩ := C_ref h hw
  injection e with e1 e2
  rw [e2]; exact h2
theorem M_ref2 {S : ST} {q : Option Nat} {M : Mem} (h : RM S M) {w : Int} (hw : -6 ≤ w ∧ w ≤ -1) : RM (sRef S w) (g10_refuse M w) := by
  obtain ⟨q', M', -, e, h2⟩ := M_ref (q := q) h hw
  injection e with e1 e2
  rw [e2]; exact h2
theorem SIM_heavy {a b h p : Int} (ia : IR a) (ib : IR b) (ih : IR h) (ip : IR p) : SIM i9_heavy 9 i10_heavy 10 [vi a, vi b, vi h, vi p] := by
  intro S hS
  have hF := hS.1
  have c1 := sTwo_le (sF S) a b h p
  have k1 : ∀ M, RC S M → f9_badTwo M a b h p = sTwo (sF S) a b h p := fun M hM => badTwo_eq hF hM.1 ia ib ih ip
  have k2 : ∀ M, RM S M → f10_wrongRace (up M 0 8 0) a b h p = sTwo (sF S) a b h p := fun M hM => wrongRace_eq hF hM.thr.1 ia ib ih ip
  by_cases e : sTwo (sF S) a b h p = 0
  · obtain ⟨ha, hb, hne, hB⟩ := sTwo_ok e
    obtain ⟨n, hn6, rfl, -⟩ := hb.n hF
    obtain ⟨m, hm6, rfl, -⟩ := ha.n hF
    obtain ⟨-, pn2, -⟩ := hF.P hn6
    obtain ⟨-, pm2, -⟩ := hF.P hm6
    -- who walks first, who then: u and v
    have main : ∀ u v : Nat, u < 6 → v < 6 → ((u = m ∧ v = n ∧ hv (sF S) m < hv (sF S) n) ∨ (u = n ∧ v = m ∧ ¬ hv (sF S) m < hv (sF S) n)) → ∃ r S', SOK S' ∧ (∀ M, RC S M → TC i9_heavy 9 [vr 0, vi (m : Int), vi (n : Int), vi h, vi p] (LC, M) (CP S' r)) ∧ (∀ q M, RM S M → TC i10_heavy 10 [vr 0, vi (m : Int), vi (n : Int), vi h, vi p] (LM q, M) (MP S' r)) := by
      intro u v hu hv6 huv
      have tu : TB (sRace (sF S) (ln (sF S)).toNat u h p) := TB_race hF (hln hF) hu hB
      have tv : TB (sRace (sF S) (ln (sF S)).toNat v h p) := TB_race hF (hln hF) hv6 hB
      refine ⟨sLater (sRace (sF S) (ln (sF S)).toNat u h p) (sRace (sF S) (ln (sF S)).toNat v h p), S, hS, fun M hM => W9_heavy_0 ⟨fun _ => W9_heavy_53 (W9_heavy_66 ?_), fun z => ?_⟩, fun q M hM => W10_heavy_0 ⟨isOne_01 hF hM.1 ia, isOne_01 hF hM.1 ib, fun z => ?_, fun _ => ⟨by rw [wr_id (by omega) (by omega)]; omega, by rw [wr_id (by omega) (by omega)]; omega, W10_heavy_52 (W10_heavy_65 ?_)⟩⟩⟩
      · rw [(ofP_eq hM.1 hm6).2.1, (ofP_eq hM.1 hn6).2.1, wr_id (x := hv (sF S) m) (by omega) (by omega), wr_id (x := hv (sF S) n) (by omega) (by omega)]
        have hE : (if wr (if hv (sF S) m < hv (sF S) n then 1 else 0) = 0 then (n : Int) else (m : Int)) = (u : Int) ∧ (if wr (if hv (sF S) m < hv (sF S) n then 1 else 0) = 0 then (m : Int) else (n : Int)) = (v : Int) := by
          rcases huv with ⟨rfl, rfl, g⟩ | ⟨rfl, rfl, g⟩
          · rw [if_pos g, if_neg (by rw [wr1]; omega), if_neg (by rw [wr1]; omega)]; exact ⟨rfl, rfl⟩
          · rw [if_neg g, if_pos wr0, if_pos wr0]; exact ⟨rfl, rfl⟩
        rw [hE.1]
        refine T_timeOf hF hM.1 hu hB (fun M1 hL1 => W9_heavy_85 ?_)
        rw [hE.2]
        refine T_timeOf hF (hM.fr hL1.C).1 hv6 hB (fun M2 hL2 => ⟨M2, by rw [laterC tu tv], rfl, hM.fr (hL1.C.tr hL2.C)⟩)
      · rw [k1 M hM, e] at z; exact absurd wr0 z
      · rw [k2 M hM, e, wr0] at z; omega
      · have hT := hM.thr
        have m4 := (hM.1.2.2.2.2.2 m hm6).2.1
        have n4 := (hM.1.2.2.2.2.2 n hn6).2.1
        rw [wr_id (x := (m : Int)) (by omega) (by omega), wr_id (x := (n : Int)) (by omega) (by omega), show ((m : Int)).toNat = m by omega, show ((n : Int)).toNat = n by omega, m4, n4, wr_id (x := hv (sF S) m) (by omega) (by omega), wr_id (x := hv (sF S) n) (by omega) (by omega)]
        have hE : (if hv (sF S) m < hv (sF S) n then (n : Int) else (m : Int)) = (v : Int) ∧ (if wr (if hv (sF S) m < hv (sF S) n then (n : Int) else (m : Int)) = (m : Int) then (n : Int) else (m : Int)) = (u : Int) := by
          rcases huv with ⟨rfl, rfl, g⟩ | ⟨rfl, rfl, g⟩
          · rw [if_pos g, wr_id (by omega) (by omega), if_neg (fun z => hne z.symm)]; exact ⟨rfl, rfl⟩
          · rw [if_neg g, wr_id (by omega) (by omega), if_pos rfl]; exact ⟨rfl, rfl⟩
        rw [hE.2, hE.1]
        refine T_plainRun hF hB hu hT.1 (fun M1 hL1 => T_plainRun hF hB hv6 (hT.fr hL1.1.q).1 (fun M2 hL2 => W10_heavy_114 ⟨q, M2, ?_, rfl, hT.fr (hL1.1.q.tr hL2.1.q)⟩))
        rw [laterM tu tv]
    by_cases g : hv (sF S) m < hv (sF S) n
    · exact main m n hm6 hn6 (Or.inl ⟨rfl, rfl, g⟩)
    · exact main n m hn6 hm6 (Or.inr ⟨rfl, rfl, g⟩)
  · refine ⟨1000000000 - sTwo (sF S) a b h p, sRef S (sTwo (sF S) a b h p), hS.ref _, fun M hM => W9_heavy_0 ⟨fun z => ?_, fun _ => ?_⟩, fun q M hM => W10_heavy_0 ⟨isOne_01 hF hM.1 ia, isOne_01 hF hM.1 ib, fun _ => ?_, fun z => ?_⟩⟩
    · rw [k1 M hM, wr_id (by omega) (by omega)] at z; exact absurd z e
    · rw [k1 M hM]; exact ⟨_, rfl, rfl, C_ref2 hM (by omega)⟩
    · rw [k2 M hM, wr_id (x := -_) (by omega) (by omega)]
      exact ⟨by omega, q, _, rfl, rfl, M_ref2 (q := q) hM.thr (by omega)⟩
    · rw [k2 M hM, wr_id (by omega) (by omega)] at z; omega

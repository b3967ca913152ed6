/-! whoFirst, heavy: both sides answer alike -/
/-- what both sides ask first of two who are told -/
theorem SIM_whoFirst {a b h p : Int} (ia : IR a) (ib : IR b) (ih : IR h) (ip : IR p) : SIM i9_whoFirst 7 i10_whoFirst 6 [vi a, vi b, vi h, vi p] := by
  intro S hS
  have hF := hS.1
  have c1 := sTwo_le (sF S) a b h p
  have k1 : ∀ M, RC S M → f9_badTwo M a b h p = sTwo (sF S) a b h p := fun M hM => badTwo_eq hF hM.1 ia ib ih ip
  have k2 : ∀ M, RM S M → f10_wrongRace (up M 0 8 0) a b h p = sTwo (sF S) a b h p := fun M hM => wrongRace_eq hF hM.thr.1 ia ib ih ip
  by_cases e : sTwo (sF S) a b h p = 0
  · obtain ⟨ha, hb, -, hB⟩ := sTwo_ok e
    obtain ⟨n, hn6, rfl, -⟩ := hb.n hF
    obtain ⟨m, hm6, rfl, -⟩ := ha.n hF
    have t0 : TB (sRace (sF S) (ln (sF S)).toNat n h p) := TB_race hF (hln hF) hn6 hB
    have t1 : TB (sRace (sF S) (ln (sF S)).toNat m h p) := TB_race hF (hln hF) hm6 hB
    refine ⟨if tvM (sRace (sF S) (ln (sF S)).toNat m h p) < tvM (sRace (sF S) (ln (sF S)).toNat n h p) then 1 else 0, S, hS, fun M hM => W9_whoFirst_0 ⟨fun _ => T_timeOf hF hM.1 hn6 hB (fun M1 hL1 => T_timeOf hF (hM.fr hL1.C).1 hm6 hB (fun M2 hL2 => W9_whoFirst_51 ⟨M2, ?_, rfl, hM.fr (hL1.C.tr hL2.C)⟩)), fun z => ?_⟩, fun q M hM => W10_whoFirst_0 ⟨isOne_01 hF hM.1 ia, isOne_01 hF hM.1 ib, fun z => ?_, fun _ => T_plainRun hF hB hm6 hM.thr.1 (fun M1 hL1 => T_plainRun hF hB hn6 (hM.thr.fr hL1.1.q).1 (fun M2 hL2 => W10_whoFirst_52 ⟨q, M2, ?_, rfl, hM.thr.fr (hL1.1.q.tr hL2.1.q)⟩))⟩⟩
    · simp only [tlC t1 t0]
    · rw [k1 M hM, e] at z; exact absurd wr0 z
    · rw [k2 M hM, e, wr0] at z; omega
    · simp only [tlM t1 t0]
  · refine ⟨sTwo (sF S) a b h p, sRef S (sTwo (sF S) a b h p), hS.ref _, fun M hM => W9_whoFirst_0 ⟨fun z => ?_, fun _ => ?_⟩, fun q M hM => W10_whoFirst_0 ⟨isOne_01 hF hM.1 ia, isOne_01 hF hM.1 ib, fun _ => ?_, fun z => ?_⟩⟩
    · rw [k1 M hM, wr_id (by omega) (by omega)] at z; exact absurd z e
    · rw [k1 M hM]; exact C_ref hM (by omega)
    · rw [k2 M hM, wr_id (x := -_) (by omega) (by omega)]
      exact ⟨by omega, M_ref hM.thr (by omega)⟩
    · rw [k2 M hM, wr_id (by omega) (by omega)] at z; omega
/-- by how much the other is later -/
def sLater (s s' : RS) : Int := match s, s' with
  | some (_, t, _, _), some (_, t', _, _) => t' - t
  | _, _ => -999999
theorem laterC {s s' : RS} (h : TB s) (h' : TB s') : f9_later (tvC s) (tvC s') = sLater s s' := by
  have h1 := tvC_le h
  have h2 := tvC_le h'
  unfold f9_later
  rw [wr_id (x := tvC s) (by omega) (by omega), wr_id (x := tvC s') (by omega) (by omega), wr_id (x := 10000000) (by omega) (by omega)]
  cases s with
  | none => cases s' <;> rfl
  | some z =>
    obtain ⟨l, t, a, b⟩ := z
    have h3 : 0 ≤ t ∧ t ≤ 9000 := h
    cases s' with
    | none => show (if t < (10000000 : Int) then (if (10000000 : Int) < 10000000 then (10000000 : Int) - t else -999999) else -999999) = -999999; (repeat' split) <;> omega
    | some z' =>
      obtain ⟨l', t', a', b'⟩ := z'
      have h4 : 0 ≤ t' ∧ t' ≤ 9000 := h'
      show (if t < (10000000 : Int) then (if t' < (10000000 : Int) then t' - t else -999999) else -999999) = t' - t
      rw [if_pos (by omega), if_pos (by omega)]
theorem laterM {s s' : RS} (h : TB s) (h' : TB s') : (if wr (tvM s) = wr 9999999 then (-999999) else if wr (tvM s') = wr 9999999 then (-999999) else tvM s' - tvM s) = sLater s s' := by
  have h1 := tvM_le h
  have h2 := tvM_le h'
  rw [wr_id (x := tvM s) (by omega) (by omega), wr_id (x := tvM s') (by omega) (by omega), wr_id (x := 9999999) (by omega) (by omega)]
  cases s with
  | none => cases s' <;> rfl
  | some z =>
    obtain ⟨l, t, a, b⟩ := z
    have h3 : 0 ≤ t ∧ t ≤ 9000 := h
    cases s' with
    | none => show (if t = (9999999 : Int) then (-999999 : Int) else if (9999999 : Int) = 9999999 then -999999 else 9999999 - t) = -999999; (repeat' split) <;> omega
    | some z' =>
      obtain ⟨l', t', a', b'⟩ := z'
      have h4 : 0 ≤ t' ∧ t' ≤ 9000 := h'
      show (if t = (9999999 : Int) then (-999999 : Int) else if t' = (9999999 : Int) then -999999 else t' - t) = t' - t
      rw [if_neg (by omega), if_neg (by omega)]

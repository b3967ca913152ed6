/-! bestPace, bestHold: both sides answer alike -/
def TB (s : RS) : Prop := match s with
  | none => True
  | some (_, t, _, _) => 0 ≤ t ∧ t ≤ 9000
theorem TB_no : TB none := True.intro
theorem tvC_le {s : RS} (h : TB s) : 0 ≤ tvC s ∧ tvC s ≤ 10000000 := by
  cases s with
  | none => exact ⟨by decide, by decide⟩
  | some z => obtain ⟨l, t, a, b⟩ := z; have h2 : 0 ≤ t ∧ t ≤ 9000 := h; show 0 ≤ t ∧ t ≤ 10000000; omega
theorem tvM_le {s : RS} (h : TB s) : 0 ≤ tvM s ∧ tvM s ≤ 9999999 := by
  cases s with
  | none => exact ⟨by decide, by decide⟩
  | some z => obtain ⟨l, t, a, b⟩ := z; have h2 : 0 ≤ t ∧ t ≤ 9000 := h; show 0 ≤ t ∧ t ≤ 9999999; omega
theorem tvCM {s s' : RS} (h : TB s) (h' : TB s') : tvC s < tvC s' ↔ tvM s < tvM s' := by
  cases s with
  | none =>
    cases s' with
    | none => exact ⟨fun z => absurd z (by decide), fun z => absurd z (by decide)⟩
    | some z => obtain ⟨l, t, a, b⟩ := z; have h2 : 0 ≤ t ∧ t ≤ 9000 := h'; show (10000000 : Int) < t ↔ (9999999 : Int) < t; omega
  | some z =>
    obtain ⟨l, t, a, b⟩ := z
    have h2 : 0 ≤ t ∧ t ≤ 9000 := h
    cases s' with
    | none => show t < (10000000 : Int) ↔ t < (9999999 : Int); omega
    | some z => exact Iff.rfl
theorem tlC {s s' : RS} (h : TB s) (h' : TB s') : wr (tvC s) < wr (tvC s') ↔ tvM s < tvM s' := by
  have h1 := tvC_le h
  have h2 := tvC_le h'
  rw [wlt (by omega) (by omega) (by omega) (by omega)]; exact tvCM h h'
theorem tlM {s s' : RS} (h : TB s) (h' : TB s') : wr (tvM s) < wr (tvM s') ↔ tvM s < tvM s' := by
  have h1 := tvM_le h
  have h2 := tvM_le h'
  rw [wlt (by omega) (by omega) (by omega) (by omega)]
theorem TB_race {F : FS} (hF : FOK F) {lane p : Nat} (hlane : lane < 2) (hp : p < 6) {hold pace : Int} (hb : BOK hold pace) : TB (sRace F lane p hold pace) := by
  have h := @sRace_le F hF lane p hlane hp hold pace hb
  revert h
  cases sRace F lane p hold pace with
  | none => exact fun _ => True.intro
  | some z => obtain ⟨l, t, a, b⟩ := z; intro h; have := h rfl; show 0 ≤ t ∧ t ≤ 9000; omega
/-- the first least of several -/
def bestN (f : Nat → RS) (v : Nat → Int) (s0 : RS) : Nat → Int × RS
  | 0 => (-9, s0)
  | n + 1 => if tvM (f n) < tvM (bestN f v s0 n).2 then (v n, f n) else bestN f v s0 n
theorem TB_best {f : Nat → RS} {v : Nat → Int} {s0 : RS} (h0 : TB s0) {m : Nat} (hf : ∀ n, n < m → TB (f n)) : ∀ n, n ≤ m → TB (bestN f v s0 n).2
  | 0, _ => h0
  | n + 1, hn => by
    unfold bestN
    split
    · exact hf n (by omega)
    · exact TB_best h0 hf n (by omega)
theorem best_lt {f : Nat → RS} {v : Nat → Int} {s0 : RS} {n : Nat} (h : tvM (f n) < tvM (bestN f v s0 n).2) : bestN f v s0 (n + 1) = (v n, f n) := if_pos h
theorem best_ge {f : Nat → RS} {v : Nat → Int} {s0 : RS} {n : Nat} (h : ¬ tvM (f n) < tvM (bestN f v s0 n).2) : bestN f v s0 (n + 1) = bestN f v s0 n := if_neg h
theorem best_1 {f : Nat → RS} {v : Nat → Int} {s0 : RS} {n : Nat} : (if tvM (f n) < tvM (bestN f v s0 n).2 then v n else (bestN f v s0 n).1) = (bestN f v s0 (n + 1)).1 := by
  by_cases h : tvM (f n) < tvM (bestN f v s0 n).2
  · rw [if_pos h, best_lt h]
  · rw [if_neg h, best_ge h]
theorem best_2 {f : Nat → RS} {v : Nat → Int} {s0 : RS} {n : Nat} : (if tvM (f n) < tvM (bestN f v s0 n).2 then tvM (f n) else tvM (bestN f v s0 n).2) = tvM (bestN f v s0 (n + 1)).2 := by
  by_cases h : tvM (f n) < tvM (bestN f v s0 n).2
  · rw [if_pos h, best_lt h]
  · rw [if_neg h, best_ge h]
abbrev fPace (F : FS) (p : Nat) (h : Int) : Nat → RS := fun n => sRace F (ln F).toNat p h ((n : Int) + 1)
abbrev fHold (F : FS) (p : Nat) (pace : Int) : Nat → RS := fun n => sRace F (ln F).toNat p (n : Int) pace
abbrev vSucc : Nat → Int := fun n => (n : Int) + 1
abbrev vId : Nat → Int := fun n => (n : Int)
theorem bok_pace {h : Int} (hh : 0 ≤ h ∧ h ≤ 2) {n : Nat} (hn : n < 9) : BOK h ((n : Int) + 1) := ⟨hh, by omega⟩
theorem L_bestPaceC {S : ST} (hF : FOK (sF S)) {p : Nat} (hp : p < 6) {h : Int} (hh : 0 ≤ h ∧ h ≤ 2) : ∀ (k n : Nat) (M : Mem), n + k = 9 → RC S M →
    TA i9_bestPace 44 [some (vr 0), none, some (vi (p : Int)), some (vi h), none, some (vi (bestN (fPace (sF S) p h) vSucc none n).1), some (vi (tvC (bestN (fPace (sF S) p h) vSucc none n).2)), some (vi ((n : Int) + 1)), none] [] (LC, M) (CP S (bestN (fPace (sF S) p h) vSucc none 9).1)
  | 0, n, M, hn, hM => by
    have e : n = 9 := by omega
    subst e
    exact W9_bestPace_44 ⟨fun _ => ⟨M, rfl, rfl, hM⟩, fun z => absurd (by decide) z⟩
  | k + 1, n, M, hn, hM => by
    have hB := bok_pace hh (n := n) (by omega)
    have t1 : TB (fPace (sF S) p h n) := TB_race hF (hln hF) hp hB
    have t2 : TB (bestN (fPace (sF S) p h) vSucc none n).2 := TB_best TB_no (m := 9) (fun j hj => TB_race hF (hln hF) hp (bok_pace hh hj)) n (by omega)
    refine W9_bestPace_44 ⟨fun z => ?_, fun _ => T_timeOf hF hM.1 hp hB (fun M' hL => ?_)⟩
    · rw [wlt (by omega) (by omega) (by omega) (by omega)] at z; omega
    · have ih := L_bestPaceC hF hp hh k (n + 1) M' (by omega) (hM.fr hL.C)
      have en : ((n + 1 : Nat) : Int) = (n : Int) + 1 := by omega
      rw [en] at ih
      refine ⟨fun z => ?_, fun z => ?_⟩
      · rw [best_lt ((tlC t1 t2).1 z)] at ih; exact ih
      · rw [best_ge (fun y => z ((tlC t1 t2).2 y))] at ih; exact ih
theorem L_bestPaceM {S : ST} (hF : FOK (sF S)) {p : Nat} (hp : p < 6) {h : Int} (hh : 0 ≤ h ∧ h ≤ 2) {q : Option Nat} {K : Int → Mem → Prop} (hK : ∀ M, RM S M → K (bestN (fPace (sF S) p h) vSucc none 9).1 M) : ∀ (k n : Nat) (M : Mem), n + k = 9 → RM S M →
    TA i10_bestPaceOf 10 [some (vr 0), some (vi (p : Int)), some (vi h), some (vi (bestN (fPace (sF S) p h) vSucc none n).1), some (vi (tvM (bestN (fPace (sF S) p h) vSucc none n).2)), some (vi ((n : Int) + 1)), none] [] (LM q, M) (fun rv G' => ∃ r M', rv = some (vi r) ∧ G' = (LM q, M') ∧ K r M')
  | 0, n, M, hn, hM => by
    have e : n = 9 := by omega
    subst e
    exact W10_bestPaceOf_10 ⟨fun _ => ⟨_, M, rfl, rfl, hK M hM⟩, fun z => absurd (by decide) z⟩
  | k + 1, n, M, hn, hM => by
    have hB := bok_pace hh (n := n) (by omega)
    have t1 : TB (fPace (sF S) p h n) := TB_race hF (hln hF) hp hB
    have t2 : TB (bestN (fPace (sF S) p h) vSucc none n).2 := TB_best TB_no (m := 9) (fun j hj => TB_race hF (hln hF) hp (bok_pace hh hj)) n (by omega)
    refine W10_bestPaceOf_10 ⟨fun z => ?_, fun _ => T_plainRun hF hB hp hM.1 (fun M' hL => W10_bestPaceOf_40 (W10_bestPaceOf_55 ?_))⟩
    · rw [wlt (by omega) (by omega) (by omega) (by omega)] at z; omega
    · have ih := L_bestPaceM hF hp hh (q := q) hK k (n + 1) M' (by omega) (hM.fr hL.1.q)
      have en : ((n + 1 : Nat) : Int) = (n : Int) + 1 := by omega
      rw [en, ← best_1, ← best_2] at ih
      simp only [← tlM t1 t2] at ih
      exact ih
theorem sTwo_h {F : FS} {a b h : Int} (e : sTwo F a b h 1 = 0) : 0 ≤ h ∧ h ≤ 2 := (sTwo_ok e).2.2.2.1
theorem SIM_bestPace {a b h : Int} (ia : IR a) (ib : IR b) (ih : IR h) : SIM i9_bestPace 9 i10_bestPace 5 [vi a, vi b, vi h] := by
  intro S hS
  have hF := hS.1
  have i1 : IR 1 := by unfold IR; omega
  have c1 := sTwo_le (sF S) a b h 1
  have k1 : ∀ M, RC S M → f9_firstOf (f9_noTwo M a b) (f9_low h 1) (f9_high h 1) = sTwo (sF S) a b h 1 := fun M hM => badTwo_eq hF hM.1 ia ib ih i1
  have k2 : ∀ M, RM S M → f10_wrongRace (up M 0 8 0) a b h 1 = sTwo (sF S) a b h 1 := fun M hM => wrongRace_eq hF hM.thr.1 ia ib ih i1
  by_cases e : sTwo (sF S) a b h 1 = 0
  · obtain ⟨ha, hb, -, hB⟩ := sTwo_ok e
    obtain ⟨n, hn6, rfl, -⟩ := hb.n hF
    refine ⟨(bestN (fPace (sF S) n h) vSucc none 9).1, S, hS, fun M hM => W9_bestPace_0 ⟨fun _ => L_bestPaceC hF hn6 hB.1 9 0 M rfl hM, fun z => ?_⟩, fun q M hM => W10_bestPace_0 ⟨isOne_01 hF hM.1 ia, isOne_01 hF hM.1 ib, fun z => ?_, fun _ => W10_bestPaceOf_0 (L_bestPaceM hF hn6 hB.1 (fun M' hM' => ⟨q, M', rfl, rfl, hM'⟩) 9 0 _ rfl hM.thr)⟩⟩
    · rw [k1 M hM, e] at z; exact absurd wr0 z
    · rw [k2 M hM, e, wr0] at z; omega
  · refine ⟨sTwo (sF S) a b h 1, sRef S (sTwo (sF S) a b h 1), hS.ref _, fun M hM => W9_bestPace_0 ⟨fun z => ?_, fun _ => ?_⟩, fun q M hM => W10_bestPace_0 ⟨isOne_01 hF hM.1 ia, isOne_01 hF hM.1 ib, fun _ => ?_, fun z => ?_⟩⟩
    · rw [k1 M hM, wr_id (by omega) (by omega)] at z; exact absurd z e
    · rw [k1 M hM]; exact C_ref hM (by omega)
    · rw [k2 M hM, wr_id (x := -_) (by omega) (by omega)]
      exact ⟨by omega, M_ref hM.thr (by omega)⟩
    · rw [k2 M hM, wr_id (by omega) (by omega)] at z; omega
theorem bok_hold {p : Int} (hh : 1 ≤ p ∧ p ≤ 9) {n : Nat} (hn : n < 3) : BOK (n : Int) p := ⟨by omega, hh⟩
theorem L_bestHoldC {S : ST} (hF : FOK (sF S)) {p : Nat} (hp : p < 6) {h : Int} (hh : 1 ≤ h ∧ h ≤ 9) : ∀ (k n : Nat) (M : Mem), n + k = 3 → RC S M →
    TA i9_bestHold 44 [some (vr 0), none, some (vi (p : Int)), some (vi h), none, some (vi (bestN (fHold (sF S) p h) vId none n).1), some (vi (tvC (bestN (fHold (sF S) p h) vId none n).2)), some (vi (n : Int)), none] [] (LC, M) (CP S (bestN (fHold (sF S) p h) vId none 3).1)
  | 0, n, M, hn, hM => by
    have e : n = 3 := by omega
    subst e
    exact W9_bestHold_44 ⟨fun _ => ⟨M, rfl, rfl, hM⟩, fun z => absurd (by decide) z⟩
  | k + 1, n, M, hn, hM => by
    have hB := bok_hold hh (n := n) (by omega)
    have t1 : TB (fHold (sF S) p h n) := TB_race hF (hln hF) hp hB
    have t2 : TB (bestN (fHold (sF S) p h) vId none n).2 := TB_best TB_no (m := 3) (fun j hj => TB_race hF (hln hF) hp (bok_hold hh hj)) n (by omega)
    refine W9_bestHold_44 ⟨fun z => ?_, fun _ => T_timeOf hF hM.1 hp hB (fun M' hL => ?_)⟩
    · rw [wlt (by omega) (by omega) (by omega) (by omega)] at z; omega
    · have ih := L_bestHoldC hF hp hh k (n + 1) M' (by omega) (hM.fr hL.C)
      have en : ((n + 1 : Nat) : Int) = (n : Int) + 1 := by omega
      rw [en] at ih
      refine ⟨fun z => ?_, fun z => ?_⟩
      · rw [best_lt ((tlC t1 t2).1 z)] at ih; exact ih
      · rw [best_ge (fun y => z ((tlC t1 t2).2 y))] at ih; exact ih
theorem L_bestHoldM {S : ST} (hF : FOK (sF S)) {p : Nat} (hp : p < 6) {h : Int} (hh : 1 ≤ h ∧ h ≤ 9) {q : Option Nat} : ∀ (k n : Nat) (M : Mem), n + k = 3 → RM S M →
    TA i10_bestHold 38 [some (vr 0), none, some (vi (p : Int)), some (vi h), none, some (vi (bestN (fHold (sF S) p h) vId none n).1), some (vi (tvM (bestN (fHold (sF S) p h) vId none n).2)), some (vi (n : Int)), none] [] (LM q, M) (MP S (bestN (fHold (sF S) p h) vId none 3).1)
  | 0, n, M, hn, hM => by
    have e : n = 3 := by omega
    subst e
    exact W10_bestHold_38 ⟨fun z => absurd z (by decide), fun _ => ⟨q, M, rfl, rfl, hM⟩⟩
  | k + 1, n, M, hn, hM => by
    have hB := bok_hold hh (n := n) (by omega)
    have t1 : TB (fHold (sF S) p h n) := TB_race hF (hln hF) hp hB
    have t2 : TB (bestN (fHold (sF S) p h) vId none n).2 := TB_best TB_no (m := 3) (fun j hj => TB_race hF (hln hF) hp (bok_hold hh hj)) n (by omega)
    refine W10_bestHold_38 ⟨fun _ => T_plainRun hF hB hp hM.1 (fun M' hL => W10_bestHold_68 (W10_bestHold_84 ?_)), fun z => ?_⟩
    · have ih := L_bestHoldM hF hp hh (q := q) k (n + 1) M' (by omega) (hM.fr hL.1.q)
      have en : ((n + 1 : Nat) : Int) = (n : Int) + 1 := by omega
      rw [en, ← best_1, ← best_2] at ih
      simp only [← tlM t1 t2] at ih
      exact ih
    · rw [wlt (by omega) (by omega) (by omega) (by omega)] at z; omega
theorem SIM_bestHold {a b p : Int} (ia : IR a) (ib : IR b) (ip : IR p) : SIM i9_bestHold 9 i10_bestHold 9 [vi a, vi b, vi p] := by
  intro S hS
  have hF := hS.1
  have i0 : IR 0 := by unfold IR; omega
  have c1 := sTwo_le (sF S) a b 0 p
  have k1 : ∀ M, RC S M → f9_firstOf (f9_noTwo M a b) (f9_low 0 p) (f9_high 0 p) = sTwo (sF S) a b 0 p := fun M hM => badTwo_eq hF hM.1 ia ib i0 ip
  have k2 : ∀ M, RM S M → f10_wrongRace (up M 0 8 0) a b 0 p = sTwo (sF S) a b 0 p := fun M hM => wrongRace_eq hF hM.thr.1 ia ib i0 ip
  by_cases e : sTwo (sF S) a b 0 p = 0
  · obtain ⟨ha, hb, -, hB⟩ := sTwo_ok e
    obtain ⟨n, hn6, rfl, -⟩ := hb.n hF
    refine ⟨(bestN (fHold (sF S) n p) vId none 3).1, S, hS, fun M hM => W9_bestHold_0 ⟨fun _ => L_bestHoldC hF hn6 hB.2 3 0 M rfl hM, fun z => ?_⟩, fun q M hM => W10_bestHold_0 ⟨isOne_01 hF hM.1 ia, isOne_01 hF hM.1 ib, fun z => ?_, fun _ => L_bestHoldM hF hn6 hB.2 3 0 _ rfl hM.thr⟩⟩
    · rw [k1 M hM, e] at z; exact absurd wr0 z
    · rw [k2 M hM, e, wr0] at z; omega
  · refine ⟨sTwo (sF S) a b 0 p, sRef S (sTwo (sF S) a b 0 p), hS.ref _, fun M hM => W9_bestHold_0 ⟨fun z => ?_, fun _ => ?_⟩, fun q M hM => W10_bestHold_0 ⟨isOne_01 hF hM.1 ia, isOne_01 hF hM.1 ib, fun _ => ?_, fun z => ?_⟩⟩
    · rw [k1 M hM, wr_id (by omega) (by omega)] at z; exact absurd z e
    · rw [k1 M hM]; exact C_ref hM (by omega)
    · rw [k2 M hM, wr_id (x := -_) (by omega) (by omega)]
      exact ⟨by omega, M_ref hM.thr (by omega)⟩
    · rw [k2 M hM, wr_id (by omega) (by omega)] at z; omega

/-! race: both sides answer alike -/
theorem sStep_le {k f a h d hold pace : Int} (hk : KOK k f) (hb : BOK hold pace) (ha : a ≤ 60) (hh : 0 ≤ h ∧ h ≤ 9) (hd : 0 ≤ d ∧ d ≤ 9) {l t n r : Int} (hl : 0 ≤ l ∧ l ≤ a) {l' t' n' r' : Int}
    (e : sStep k f a h d hold pace (some (l, t, n, r)) = some (l', t', n', r')) : (0 ≤ l' ∧ l' ≤ a) ∧ (t + 1 ≤ t' ∧ t' ≤ t + 200) ∧ (n ≤ n' ∧ n' ≤ n + 1) ∧ (r ≤ r' ∧ r' ≤ r + 6) := by
  have h1 := sLoad_le hk hh.1 hh.2 hb.1.1 hb.1.2
  have h2 := sTen_le hk hb
  have h3 := hb.2
  unfold sStep at e
  dsimp only at e
  split at e
  · exact absurd e (by simp)
  · have h4 := sRest_ok (t := sLoad k f h hold + pace) (a := a) (by omega) ha 6 l hl.1 hl.2 (by omega)
    split at e
    · injection e with e
      obtain ⟨rfl, rfl, rfl, rfl⟩ := by simpa only [Prod.mk.injEq] using e
      omega
    · injection e with e
      obtain ⟨rfl, rfl, rfl, rfl⟩ := by simpa only [Prod.mk.injEq] using e
      omega
theorem sRaceN_le {F : FS} (hF : FOK F) {lane p : Nat} (hlane : lane < 2) (hp : p < 6) {hold pace : Int} (hb : BOK hold pace) : ∀ n : Nat, n ≤ 20 → ∀ l t a b, sRaceN F lane p hold pace n = some (l, t, a, b) → (0 ≤ l ∧ l ≤ ar F p) ∧ ((n : Int) ≤ t ∧ t ≤ 200 * n) ∧ (0 ≤ a ∧ a ≤ n) ∧ (0 ≤ b ∧ b ≤ 6 * n)
  | 0, _, l, t, a, b, e => by
    obtain ⟨pa, ph, pd⟩ := hF.P hp
    have e2 : (some (ar F p, (0 : Int), (0 : Int), (0 : Int)) : RS) = some (l, t, a, b) := e
    injection e2 with e2
    obtain ⟨rfl, rfl, rfl, rfl⟩ := by simpa only [Prod.mk.injEq] using e2
    omega
  | n + 1, hn, l, t, a, b, e => by
    obtain ⟨pa, ph, pd⟩ := hF.P hp
    have e2 : sStep (lk F lane n) (lf F lane n) (ar F p) (hv F p) (hd F p) hold pace (sRaceN F lane p hold pace n) = some (l, t, a, b) := e
    have ih := sRaceN_le hF hlane hp hb n (by omega)
    revert e2 ih
    cases sRaceN F lane p hold pace n with
    | none => intro e2; exact absurd e2 (by simp [sStep])
    | some z =>
      obtain ⟨l0, t0, a0, b0⟩ := z
      intro e2 ih
      obtain ⟨i1, i2, i3, i4⟩ := ih _ _ _ _ rfl
      have := sStep_le (hF.K hlane (by omega)) hb (by omega) ph pd i1 e2
      omega
theorem sRace_le {F : FS} (hF : FOK F) {lane p : Nat} (hlane : lane < 2) (hp : p < 6) {hold pace : Int} (hb : BOK hold pace) {l t a b : Int} (e : sRace F lane p hold pace = some (l, t, a, b)) : (0 ≤ l ∧ l ≤ ar F p) ∧ (1 ≤ t ∧ t ≤ 4000) ∧ (0 ≤ a ∧ a ≤ 20) ∧ (0 ≤ b ∧ b ≤ 120) := by
  have hy := hF.1
  have := sRaceN_le hF hlane hp hb (yd F).toNat (by omega) _ _ _ _ e
  omega
/-- a time that is told: -9 for never -/
def sTold (s : RS) : Int := match s with
  | none => -9
  | some (_, t, _, _) => t
def sAns (s : RS) (w : Int) : Int := match s with
  | none => -9
  | some (l, t, n, r) => if w = 0 then t else if w = 1 then n else if w = 2 then r else l
theorem Left.C {F : FS} {M M' : Mem} {lane p : Nat} {hold pace : Int} (h : Left F M M' lane p hold pace) : FrC M M' := fun i hi => h.1 i (by omega) (by omega) (by omega) (by omega)
theorem hln {F : FS} (hF : FOK F) : (ln F).toNat < 2 := by have := hF.2.1; omega
theorem isOne_01 {F : FS} (hF : FOK F) {M : Mem} (hR : RMf F M) {a : Int} (ha : IR a) : wr (f10_in (wr a) (((0 : Nat) : Int)) (wr (M 0 4 - 1))) = 0 ∨ wr (f10_in (wr a) (((0 : Nat) : Int)) (wr (M 0 4 - 1))) = 1 := by
  have h3 := hF.2.2.1
  rw [hR.2.2.1, ha.w, wr_id (x := pn F - 1) (by omega) (by omega)]
  exact in_01 ha (by unfold IR; omega) (by unfold IR; omega)
theorem RM.thr {S : ST} {M : Mem} (h : RM S M) : RM S (up M 0 8 0) := h.fr (FrQ.thr M 0)
theorem SIM_race {a b h p w : Int} (ia : IR a) (ib : IR b) (ih : IR h) (ip : IR p) (iw : IR w) : SIM i9_race 7 i10_race 8 [vi a, vi b, vi h, vi p, vi w] := by
  intro S hS
  have hF := hS.1
  have i3 : IR 3 := by unfold IR; omega
  have c1 := sTwo_le (sF S) a b h p
  have c2 := sBit_le (x := w) (m := 3) c1
  have k1 : ∀ M, RC S M → f9_orOther (f9_badTwo M a b h p) w 3 = sBit (sTwo (sF S) a b h p) w 3 := fun M hM => by rw [badTwo_eq hF hM.1 ia ib ih ip, orOther_eq (by unfold IR; omega) iw i3]
  have k2 : ∀ M, RM S M → f10_wrongBit (f10_wrongRace (up M 0 8 0) a b h p) w 3 = sBit (sTwo (sF S) a b h p) w 3 := fun M hM => by rw [wrongRace_eq hF hM.thr.1 ia ib ih ip, wrongBit_eq (by unfold IR; omega) iw i3]
  by_cases e : sBit (sTwo (sF S) a b h p) w 3 = 0
  · obtain ⟨e1, w0, w3⟩ := sBit_ok e
    obtain ⟨ha, hb, -, hB⟩ := sTwo_ok e1
    obtain ⟨n, hn6, rfl, -⟩ := hb.n hF
    refine ⟨sAns (sRace (sF S) (ln (sF S)).toNat n h p) w, S, hS, fun M hM => ?_, fun q M hM => ?_⟩
    · refine W9_race_0 ⟨fun _ => ?_, fun x => ?_⟩
      · refine T_timeOf hF hM.1 hn6 hB (fun M' hL => ?_)
        have hRM : RC S M' := hM.fr hL.C
        obtain ⟨-, -, -, -, -, hW⟩ := hL
        obtain ⟨-, -, hs⟩ := hW
        have hle := @sRace_le (sF S) hF (ln (sF S)).toNat n (hln hF) hn6 h p hB
        revert hs hle
        cases sRace (sF S) (ln (sF S)).toNat n h p with
        | none =>
          intro hs hle
          exact ⟨fun x => by rw [wlt (by decide) (by decide) (by decide) (by decide)] at x; exact absurd x (by decide), fun _ => ⟨M', rfl, rfl, hRM⟩⟩
        | some z =>
          obtain ⟨l, t, x, r⟩ := z
          intro hs hle
          obtain ⟨-, s3, s4, s5, s6, -⟩ := hs
          obtain ⟨l1, l2, l3, l4⟩ := hle rfl
          refine ⟨fun _ => ⟨fun y0 => ?_, fun y0 => ⟨fun y1 => ?_, fun y1 => ⟨fun y2 => ?_, fun y2 => ?_⟩⟩⟩, fun y => ?_⟩
          · rw [iw.w] at y0
            exact ⟨M', by rw [s4, sAns, if_pos y0], rfl, hRM⟩
          · rw [iw.w] at y0 y1
            exact ⟨M', by rw [s5, sAns, if_neg y0, if_pos y1], rfl, hRM⟩
          · rw [iw.w] at y0 y1 y2
            exact ⟨M', by rw [s6, sAns, if_neg y0, if_neg y1, if_pos y2], rfl, hRM⟩
          · rw [iw.w] at y0 y1 y2
            exact ⟨M', by rw [s3, sAns, if_neg y0, if_neg y1, if_neg y2], rfl, hRM⟩
          · rw [show tvC (some (l, t, x, r)) = t from rfl, wlt (by omega) (by omega) (by omega) (by omega)] at y
            omega
      · rw [k1 M hM, e] at x
        exact absurd wr0 x
    · refine W10_race_0 ⟨isOne_01 hF hM.1 ia, isOne_01 hF hM.1 ib, fun x => ?_, fun _ => ?_⟩
      · rw [k2 M hM, e, wr0] at x
        omega
      · refine T_plainRun hF hB hn6 hM.thr.1 (fun M' hL => ?_)
        have hRM : RM S M' := hM.thr.fr hL.1.q
        obtain ⟨-, hs, -, -⟩ := hL
        have hle := @sRace_le (sF S) hF (ln (sF S)).toNat n (hln hF) hn6 h p hB
        revert hs hle
        cases sRace (sF S) (ln (sF S)).toNat n h p with
        | none =>
          intro hs hle
          exact ⟨fun _ => ⟨q, M', rfl, rfl, hRM⟩, fun x => absurd rfl x⟩
        | some z =>
          obtain ⟨l, t, x, r⟩ := z
          intro hs hle
          obtain ⟨s3, s4, s5, s6⟩ := hs _ _ _ _ rfl
          obtain ⟨l1, l2, l3, l4⟩ := hle rfl
          refine ⟨fun y => ?_, fun _ => W10_race_94 ⟨q, M', ?_, rfl, hRM⟩⟩
          · rw [show tvM (some (l, t, x, r)) = t from rfl, weq (by omega) (by omega) (by omega) (by omega)] at y
            omega
          · rw [show tvM (some (l, t, x, r)) = t from rfl, s3, s5, s6, iw.w, wr1, wr_id (x := 2) (by omega) (by omega)]
            rfl
  · refine ⟨sBit (sTwo (sF S) a b h p) w 3, sRef S (sBit (sTwo (sF S) a b h p) w 3), hS.ref _, fun M hM => ?_, fun q M hM => ?_⟩
    · refine W9_race_0 ⟨fun x => ?_, fun _ => ?_⟩
      · rw [k1 M hM, wr_id (by omega) (by omega)] at x
        exact absurd x e
      · rw [k1 M hM]
        exact C_ref hM (by omega)
    · refine W10_race_0 ⟨isOne_01 hF hM.1 ia, isOne_01 hF hM.1 ib, fun x => ?_, fun x => ?_⟩
      · rw [k2 M hM, wr_id (x := -_) (by omega) (by omega)]
        exact ⟨by omega, M_ref hM.thr (by omega)⟩
      · rw [k2 M hM, wr_id (by omega) (by omega)] at x
        omega

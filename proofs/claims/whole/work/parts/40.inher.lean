/-! inHer: both sides answer alike -/
theorem sFirst_s {F : FS} {lane p : Nat} {h pace : Int} (n : Nat) : sFirst F lane p h pace (n + 1) = sFR (sLoad (lk F lane n) (lf F lane n) (hv F p) h + pace) (sFirst F lane p h pace n) (n : Int) (sRaceN F lane p h pace n) := by
  obtain ⟨e1, e2⟩ := sAll_plain (kf := lk F lane) (ff := lf F lane) (hold := h) (pace := pace) (w0 := PW F p) (s0 := some (ar F p, 0, 0, 0)) n
  unfold sFirst
  simp only [sAll]
  rw [e1, e2]
  rfl
theorem sFirst_stay {F : FS} {lane p : Nat} {h pace : Int} {n : Nat} {f : Int} (hf : 0 ≤ f) (e : sFirst F lane p h pace n = f) : ∀ k : Nat, sFirst F lane p h pace (n + k) = f
  | 0 => e
  | k + 1 => by
    have ih := sFirst_stay hf e k
    rw [show n + (k + 1) = (n + k) + 1 by omega, sFirst_s, ih]
    unfold sFR
    split
    · rfl
    · rw [if_neg (by omega)]
def sIn (F : FS) (p : Nat) (h pace : Int) : Int := if sFirst F (ln F).toNat p h pace (yd F).toNat < 0 then yd F else sFirst F (ln F).toNat p h pace (yd F).toNat
theorem sRaceN_s {F : FS} {lane p : Nat} {h pace : Int} (n : Nat) : sRaceN F lane p h pace (n + 1) = sStep (lk F lane n) (lf F lane n) (ar F p) (hv F p) (hd F p) h pace (sRaceN F lane p h pace n) := rfl
theorem L_inC {S : ST} (hF : FOK (sF S)) {p : Nat} (hp : p < 6) {h pace : Int} (hb : BOK h pace) {M0 : Mem} (hM0 : RC S M0) (hC : CO M0 36 (yd (sF S)).toNat (lk (sF S) (ln (sF S)).toNat) (lf (sF S) (ln (sF S)).toNat)) : ∀ (k n : Nat) (M : Mem), n + k = (yd (sF S)).toNat → (∀ i, i ≠ 41 → M i = M0 i) → M 41 0 = ar (sF S) p → M 41 1 = hv (sF S) p → M 41 2 = hd (sF S) p → WR M 41 (sRaceN (sF S) (ln (sF S)).toNat p h pace n) (n : Int) → sFirst (sF S) (ln (sF S)).toNat p h pace n = -9 → (∃ z, sRaceN (sF S) (ln (sF S)).toNat p h pace n = some z) →
    TA i9_inHer 54 [some (vr 0), none, some (vi h), some (vi pace), none, some (vi (n : Int))] [] (LC, M) (CP S (sIn (sF S) p h pace))
  | 0, n, M, hn, hf, h0, h1, h2, hW, hfi, hz => by
    obtain ⟨hy1, hy2⟩ := hF.1
    have e : n = (yd (sF S)).toNat := by omega
    subst e
    refine W9_inHer_54 ⟨fun z => ?_, fun _ => ⟨M, ?_, rfl, hM0.fr (FrC.of41 hf)⟩⟩
    · rw [hf 36 (by omega), hC.1, wlt (by omega) (by omega) (by omega) (by omega)] at z; omega
    · rw [hf 36 (by omega), hC.1]
      unfold sIn
      rw [hfi, if_pos (by omega), show (((yd (sF S)).toNat : Nat) : Int) = yd (sF S) by omega]
  | k + 1, n, M, hn, hf, h0, h1, h2, hW, hfi, hz => by
    obtain ⟨hy1, hy2⟩ := hF.1
    obtain ⟨pa, ph, pd⟩ := hF.P hp
    have ey : ((n : Int)).toNat = n := by omega
    obtain ⟨k1, k2, k3⟩ := hC.2.2 n (by omega)
    have eT : f8_tires M 41 36 (n : Int) h pace = sLoad (lk (sF S) (ln (sF S)).toNat n) (lf (sF S) (ln (sF S)).toNat n) (hv (sF S) p) h + pace := by
      unfold f8_tires
      rw [rd_in (by omega) (by omega) (by omega), rd_in (by omega) (by omega) (by omega), ey, hf (36 + 2) (by omega), hf (36 + 4) (by omega), k1, k2, h1, f4_load k3 ph.1 ph.2 hb.1.1 hb.1.2]
    have hT := sLoad_le k3 ph.1 ph.2 hb.1.1 hb.1.2
    have hp9 := hb.2
    obtain ⟨⟨l, t, a, b⟩, hz⟩ := hz
    have hW' := hW
    rw [hz] at hW'
    obtain ⟨-, -, s7, s3, s4, s5, s6, b1, -⟩ := hW'
    refine W9_inHer_54 ⟨fun _ => ⟨w2, ?_⟩, fun z => ?_⟩
    · rw [eT, s3, wr_id (x := l) (by omega) (by omega), wr_id (by omega) (by omega)]
      refine ⟨fun z => ⟨M, ?_, rfl, hM0.fr (FrC.of41 hf)⟩, fun z => ?_⟩
      · have e1 : sFirst (sF S) (ln (sF S)).toNat p h pace (n + 1) = (n : Int) := by
          rw [sFirst_s, hfi, hz]
          unfold sFR
          dsimp only
          rw [if_pos ⟨z, by omega⟩]
          omega
        have e2 := sFirst_stay (by omega) e1 k
        rw [show n + 1 + k = (yd (sF S)).toNat by omega] at e2
        unfold sIn
        rw [e2, if_neg (by omega)]
      · refine T_goes_41_36 k3 hb (by omega) (by rw [hf 38 (by omega), ey]; exact k1) (by rw [hf 40 (by omega), ey]; exact k2) hW (by omega) (fun M' f1 f2 f3 f4 f5 => ?_)
        rw [h0, h1, h2] at f5
        have e1 : ((n + 1 : Nat) : Int) = (n : Int) + 1 := by omega
        have hfi2 : sFirst (sF S) (ln (sF S)).toNat p h pace (n + 1) = -9 := by
          rw [sFirst_s, hfi, hz]
          unfold sFR
          dsimp only
          rw [if_neg (fun y => z y.1)]
        have hz2 : ∃ z, sRaceN (sF S) (ln (sF S)).toNat p h pace (n + 1) = some z := by
          rw [sRaceN_s, hz]
          unfold sStep
          dsimp only
          rw [if_neg (by omega)]
          split
          · exact ⟨_, rfl⟩
          · exact ⟨_, rfl⟩
        have := L_inC hF hp hb hM0 hC k (n + 1) M' (by omega) (fun i hi => by rw [f1 i hi]; exact hf i hi) (by rw [f2]; exact h0) (by rw [f3]; exact h1) (by rw [f4]; exact h2) f5 hfi2 hz2
        rw [e1] at this
        exact this
    · rw [hf 36 (by omega), hC.1, wlt (by omega) (by omega) (by omega) (by omega)] at z; omega
theorem sFirst_le {F : FS} {lane p : Nat} {h pace : Int} : ∀ n : Nat, -9 ≤ sFirst F lane p h pace n ∧ sFirst F lane p h pace n ≤ 20
  | 0 => by
    have e : sFirst F lane p h pace 0 = -9 := rfl
    omega
  | n + 1 => by
    have ih := sFirst_le (F := F) (lane := lane) (p := p) (h := h) (pace := pace) n
    rw [sFirst_s]
    unfold sFR
    split
    · exact ih
    · split
      · omega
      · exact ih
theorem SIM_inHer {a h p : Int} (ia : IR a) (ih : IR h) (ip : IR p) : SIM i9_inHer 6 i10_inHer 5 [vi a, vi h, vi p] := by
  intro S hS
  have hF := hS.1
  have hy := hF.1
  have c1 := sOne_le (sF S) a h p
  have k1 : ∀ M, RC S M → f9_badOne M a h p = sOne (sF S) a h p := fun M hM => badOne_eq hF hM.1 ia ih ip
  have k2 : ∀ M, RM S M → (if wr (f10_isOne (up M 0 8 0) a) = 0 then (-1) else f10_wrongBy h p) = sOne (sF S) a h p := fun M hM => one_eq hF hM.thr.1 ia ih ip
  by_cases e : sOne (sF S) a h p = 0
  · obtain ⟨ha, hB⟩ := sOne_ok e
    obtain ⟨n, hn6, rfl, -⟩ := ha.n hF
    refine ⟨sIn (sF S) n h p, S, hS, fun M hM => W9_inHer_0 ⟨fun _ => ?_, fun z => ?_⟩, fun q M hM => W10_inHer_0 ⟨isOne_01 hF hM.1 ia, ?_⟩⟩
    · rw [hM.1.2.1]
      refine T_takes_36 hF hF.2.1 hM.1 (fun M1 f1 hC => ⟨wb0, ?_⟩)
      have g1 : FrC M M1 := fun i hi => f1 i (by omega) (by omega) (by omega)
      obtain ⟨q1, q2, q3, q4, q5, q6⟩ := CO.start hF (hM.fr g1).1 hn6 hC
      exact L_inC hF hn6 hB (hM.fr (g1.tr (FrC.of41 q1))) q6 (yd (sF S)).toNat 0 _ (by omega) (fun _ _ => rfl) q2 q3 q4 q5 rfl ⟨_, rfl⟩
    · rw [k1 M hM, e] at z; exact absurd wr0 z
    · rw [k2 M hM, e]
      have hT := hM.thr
      refine W10_inHer_22 ⟨fun z => ?_, fun _ => T_plainRun hF hB hn6 hT.1 (fun M' hL => W10_inHer_62 ⟨q, M', ?_, rfl, hT.fr hL.1.q⟩)⟩
      · rw [wr0] at z; omega
      · have hb := sFirst_le (F := sF S) (lane := (ln (sF S)).toNat) (p := n) (h := h) (pace := p) (yd (sF S)).toNat
        rw [hL.2.2.1, (hT.fr hL.1.q).1.1, wr_id (by omega) (by omega)]
        rfl
  · refine ⟨sOne (sF S) a h p, sRef S (sOne (sF S) a h p), hS.ref _, fun M hM => W9_inHer_0 ⟨fun z => ?_, fun _ => ?_⟩, fun q M hM => W10_inHer_0 ⟨isOne_01 hF hM.1 ia, ?_⟩⟩
    · rw [k1 M hM, wr_id (by omega) (by omega)] at z; exact absurd z e
    · rw [k1 M hM]; exact C_ref hM (by omega)
    · rw [k2 M hM]
      refine W10_inHer_22 ⟨fun _ => ⟨by rw [wr_id (by omega) (by omega)]; omega, M_ref hM.thr (by omega)⟩, fun z => ?_⟩
      rw [wr_id (by omega) (by omega)] at z; omega

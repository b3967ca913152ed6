/-! careful: both sides answer alike -/
def sRunP (kf ff pc : Nat → Int) (a h d hold : Int) (s : RS) : Nat → RS
  | 0 => s
  | n + 1 => sStep (kf n) (ff n) a h d hold (pc n) (sRunP kf ff pc a h d hold s n)
theorem sRunP_none {kf ff pc : Nat → Int} {a h d hold : Int} {s : RS} {n : Nat} (e : sRunP kf ff pc a h d hold s n = none) : ∀ k : Nat, sRunP kf ff pc a h d hold s (n + k) = none
  | 0 => e
  | k + 1 => by
    have := sRunP_none e k
    show sStep _ _ a h d hold _ (sRunP kf ff pc a h d hold s (n + k)) = none
    rw [this]; rfl
abbrev pcCare (F : FS) (p : Nat) : Nat → Int := fun n => min (sLim (lk F (ln F).toNat n) (hd F p)) 9
abbrev sCare (F : FS) (p : Nat) (h : Int) : Nat → RS := sRunP (lk F (ln F).toNat) (lf F (ln F).toNat) (pcCare F p) (ar F p) (hv F p) (hd F p) h (some (ar F p, 0, 0, 0))
theorem sLim_1 {k h : Int} (hh : 1 ≤ h) : 1 ≤ sLim k h := by
  unfold sLim
  (repeat' split) <;> omega
theorem bok_care {F : FS} {p : Nat} {h : Int} (hh : 0 ≤ h ∧ h ≤ 2) (h1 : 1 ≤ hd F p) (n : Nat) : BOK h (pcCare F p n) := by
  have := sLim_1 (k := lk F (ln F).toNat n) h1
  refine ⟨hh, ?_, ?_⟩
  · show 1 ≤ min (sLim (lk F (ln F).toNat n) (hd F p)) 9; omega
  · show min (sLim (lk F (ln F).toNat n) (hd F p)) 9 ≤ 9; omega
theorem L_careC {S : ST} (hF : FOK (sF S)) {p : Nat} (hp : p < 6) (h1 : 1 ≤ hd (sF S) p) {h : Int} (hh : 0 ≤ h ∧ h ≤ 2) {M0 : Mem} (hM0 : RC S M0) (hC : CO M0 36 (yd (sF S)).toNat (lk (sF S) (ln (sF S)).toNat) (lf (sF S) (ln (sF S)).toNat)) : ∀ (k n : Nat) (M : Mem), n + k = (yd (sF S)).toNat → (∀ i, i ≠ 41 → M i = M0 i) → M 41 0 = ar (sF S) p → M 41 1 = hv (sF S) p → M 41 2 = hd (sF S) p → WR M 41 (sCare (sF S) p h n) (n : Int) →
    TA i9_careful 62 [some (vr 0), none, some (vi h), none, some (vi (n : Int)), none] [] (LC, M) (CP S (sTold (sCare (sF S) p h (yd (sF S)).toNat)))
  | 0, n, M, hn, hf, h0, hh1, h2, hW => by
    obtain ⟨hy1, hy2⟩ := hF.1
    have e : n = (yd (sF S)).toNat := by omega
    subst e
    refine W9_careful_62 ⟨fun z => ?_, fun _ => ⟨M, ?_, rfl, hM0.fr (FrC.of41 hf)⟩⟩
    · rw [hf 36 (by omega), hC.1, wlt (by omega) (by omega) (by omega) (by omega)] at z; omega
    · rw [time_eq hW, toldC (hW.tb (by omega))]
  | k + 1, n, M, hn, hf, h0, hh1, h2, hW => by
    obtain ⟨hy1, hy2⟩ := hF.1
    obtain ⟨pa, ph, pd⟩ := hF.P hp
    refine W9_careful_62 ⟨fun _ => ?_, fun z => ?_⟩
    · have ey : ((n : Int)).toNat = n := by omega
      obtain ⟨k1, k2, k3⟩ := hC.2.2 n (by omega)
      have er : rd M 38 20 (n : Int) = lk (sF S) (ln (sF S)).toNat n := by rw [rd_in (by omega) (by omega) (by omega), ey, hf 38 (by omega)]; exact k1
      have hl := sLim_le (k := lk (sF S) (ln (sF S)).toNat n) pd.1 pd.2
      rw [er, h2, f4_lim k3.1.1 k3.1.2 pd.1 pd.2, mn_eq (by omega) (by omega) (by omega) (by omega)]
      refine T_goes_41_36 k3 (bok_care hh h1 n) (by omega) (by rw [hf 38 (by omega), ey]; exact k1) (by rw [hf 40 (by omega), ey]; exact k2) hW (by omega) (fun M' f1 f2 f3 f4 f5 => ?_)
      rw [h0, hh1, h2] at f5
      have e1 : ((n + 1 : Nat) : Int) = (n : Int) + 1 := by omega
      have := L_careC hF hp h1 hh hM0 hC k (n + 1) M' (by omega) (fun i hi => by rw [f1 i hi]; exact hf i hi) (by rw [f2]; exact h0) (by rw [f3]; exact hh1) (by rw [f4]; exact h2) f5
      rw [e1] at this
      exact this
    · rw [hf 36 (by omega), hC.1, wlt (by omega) (by omega) (by omega) (by omega)] at z; omega
theorem L_careM {S : ST} (hF : FOK (sF S)) {p : Nat} (hp : p < 6) (h1 : 1 ≤ hd (sF S) p) {h : Int} (hh : 0 ≤ h ∧ h ≤ 2) {q : Option Nat} : ∀ (k n : Nat) (M : Mem), n + k = (yd (sF S)).toNat → RM S M → M 0 10 = ar (sF S) p → M 0 11 = hv (sF S) p → M 0 12 = hd (sF S) p → WM M (sCare (sF S) p h n) (n : Int) →
    TA i10_careful 45 [some (vr 0), none, some (vi h), none, some (vi (n : Int)), none] [] (LM q, M) (MP S (sTold (sCare (sF S) p h (yd (sF S)).toNat)))
  | 0, n, M, hn, hM, h0, hh1, h2, hW => by
    obtain ⟨hy1, hy2⟩ := hF.1
    have e : n = (yd (sF S)).toNat := by omega
    subst e
    refine W10_careful_45 ⟨fun z => ?_, fun _ => W10_careful_113 ⟨q, M, by rw [end_eq hW], rfl, hM⟩⟩
    rw [hM.1.1, wlt (by omega) (by omega) (by omega) (by omega)] at z; omega
  | k + 1, n, M, hn, hM, h0, hh1, h2, hW => by
    obtain ⟨hy1, hy2⟩ := hF.1
    obtain ⟨hl1, hl2⟩ := hF.2.1
    obtain ⟨pa, ph, pd⟩ := hF.P hp
    refine W10_careful_45 ⟨fun _ => ⟨fun _ => ?_, fun z => W10_careful_113 ⟨q, M, ?_, rfl, hM⟩⟩, fun z => ?_⟩
    · have hK := hF.K (lane := (ln (sF S)).toNat) (y := n) (by omega) (by omega)
      have e20 : (20 * ln (sF S) + (n : Int)).toNat = 20 * (ln (sF S)).toNat + n := by omega
      have hl := sLim_le (k := lk (sF S) (ln (sF S)).toNat n) pd.1 pd.2
      rw [hM.1.2.1]
      have hkd : M 1 (20 * ln (sF S) + (n : Int)).toNat = lk (sF S) (ln (sF S)).toNat n := by rw [hM.1.2.2.2.1 _ (by omega), e20]; rfl
      have hfg : M 2 (20 * ln (sF S) + (n : Int)).toNat = lf (sF S) (ln (sF S)).toNat n := by rw [hM.1.2.2.2.2.1 _ (by omega), e20]; rfl
      have ep : f10_lesser 9 (f10_limitOf M (20 * ln (sF S) + (n : Int))) = pcCare (sF S) p n := by
        rw [m_lim (by omega) hkd hK.1 (by rw [h2]; exact pd.1) (by rw [h2]; exact pd.2), h2]
        unfold f10_lesser
        rw [wr_id (x := 9) (by omega) (by omega), wr_id (by omega) (by omega)]
        show _ = min (sLim (lk (sF S) (ln (sF S)).toNat n) (hd (sF S) p)) 9
        split <;> omega
      rw [ep]
      refine ⟨by rw [wr_id (by omega) (by omega)]; omega, ?_⟩
      refine T_stepOn (j := (n : Int)) (by omega) hK (bok_care hh h1 n) hkd hfg hW (by omega) (fun M2 f2 hW2 h182 => ?_)
      rw [h0, hh1, h2] at hW2
      have e1 : ((n + 1 : Nat) : Int) = (n : Int) + 1 := by omega
      have := L_careM hF hp h1 hh (q := q) k (n + 1) M2 (by omega) (hM.fr f2.q) (by rw [f2.2 10 (by omega)]; exact h0) (by rw [f2.2 11 (by omega)]; exact hh1) (by rw [f2.2 12 (by omega)]; exact h2) hW2
      rw [e1] at this
      exact this
    · have en := hW.never z
      have := sRunP_none en (k + 1)
      rw [hn] at this
      rw [end_eq hW, en, show sCare (sF S) p h (yd (sF S)).toNat = none from this]
    · rw [hM.1.1, wlt (by omega) (by omega) (by omega) (by omega)] at z; omega
theorem SIM_careful {a h : Int} (ia : IR a) (ih : IR h) : SIM i9_careful 6 i10_careful 6 [vi a, vi h] := by
  intro S hS
  have hF := hS.1
  have hy := hF.1
  have ip : IR 1 := by unfold IR; omega
  have c1 := sOne_le (sF S) a h 1
  have k1 : ∀ M, RC S M → f9_firstOf (f9_nobody M a) (f9_low h 1) (f9_high h 1) = sOne (sF S) a h 1 := fun M hM => badOne_eq hF hM.1 ia ih ip
  have k2 : ∀ M, RM S M → (if wr (f10_isOne (up M 0 8 0) a) = 0 then (-1) else f10_wrongBy h 1) = sOne (sF S) a h 1 := fun M hM => one_eq hF hM.thr.1 ia ih ip
  by_cases e : sOne (sF S) a h 1 = 0
  · obtain ⟨ha, hB⟩ := sOne_ok e
    obtain ⟨n, hn6, rfl, hnp⟩ := ha.n hF
    have h1 : 1 ≤ hd (sF S) n := (hF.2.2.2.2.2.2 n hnp).2.2
    refine ⟨sTold (sCare (sF S) n h (yd (sF S)).toNat), S, hS, fun M hM => W9_careful_0 ⟨fun _ => ?_, fun z => ?_⟩, fun q M hM => W10_careful_0 ⟨isOne_01 hF hM.1 ia, ?_⟩⟩
    · rw [hM.1.2.1]
      refine T_takes_36 hF hF.2.1 hM.1 (fun M1 f1 hC => ⟨wb0, ?_⟩)
      have g1 : FrC M M1 := fun i hi => f1 i (by omega) (by omega) (by omega)
      obtain ⟨q1, q2, q3, q4, q5, q6⟩ := CO.start hF (hM.fr g1).1 hn6 hC
      exact L_careC hF hn6 h1 hB.1 (hM.fr (g1.tr (FrC.of41 q1))) q6 (yd (sF S)).toNat 0 _ (by omega) (fun _ _ => rfl) q2 q3 q4 q5
    · rw [k1 M hM, e] at z; exact absurd wr0 z
    · rw [k2 M hM, e]
      have hT := hM.thr
      obtain ⟨q1, q2, q3, q4, q5⟩ := hT.1.start hF hn6
      refine W10_careful_22 ⟨fun z => ?_, fun _ => ⟨by rw [wr_id (by omega) (by omega)]; omega, wb0, ?_⟩⟩
      · rw [wr0] at z; omega
      · exact L_careM hF hn6 h1 hB.1 (yd (sF S)).toNat 0 _ (by omega) (hT.fr q1.q) q2 q3 q4 q5
  · refine ⟨sOne (sF S) a h 1, sRef S (sOne (sF S) a h 1), hS.ref _, fun M hM => W9_careful_0 ⟨fun z => ?_, fun _ => ?_⟩, fun q M hM => W10_careful_0 ⟨isOne_01 hF hM.1 ia, ?_⟩⟩
    · rw [k1 M hM, wr_id (by omega) (by omega)] at z; exact absurd z e
    · rw [k1 M hM]; exact C_ref hM (by omega)
    · rw [k2 M hM]
      refine W10_careful_22 ⟨fun _ => ⟨by rw [wr_id (by omega) (by omega)]; omega, M_ref hM.thr (by omega)⟩, fun z => ?_⟩
      rw [wr_id (by omega) (by omega)] at z; omega

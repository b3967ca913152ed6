/-! steers, straight: both sides answer alike -/
theorem T_farM {F : FS} (hF : FOK F) {g : Nat} (hg : g ≤ 5) {q : Option Nat} {M : Mem} (hM : RMf F M) {K : Mem → Prop}
    (h : ∀ M', FrQ M M' → M' 0 44 = (sSt g (yd F).toNat).2.2.1 → M' 0 45 = (sSt g (yd F).toNat).1 → K M') : TV i10_steer 6 [vr 0, vi (g : Int)] (LM q, M) K :=
  W10_steer_0 (L_offM hF hg hM h (yd F).toNat 0 _ (by omega) ⟨fun i a b => up_fr (by omega), fun j hj => up_sl (by omega)⟩ up_eq (fun j hj => absurd hj (by omega)))
theorem sSt_end (g n : Nat) : (sSt g (n + 1)).2.2.2 n = (sSt g (n + 1)).1 := by
  simp only [sSt]
  unfold upn
  rw [if_pos rfl]
theorem number_eq {x a b : Int} (hx : IR x) (ha : IR a) (hb : IR b) : f10_wrongNumber x a b = s3w False (x < a) (b < x) := by
  unfold f10_wrongNumber s3w
  rw [hx.w, ha.w, hb.w, if_neg (c := False) (fun z => z)]
theorem first2_eq {b c : Prop} [Decidable b] [Decidable c] : f9_firstOf 0 (if b then 1 else 0) (if c then 1 else 0) = s3w False b c := by
  have e2 := first_eq (a := False) (b := b) (c := c)
  rw [if_neg (c := False) (fun z => z)] at e2
  exact e2
theorem s3w_le {a b c : Prop} [Decidable a] [Decidable b] [Decidable c] : -6 ≤ s3w a b c ∧ s3w a b c ≤ 0 := by unfold s3w; (repeat' split) <;> omega
theorem SIM_steers {g w : Int} (ig : IR g) (iw : IR w) : SIM i9_steers 5 i10_steers 4 [vi g, vi w] := by
  intro S hS
  have hF := hS.1
  have hy := hF.1
  have i0 : IR 0 := by unfold IR; omega
  have i1 : IR 1 := by unfold IR; omega
  have i5 : IR 5 := by unfold IR; omega
  have c1 := s3w_le (a := False) (b := g < 0) (c := 5 < g)
  obtain ⟨W, hW⟩ : ∃ W, W = sBit (s3w False (g < 0) (5 < g)) w 1 := ⟨_, rfl⟩
  have b2 := sBit_le (x := w) (m := 1) c1
  rw [← hW] at b2
  have kM : f10_wrongBit (f10_wrongNumber g 0 5) w 1 = W := by rw [number_eq ig i0 i5, wrongBit_eq (by unfold IR; omega) iw i1, hW]
  have kC : f9_orOther (f9_firstOf 0 (if wr g < 0 then 1 else 0) (if wr 5 < wr g then 1 else 0)) w 1 = W := by
    rw [ig.w, wr_id (x := 5) (by omega) (by omega), first2_eq, orOther_eq (by unfold IR; omega) iw i1, hW]
  by_cases e : W = 0
  · have e' := e
    rw [hW] at e'
    obtain ⟨e1, w0, wle⟩ := sBit_ok e'
    have hg : 0 ≤ g ∧ g ≤ 5 := by unfold s3w at e1; (repeat' split at e1) <;> omega
    obtain ⟨n, rfl⟩ : ∃ n : Nat, g = (n : Int) := ⟨g.toNat, by omega⟩
    refine ⟨if w = 0 then (sSt n (yd (sF S)).toNat).2.2.1 else (sSt n (yd (sF S)).toNat).1, S, hS, fun M hM => W9_steers_0 (W9_steers_10 (W9_steers_20 ⟨fun _ => T_farC hF (by omega) hM.1 (fun M' f o => W9_steers_75 ⟨M', ?_, rfl, hM.fr (fun i hi => f i (by omega))⟩), fun z => ?_⟩)), fun q M hM => W10_steers_0 ⟨fun z => ?_, fun _ => T_farM hF (by omega) hM.thr.1 (fun M' f h1 h2 => W10_steers_51 ⟨q, M', by rw [iw.w, h1, h2], rfl, hM.thr.fr f⟩)⟩⟩
    · have e2 : rd M' 46 20 (M' 1 0 - 1) = (sSt n (yd (sF S)).toNat).1 := by
        rw [f 1 (by omega), hM.1.1, rd_in (by omega) (by omega) (by omega), show (yd (sF S) - 1).toNat = (yd (sF S)).toNat - 1 by omega, o _ (by omega)]
        obtain ⟨m, hm⟩ : ∃ m, (yd (sF S)).toNat = m + 1 := ⟨(yd (sF S)).toNat - 1, by omega⟩
        rw [hm]
        exact sSt_end n m
      rw [iw.w, e2]
    · rw [kC, e] at z; exact absurd wr0 z
    · rw [kM, e, wr0] at z; omega
  · refine ⟨1000000000 - W, sRef S W, hS.ref _, fun M hM => W9_steers_0 (W9_steers_10 (W9_steers_20 ⟨fun z => ?_, fun _ => ?_⟩)), fun q M hM => W10_steers_0 ⟨fun _ => ?_, fun z => ?_⟩⟩
    · rw [kC, wr_id (by omega) (by omega)] at z; exact absurd z e
    · rw [kC]; exact ⟨_, rfl, rfl, C_ref2 hM (by omega)⟩
    · rw [kM, wr_id (x := -_) (by omega) (by omega)]
      exact ⟨by omega, q, _, rfl, rfl, M_ref2 (q := q) hM.thr (by omega)⟩
    · rw [kM, wr_id (by omega) (by omega)] at z; omega
/-- the last of the first n that does not go farther off than e -/
def sLast (m : Nat) (e : Int) : Nat → Int
  | 0 => -9
  | n + 1 => if e < (sSt n m).2.2.1 then sLast m e n else (n : Int)
theorem L_strC {S : ST} (hF : FOK (sF S)) {e : Int} (ie : IR e) {M0 : Mem} (hM0 : RC S M0) {r : Int} : ∀ (n : Nat) (M : Mem), n ≤ 6 → FrC M0 M → sLast (yd (sF S)).toNat e n = r → TA i9_straight 37 [some (vr 0), some (vi e), none, some (vi ((n : Int) - 1))] [] (LC, M) (CP S r)
  | 0, M, hn, hf, hr => W9_straight_37 ⟨fun _ => ⟨M, by rw [← hr]; rfl, rfl, hM0.fr hf⟩, fun z => absurd (by decide) z⟩
  | n + 1, M, hn, hf, hr => by
    have en : ((n + 1 : Nat) : Int) - 1 = (n : Int) := by omega
    obtain ⟨-, -, b3, -⟩ := sSt_le n (yd (sF S)).toNat (by have := hF.1; omega)
    rw [en]
    refine W9_straight_37 ⟨fun z => ?_, fun _ => T_farC hF (by omega) (hM0.fr hf).1 (fun M' f o => ⟨fun z => ?_, fun z => ?_⟩)⟩
    · rw [wr_id (by omega) (by omega)] at z; omega
    · rw [ie.w, wr_id (by omega) (by omega)] at z
      have hr2 : sLast (yd (sF S)).toNat e n = r := by rw [← hr]; simp only [sLast]; rw [if_pos z]
      exact L_strC hF ie hM0 n M' (by omega) (hf.tr (fun i hi => f i (by omega))) hr2
    · rw [ie.w, wr_id (by omega) (by omega)] at z
      refine ⟨M', ?_, rfl, hM0.fr (hf.tr (fun i hi => f i (by omega)))⟩
      rw [← hr]; simp only [sLast]; rw [if_neg z]
theorem L_strM {S : ST} (hF : FOK (sF S)) {e : Int} (ie : IR e) {q : Option Nat} : ∀ (k n : Nat) (M : Mem), n + k = 6 → RM S M → TA i10_straight 32 [some (vr 0), some (vi e), some (vi (sLast (yd (sF S)).toNat e n)), some (vi (n : Int))] [] (LM q, M) (MP S (sLast (yd (sF S)).toNat e 6))
  | 0, n, M, hn, hM => by
    have e6 : n = 6 := by omega
    subst e6
    exact W10_straight_32 ⟨fun _ => ⟨q, M, rfl, rfl, hM⟩, fun z => absurd (by decide) z⟩
  | k + 1, n, M, hn, hM => by
    obtain ⟨-, -, b3, -⟩ := sSt_le n (yd (sF S)).toNat (by have := hF.1; omega)
    refine W10_straight_32 ⟨fun z => ?_, fun _ => T_farM hF (by omega) hM.1 (fun M' f h1 h2 => W10_straight_55 ?_)⟩
    · rw [wlt (by omega) (by omega) (by omega) (by omega)] at z; omega
    · have ih := L_strM hF ie (q := q) k (n + 1) M' (by omega) (hM.fr f)
      have en : ((n + 1 : Nat) : Int) = (n : Int) + 1 := by omega
      rw [en] at ih
      rw [h1, ie.w, wr_id (by omega) (by omega)]
      exact ih
theorem SIM_straight {e : Int} (ie : IR e) : SIM i9_straight 4 i10_straight 4 [vi e] := by
  intro S hS
  have hF := hS.1
  have i0 : IR 0 := by unfold IR; omega
  have i9 : IR 99 := by unfold IR; omega
  have c1 := s3w_le (a := False) (b := e < 0) (c := 99 < e)
  have kM : f10_wrongNumber e 0 99 = s3w False (e < 0) (99 < e) := number_eq ie i0 i9
  have kC : f9_firstOf 0 (if wr e < 0 then 1 else 0) (if wr 99 < wr e then 1 else 0) = s3w False (e < 0) (99 < e) := by
    rw [ie.w, wr_id (x := 99) (by omega) (by omega), first2_eq]
  by_cases g : s3w False (e < 0) (99 < e) = 0
  · refine ⟨sLast (yd (sF S)).toNat e 6, S, hS, fun M hM => W9_straight_0 (W9_straight_10 (W9_straight_21 ⟨fun _ => L_strC hF ie hM 6 M (by omega) (FrC.rf M) rfl, fun z => ?_⟩)), fun q M hM => W10_straight_0 ⟨fun z => ?_, fun _ => L_strM hF ie 6 0 _ rfl hM.thr⟩⟩
    · rw [kC, g] at z; exact absurd wr0 z
    · rw [kM, g, wr0] at z; omega
  · refine ⟨s3w False (e < 0) (99 < e), sRef S (s3w False (e < 0) (99 < e)), hS.ref _, fun M hM => W9_straight_0 (W9_straight_10 (W9_straight_21 ⟨fun z => ?_, fun _ => ?_⟩)), fun q M hM => W10_straight_0 ⟨fun _ => ?_, fun z => ?_⟩⟩
    · rw [kC, wr_id (by omega) (by omega)] at z; exact absurd z g
    · rw [kC]; exact C_ref hM (by omega)
    · rw [kM, wr_id (x := -_) (by omega) (by omega)]
      exact ⟨by omega, M_ref hM.thr (by omega)⟩
    · rw [kM, wr_id (by omega) (by omega)] at z; omega

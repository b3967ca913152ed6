/-! worst, rain: both sides answer alike -/
theorem sRun_ext {kf kf' ff ff' : Nat → Int} {a h d hold pace : Int} {s : RS} : ∀ n : Nat, (∀ y, y < n → kf y = kf' y ∧ ff y = ff' y) → sRun kf ff a h d hold pace s n = sRun kf' ff' a h d hold pace s n
  | 0, _ => rfl
  | n + 1, h1 => by
    have ih := sRun_ext (kf := kf) (kf' := kf') (ff := ff) (ff' := ff') (a := a) (h := h) (d := d) (hold := hold) (pace := pace) (s := s) n (fun y hy => h1 y (by omega))
    obtain ⟨e1, e2⟩ := h1 n (by omega)
    simp only [sRun]
    rw [ih, e1, e2]
theorem FrR.re1 {M M' : Mem} {c k : Nat} {v w : Int} (hc : c ≠ 0 ∧ c ≠ 7) (f : FrR (up M c k v) M') : FrR (up M c k w) (up M' c k w) := by
  obtain ⟨f1, f2⟩ := f
  refine ⟨fun i i0 i7 => ?_, fun j hj => ?_⟩
  · have fi := f1 i i0 i7
    by_cases e : i = c
    · subst e
      funext j
      have ej := congrFun fi j
      by_cases g : j = k
      · rw [g, up_eq, up_eq]
      · rw [up_sl g] at ej ⊢
        rw [up_sl g]; exact ej
    · rw [up_fr e] at fi ⊢
      rw [up_fr e]; exact fi
  · have := f2 j hj
    rw [up_fr (fun z => hc.1 z.symm)] at this ⊢
    rw [up_fr (fun z => hc.1 z.symm)]; exact this
theorem CO.put {M : Mem} {n : Nat} {kf ff : Nat → Int} (h : CO M 36 n kf ff) {y : Nat} {k : Int} (hk : 0 ≤ k ∧ k ≤ 5) : CO (up M 38 y k) 36 n (upn kf y k) ff := by
  obtain ⟨c0, c1, c2⟩ := h
  refine ⟨by rw [up_fr (by omega)]; exact c0, c1, fun z hz => ?_⟩
  obtain ⟨a1, a2, a3, a4⟩ := c2 z hz
  refine ⟨up_upn a1, by rw [up_fr (by omega)]; exact a2, ?_, a4⟩
  unfold upn
  split
  · exact hk
  · exact a3
abbrev fWo (F : FS) (p : Nat) (h pace : Int) : Nat → RS := fun n => sRace (setGr F (20 * (ln F).toNat + n) 0 (lf F (ln F).toNat n)) (ln F).toNat p h pace
theorem race_gr {F : FS} {lane p y : Nat} {h pace : Int} : sRace (setGr F (20 * lane + y) 0 (lf F lane y)) lane p h pace = sRun (upn (lk F lane) y 0) (lf F lane) (ar F p) (hv F p) (hd F p) h pace (some (ar F p, 0, 0, 0)) (yd F).toNat := by
  have e1 : lk (setGr F (20 * lane + y) 0 (lf F lane y)) lane = upn (lk F lane) y 0 := by
    funext j
    show upn (kd F) (20 * lane + y) 0 (20 * lane + j) = upn (lk F lane) y 0 j
    unfold upn
    by_cases e : j = y
    · rw [if_pos (by omega), if_pos e]
    · rw [if_neg (by omega), if_neg e]; rfl
  have e2 : lf (setGr F (20 * lane + y) 0 (lf F lane y)) lane = lf F lane := by
    funext j
    show upn (fg F) (20 * lane + y) (lf F lane y) (20 * lane + j) = lf F lane j
    unfold upn
    by_cases e : 20 * lane + j = 20 * lane + y
    · rw [if_pos e, show j = y by omega]
    · rw [if_neg e]; rfl
  show sRun (lk (setGr F (20 * lane + y) 0 (lf F lane y)) lane) (lf (setGr F (20 * lane + y) 0 (lf F lane y)) lane) (ar F p) (hv F p) (hd F p) h pace (some (ar F p, 0, 0, 0)) (yd F).toNat = _
  rw [e1, e2]
theorem fWo_ok {F : FS} (hF : FOK F) {y : Nat} (hy : y < 20) : FOK (setGr F (20 * (ln F).toNat + y) 0 (lf F (ln F).toNat y)) := hF.gr ⟨by omega, (hF.K (hln hF) hy).2⟩
theorem TB_fWo {F : FS} (hF : FOK F) {p : Nat} (hp : p < 6) {h pace : Int} (hb : BOK h pace) {y : Nat} (hy : y < 20) : TB (fWo F p h pace y) := TB_race (fWo_ok hF hy) (hln hF) hp hb
theorem L_woC {S : ST} (hF : FOK (sF S)) {p : Nat} (hp : p < 6) {h pace : Int} (hb : BOK h pace) {s0 : RS} (hs0 : TB s0) : ∀ (k n : Nat) (M : Mem), n + k = (yd (sF S)).toNat → RC S M → CO M 36 (yd (sF S)).toNat (lk (sF S) (ln (sF S)).toNat) (lf (sF S) (ln (sF S)).toNat) →
    TA i9_worst 37 [some (vr 0), some (vi (p : Int)), some (vi h), some (vi pace), none, some (vi (bestN (fWo (sF S) p h pace) vId s0 n).1), some (vi (tvC (bestN (fWo (sF S) p h pace) vId s0 n).2)), some (vi (n : Int)), none, none] [] (LC, M) (CP S (bestN (fWo (sF S) p h pace) vId s0 (yd (sF S)).toNat).1)
  | 0, n, M, hn, hM, hC => by
    obtain ⟨hy1, hy2⟩ := hF.1
    have e : n = (yd (sF S)).toNat := by omega
    subst e
    refine W9_worst_37 ⟨fun z => ?_, fun _ => ⟨M, rfl, rfl, hM⟩⟩
    rw [hC.1, wlt (by omega) (by omega) (by omega) (by omega)] at z; omega
  | k + 1, n, M, hn, hM, hC => by
    obtain ⟨hy1, hy2⟩ := hF.1
    obtain ⟨pa, ph, pd⟩ := hF.P hp
    have t1 := TB_fWo hF hp hb (y := n) (by omega)
    have t2 : TB (bestN (fWo (sF S) p h pace) vId s0 n).2 := TB_best hs0 (m := n) (fun j hj => TB_fWo hF hp hb (by omega)) n (by omega)
    have en : ((n + 1 : Nat) : Int) = (n : Int) + 1 := by omega
    have n2 : ((n : Int)).toNat = n := by omega
    have ek : rd M 38 20 (n : Int) = lk (sF S) (ln (sF S)).toNat n := by
      rw [rd_in (by omega) (by omega) (by omega), n2]
      exact (hC.2.2 n (by omega)).1
    have hK := (hF.K (lane := (ln (sF S)).toNat) (y := n) (hln hF) (by omega)).1
    have hX : FrC M (up M 38 n 0) := fun i hi => up_fr (by omega)
    refine W9_worst_37 ⟨fun _ => ⟨wb0, ?_⟩, fun z => ?_⟩
    · rw [ek, wt_in (by omega) (by omega) (by omega), n2, starts_eq (hM.fr hX).1 hp]
      refine T_overA (hC.put (y := n) (k := 0) (by omega)) pa ph pd hb (fun M1 f1 _ => ?_)
      rw [← race_gr]
      have hM2 : RC S (up M1 38 n (lk (sF S) (ln (sF S)).toNat n)) := hM.fr (fun i hi => by rw [up_fr (by omega), f1 i (by omega), up_fr (by omega)])
      have hC2 : CO (up M1 38 n (lk (sF S) (ln (sF S)).toNat n)) 36 (yd (sF S)).toNat (lk (sF S) (ln (sF S)).toNat) (lf (sF S) (ln (sF S)).toNat) := by
        have := ((hC.put (y := n) (k := 0) (by omega)).fr f1).put (y := n) (k := lk (sF S) (ln (sF S)).toNat n) hK
        rw [upn_upn rfl] at this
        exact this
      rw [wt_in (by omega) (by omega) (by omega), n2]
      have ih := L_woC hF hp hb hs0 k (n + 1) _ (by omega) hM2 hC2
      rw [en] at ih
      refine ⟨fun z => ?_, fun z => ?_⟩
      · rw [best_lt ((tlC t1 t2).1 z)] at ih; exact ih
      · rw [best_ge (fun y => z ((tlC t1 t2).2 y))] at ih; exact ih
    · rw [hC.1, wlt (by omega) (by omega) (by omega) (by omega)] at z; omega
theorem RMf.gr0 {F : FS} {M : Mem} (hR : RMf F M) {i : Nat} (hi : i < 40) : RMf (setGr F i 0 (fg F i)) (up M 1 i 0) := by
  have h := hR.gr (i := i) (k := 0) (f := fg F i)
  rw [up_idv (M := up M 1 i 0) (a := 2) (by rw [up_fr (by omega)]; exact hR.2.2.2.2.1 i hi)] at h
  exact h
theorem L_woM {S : ST} (hF : FOK (sF S)) {p : Nat} (hp : p < 6) {h pace : Int} (hb : BOK h pace) {s0 : RS} (hs0 : TB s0) {q : Option Nat} : ∀ (k n : Nat) (M : Mem), n + k = (yd (sF S)).toNat → RM S M →
    TA i10_worst 52 [some (vr 0), some (vi (p : Int)), some (vi h), some (vi pace), none, some (vi (bestN (fWo (sF S) p h pace) vId s0 n).1), some (vi (tvM (bestN (fWo (sF S) p h pace) vId s0 n).2)), some (vi (n : Int)), none, none] [] (LM q, M) (MP S (bestN (fWo (sF S) p h pace) vId s0 (yd (sF S)).toNat).1)
  | 0, n, M, hn, hM => by
    obtain ⟨hy1, hy2⟩ := hF.1
    have e : n = (yd (sF S)).toNat := by omega
    subst e
    refine W10_worst_52 ⟨fun z => ?_, fun _ => ⟨q, M, rfl, rfl, hM⟩⟩
    rw [hM.1.1, wlt (by omega) (by omega) (by omega) (by omega)] at z; omega
  | k + 1, n, M, hn, hM => by
    obtain ⟨hy1, hy2⟩ := hF.1
    obtain ⟨hl1, hl2⟩ := hF.2.1
    have t1 := TB_fWo hF hp hb (y := n) (by omega)
    have t2 : TB (bestN (fWo (sF S) p h pace) vId s0 n).2 := TB_best hs0 (m := n) (fun j hj => TB_fWo hF hp hb (by omega)) n (by omega)
    have en : ((n + 1 : Nat) : Int) = (n : Int) + 1 := by omega
    have e20 : wr (20 * ln (sF S) + (n : Int)) = 20 * ln (sF S) + (n : Int) := wr_id (by omega) (by omega)
    have n20 : (20 * ln (sF S) + (n : Int)).toNat = 20 * (ln (sF S)).toNat + n := by omega
    refine W10_worst_52 ⟨fun _ => ?_, fun z => ?_⟩
    · rw [hM.1.2.1, e20, n20]
      refine ⟨by omega, by omega, ?_⟩
      have hl2' : (ln (setGr (sF S) (20 * (ln (sF S)).toNat + n) 0 (lf (sF S) (ln (sF S)).toNat n))).toNat = (ln (sF S)).toNat := rfl
      refine T_plainRun (fWo_ok hF (y := n) (by omega)) hb hp (hM.1.gr0 (by omega)) (fun M1 hL => ?_)
      rw [hl2']
      have hf1 := hL.1
      have e3 : M1 0 3 = ln (sF S) := by rw [hf1.2 3 (by omega), up_fr (by omega)]; exact hM.1.2.1
      rw [e3, e20, n20]
      have hM2 : RM S (up M1 1 (20 * (ln (sF S)).toNat + n) (M 1 (20 * (ln (sF S)).toNat + n))) := by
        have f2 := FrR.re1 (w := M 1 (20 * (ln (sF S)).toNat + n)) (by omega) hf1
        rw [up_id] at f2
        exact hM.fr f2.q
      refine ⟨by omega, W10_worst_134 (W10_worst_150 ?_)⟩
      have ih := L_woM hF hp hb hs0 (q := q) k (n + 1) _ (by omega) hM2
      rw [en, ← best_1, ← best_2] at ih
      simp only [← tlM t1 t2] at ih
      exact ih
    · rw [hM.1.1, wlt (by omega) (by omega) (by omega) (by omega)] at z; omega
theorem SIM_worst {a h p : Int} (ia : IR a) (ih : IR h) (ip : IR p) : SIM i9_worst 10 i10_worst 10 [vi a, vi h, vi p] := by
  intro S hS
  have hF := hS.1
  have hy := hF.1
  have c1 := sOne_le (sF S) a h p
  have k1 : ∀ M, RC S M → f9_badOne M a h p = sOne (sF S) a h p := fun M hM => badOne_eq hF hM.1 ia ih ip
  have k2 : ∀ M, RM S M → (if wr (f10_isOne (up M 0 8 0) a) = 0 then (-1) else f10_wrongBy h p) = sOne (sF S) a h p := fun M hM => one_eq hF hM.thr.1 ia ih ip
  by_cases e : sOne (sF S) a h p = 0
  · obtain ⟨ha, hB⟩ := sOne_ok e
    obtain ⟨n, hn6, rfl, hnp⟩ := ha.n hF
    have t0 := TB_race hF (hln hF) hn6 hB
    refine ⟨(bestN (fWo (sF S) n h p) vId (sRace (sF S) (ln (sF S)).toNat n h p) (yd (sF S)).toNat).1, S, hS, fun M hM => W9_worst_0 ⟨fun _ => T_timeOf hF hM.1 hn6 hB (fun M1 hL => ?_), fun z => ?_⟩, fun q M hM => W10_worst_0 ⟨isOne_01 hF hM.1 ia, ?_⟩⟩
    · exact L_woC hF hn6 hB t0 (yd (sF S)).toNat 0 M1 (by omega) (hM.fr hL.C) hL.2.1
    · rw [k1 M hM, e] at z; exact absurd wr0 z
    · rw [k2 M hM, e]
      refine W10_worst_22 ⟨fun z => ?_, fun _ => T_plainRun hF hB hn6 hM.thr.1 (fun M' hL => ?_)⟩
      · rw [wr0] at z; omega
      · exact L_woM hF hn6 hB t0 (yd (sF S)).toNat 0 M' (by omega) (hM.thr.fr hL.1.q)
  · refine ⟨sOne (sF S) a h p, sRef S (sOne (sF S) a h p), hS.ref _, fun M hM => W9_worst_0 ⟨fun z => ?_, fun _ => ?_⟩, fun q M hM => W10_worst_0 ⟨isOne_01 hF hM.1 ia, ?_⟩⟩
    · rw [k1 M hM, wr_id (by omega) (by omega)] at z; exact absurd z e
    · rw [k1 M hM]; exact C_ref hM (by omega)
    · rw [k2 M hM]
      refine W10_worst_22 ⟨fun _ => ⟨by rw [wr_id (by omega) (by omega)]; omega, M_ref hM.thr (by omega)⟩, fun z => ?_⟩
      rw [wr_id (by omega) (by omega)] at z; omega
/-- rain on the first n yards -/
def kRn (kf : Nat → Int) (n : Nat) : Nat → Int := fun j => if j < n ∧ kf j = 0 then 3 else kf j
theorem kRn_0 {kf : Nat → Int} : kRn kf 0 = kf := by
  funext j
  unfold kRn
  rw [if_neg (by omega)]
theorem kRn_p {kf : Nat → Int} {n : Nat} (h : kf n = 0) : kRn kf (n + 1) = upn (kRn kf n) n 3 := by
  funext j
  unfold kRn upn
  by_cases e : j = n
  · rw [if_pos e, if_pos ⟨by omega, by rw [e]; exact h⟩]
  · rw [if_neg e]
    show (if j < n + 1 ∧ kf j = 0 then 3 else kf j) = if j < n ∧ kf j = 0 then 3 else kf j
    by_cases g : j < n ∧ kf j = 0
    · rw [if_pos g, if_pos ⟨by omega, g.2⟩]
    · rw [if_neg g, if_neg (fun z => g ⟨by omega, z.2⟩)]
theorem kRn_n {kf : Nat → Int} {n : Nat} (h : ¬ kf n = 0) : kRn kf (n + 1) = kRn kf n := by
  funext j
  unfold kRn
  by_cases e : j = n
  · rw [if_neg (fun z => h (by rw [← e]; exact z.2)), if_neg (by omega)]
  · by_cases g : j < n ∧ kf j = 0
    · rw [if_pos g, if_pos ⟨by omega, g.2⟩]
    · rw [if_neg g, if_neg (fun z => g ⟨by omega, z.2⟩)]
def rainF (F : FS) (n : Nat) : FS := (yd F, ln F, pn F, fun i => if 20 * (ln F).toNat ≤ i ∧ i < 20 * (ln F).toNat + n ∧ kd F i = 0 then 3 else kd F i, fg F, ar F, hv F, hd F)
theorem FOK.rain {F : FS} (hF : FOK F) (n : Nat) : FOK (rainF F n) := by
  obtain ⟨h1, h2, h3, h4, h5, h6⟩ := hF
  refine ⟨h1, h2, h3, fun i hi => ?_, h5, h6⟩
  show 0 ≤ (if 20 * (ln F).toNat ≤ i ∧ i < 20 * (ln F).toNat + n ∧ kd F i = 0 then 3 else kd F i) ∧ (if 20 * (ln F).toNat ≤ i ∧ i < 20 * (ln F).toNat + n ∧ kd F i = 0 then 3 else kd F i) ≤ 5
  split
  · omega
  · exact h4 i hi
theorem lk_rain {F : FS} {n : Nat} : lk (rainF F n) (ln F).toNat = kRn (lk F (ln F).toNat) n := by
  funext j
  show (if 20 * (ln F).toNat ≤ 20 * (ln F).toNat + j ∧ 20 * (ln F).toNat + j < 20 * (ln F).toNat + n ∧ kd F (20 * (ln F).toNat + j) = 0 then 3 else kd F (20 * (ln F).toNat + j)) = if j < n ∧ kd F (20 * (ln F).toNat + j) = 0 then 3 else kd F (20 * (ln F).toNat + j)
  by_cases g : j < n ∧ kd F (20 * (ln F).toNat + j) = 0
  · rw [if_pos g, if_pos ⟨by omega, by omega, g.2⟩]
  · rw [if_neg g, if_neg (fun z => g ⟨by omega, z.2.2⟩)]
abbrev rRain (F : FS) (p : Nat) (h pace : Int) : RS := sRace (rainF F (yd F).toNat) (ln F).toNat p h pace
theorem race_rain {F : FS} {p : Nat} {h pace : Int} : sRun (kRn (lk F (ln F).toNat) (yd F).toNat) (lf F (ln F).toNat) (ar F p) (hv F p) (hd F p) h pace (some (ar F p, 0, 0, 0)) (yd F).toNat = rRain F p h pace := by
  show _ = sRun (lk (rainF F (yd F).toNat) (ln F).toNat) (lf F (ln F).toNat) (ar F p) (hv F p) (hd F p) h pace (some (ar F p, 0, 0, 0)) (yd F).toNat
  rw [lk_rain]
theorem L_rainC {S : ST} (hF : FOK (sF S)) {p : Nat} (hp : p < 6) {h pace : Int} (hb : BOK h pace) {s0 : RS} (hs0 : TB s0) : ∀ (k n : Nat) (M : Mem), n + k = (yd (sF S)).toNat → RC S M → CO M 36 (yd (sF S)).toNat (kRn (lk (sF S) (ln (sF S)).toNat) n) (lf (sF S) (ln (sF S)).toNat) →
    TA i9_rain 37 [some (vr 0), some (vi (p : Int)), some (vi h), some (vi pace), none, some (vi (tvC s0)), some (vi (n : Int))] [] (LC, M) (CP S (sLater s0 (rRain (sF S) p h pace)))
  | 0, n, M, hn, hM, hC => by
    obtain ⟨hy1, hy2⟩ := hF.1
    obtain ⟨pa, ph, pd⟩ := hF.P hp
    have e : n = (yd (sF S)).toNat := by omega
    subst e
    have tb : TB (rRain (sF S) p h pace) := TB_race (hF.rain _) (hln hF) hp hb
    refine W9_rain_37 ⟨fun z => ?_, fun _ => ⟨wb0, ?_⟩⟩
    · rw [hC.1, wlt (by omega) (by omega) (by omega) (by omega)] at z; omega
    · rw [starts_eq hM.1 hp]
      refine T_overA hC pa ph pd hb (fun M1 f1 _ => ⟨M1, ?_, rfl, hM.fr (FrC.of41 f1)⟩)
      rw [race_rain, laterC hs0 tb]
  | k + 1, n, M, hn, hM, hC => by
    obtain ⟨hy1, hy2⟩ := hF.1
    have en : ((n + 1 : Nat) : Int) = (n : Int) + 1 := by omega
    have n2 : ((n : Int)).toNat = n := by omega
    have hK := (hF.K (lane := (ln (sF S)).toNat) (y := n) (hln hF) (by omega)).1
    have ek : rd M 38 20 (n : Int) = lk (sF S) (ln (sF S)).toNat n := by
      rw [rd_in (by omega) (by omega) (by omega), n2]
      rw [show M 38 n = _ from (hC.2.2 n (by omega)).1]
      unfold kRn
      rw [if_neg (by omega)]
    refine W9_rain_37 ⟨fun _ => ?_, fun z => ?_⟩
    · rw [ek, wr_id (by omega) (by omega), wt_in (by omega) (by omega) (by omega), n2]
      refine ⟨fun z => ?_, fun z => ?_⟩
      · have ih := L_rainC hF hp hb hs0 k (n + 1) (up M 38 n 3) (by omega) (hM.fr (fun i hi => up_fr (by omega))) (by rw [kRn_p z]; exact hC.put (by omega))
        rw [en] at ih; exact ih
      · have ih := L_rainC hF hp hb hs0 k (n + 1) M (by omega) hM (by rw [kRn_n z]; exact hC)
        rw [en] at ih; exact ih
    · rw [hC.1, wlt (by omega) (by omega) (by omega) (by omega)] at z; omega
theorem RM.x {S : ST} {M0 M : Mem} (h : RM S M0) (f1 : ∀ i, (i = 6 ∨ i = 8 ∨ i = 13 ∨ i = 14 ∨ i = 24) → M i = M0 i) (f2 : ∀ j, (j = 21 ∨ j = 30 ∨ j = 36 ∨ j = 48) → M 0 j = M0 0 j) (hR : RMf (sF S) M) : RM S M := by
  have := h.chF (F' := sF S) (T' := sT S) (fun i hi => f1 i (by omega)) (fun j hj => f2 j (by omega)) hR (by rw [f2 36 (by omega)]; exact h.2.2.2.2.2.1) (by rw [f1 14 (by omega)]; exact h.2.2.2.2.2.2)
  exact this
theorem L_rainM {S : ST} (hF : FOK (sF S)) {p : Nat} (hp : p < 6) {h pace : Int} (hb : BOK h pace) {s0 : RS} (hs0 : TB s0) {M0 : Mem} (hM0 : RM S M0) : ∀ (k n : Nat) (M : Mem), n + k = (yd (sF S)).toNat → RMf (rainF (sF S) n) M → Snap (sF S) (M 12) 0 → (∀ i, (i = 6 ∨ i = 8 ∨ i = 13 ∨ i = 14 ∨ i = 24) → M i = M0 i) → (∀ j, (j = 21 ∨ j = 30 ∨ j = 36 ∨ j = 48) → M 0 j = M0 0 j) →
    TA i10_rain 61 [some (vr 0), some (vi (p : Int)), some (vi h), some (vi pace), none, some (vi (tvM s0)), some (vi (n : Int)), none] [] (LM (some 12), M) (MP S (sLater s0 (rRain (sF S) p h pace)))
  | 0, n, M, hn, hR, hS, f1, f2 => by
    obtain ⟨hy1, hy2⟩ := hF.1
    have e : n = (yd (sF S)).toNat := by omega
    subst e
    have tb : TB (rRain (sF S) p h pace) := TB_race (hF.rain _) (hln hF) hp hb
    have e2 : M 0 2 = yd (sF S) := hR.1
    refine W10_rain_61 ⟨fun z => ?_, fun _ => T_plainRun (hF.rain _) hb hp hR (fun M1 hL => T_put_12 (G := sF S) (by rw [hL.1.1 12 (by omega) (by omega)]; exact hS) (fun M2 g1 g2 r2 => W10_rain_159 ⟨_, M2, ?_, rfl, hM0.x (fun i hi => ?_) (fun j hj => ?_) r2⟩))⟩
    · rw [e2, wlt (by omega) (by omega) (by omega) (by omega)] at z; omega
    · exact congrArg (fun x => some (vi x)) (laterM hs0 tb)
    · rw [g1 i (by omega), hL.1.1 i (by omega) (by omega)]; exact f1 i hi
    · rw [g2 j (by omega) (by omega) (by omega) (by omega) (by omega), hL.1.2 j (by omega)]; exact f2 j hj
  | k + 1, n, M, hn, hR, hS, f1, f2 => by
    obtain ⟨hy1, hy2⟩ := hF.1
    obtain ⟨hl1, hl2⟩ := hF.2.1
    have en : ((n + 1 : Nat) : Int) = (n : Int) + 1 := by omega
    have e2 : M 0 2 = yd (sF S) := hR.1
    have e3 : M 0 3 = ln (sF S) := hR.2.1
    have e20 : wr (20 * ln (sF S) + (n : Int)) = 20 * ln (sF S) + (n : Int) := wr_id (by omega) (by omega)
    have n20 : (20 * ln (sF S) + (n : Int)).toNat = 20 * (ln (sF S)).toNat + n := by omega
    have hK := hF.2.2.2.1 (20 * (ln (sF S)).toNat + n) (by omega)
    have ek : M 1 (20 * (ln (sF S)).toNat + n) = kd (sF S) (20 * (ln (sF S)).toNat + n) := by
      rw [hR.2.2.2.1 _ (by omega)]
      show (if 20 * (ln (sF S)).toNat ≤ 20 * (ln (sF S)).toNat + n ∧ 20 * (ln (sF S)).toNat + n < 20 * (ln (sF S)).toNat + n ∧ kd (sF S) (20 * (ln (sF S)).toNat + n) = 0 then (3 : Int) else kd (sF S) (20 * (ln (sF S)).toNat + n)) = _
      rw [if_neg (by omega)]
    have nxt : ∀ v : Int, v = (if kd (sF S) (20 * (ln (sF S)).toNat + n) = 0 then 3 else kd (sF S) (20 * (ln (sF S)).toNat + n)) → RMf (rainF (sF S) (n + 1)) (up M 1 (20 * (ln (sF S)).toNat + n) v) := by
      intro v hv
      obtain ⟨h1, h2, h3, h4, h5, h6⟩ := hR
      refine ⟨by rw [up_fr (by omega)]; exact h1, by rw [up_fr (by omega)]; exact h2, by rw [up_fr (by omega)]; exact h3, fun j hj => ?_, by rw [up_fr (by omega)]; exact h5, by rw [up_fr (by omega), up_fr (by omega), up_fr (by omega)]; exact h6⟩
      show _ = if 20 * (ln (sF S)).toNat ≤ j ∧ j < 20 * (ln (sF S)).toNat + (n + 1) ∧ kd (sF S) j = 0 then 3 else kd (sF S) j
      by_cases g : j = 20 * (ln (sF S)).toNat + n
      · rw [g, up_eq, hv]
        by_cases g2 : kd (sF S) (20 * (ln (sF S)).toNat + n) = 0
        · rw [if_pos g2, if_pos ⟨by omega, by omega, g2⟩]
        · rw [if_neg g2, if_neg (fun z => g2 z.2.2)]
      · rw [up_sl g, h4 j hj]
        show (if 20 * (ln (sF S)).toNat ≤ j ∧ j < 20 * (ln (sF S)).toNat + n ∧ kd (sF S) j = 0 then 3 else kd (sF S) j) = _
        by_cases g2 : 20 * (ln (sF S)).toNat ≤ j ∧ j < 20 * (ln (sF S)).toNat + n ∧ kd (sF S) j = 0
        · rw [if_pos g2, if_pos ⟨g2.1, by omega, g2.2.2⟩]
        · rw [if_neg g2, if_neg (fun z => g2 ⟨z.1, by omega, z.2.2⟩)]
    have go : ∀ v : Int, v = (if kd (sF S) (20 * (ln (sF S)).toNat + n) = 0 then 3 else kd (sF S) (20 * (ln (sF S)).toNat + n)) → TA i10_rain 61 [some (vr 0), some (vi (p : Int)), some (vi h), some (vi pace), none, some (vi (tvM s0)), some (vi ((n : Int) + 1)), none] [] (LM (some 12), up M 1 (20 * (ln (sF S)).toNat + n) v) (MP S (sLater s0 (rRain (sF S) p h pace))) := by
      intro v hv
      have ih := L_rainM hF hp hb hs0 hM0 k (n + 1) (up M 1 (20 * (ln (sF S)).toNat + n) v) (by omega) (nxt v hv) (by rw [up_fr (by omega)]; exact hS) (fun i hi => by rw [up_fr (by omega)]; exact f1 i hi) (fun j hj => by rw [up_fr (by omega)]; exact f2 j hj)
      rw [en] at ih; exact ih
    refine W10_rain_61 ⟨fun _ => ?_, fun z => ?_⟩
    · rw [e3, e20, n20, ek, wr_id (x := kd (sF S) (20 * (ln (sF S)).toNat + n)) (by omega) (by omega)]
      refine ⟨by omega, fun z => ⟨by omega, go 3 (by rw [if_pos z])⟩, fun z => ⟨by omega, by omega, go _ (by rw [if_neg z])⟩⟩
    · rw [e2, wlt (by omega) (by omega) (by omega) (by omega)] at z; omega
theorem SIM_rain {a h p : Int} (ia : IR a) (ih : IR h) (ip : IR p) : SIM i9_rain 7 i10_rain 8 [vi a, vi h, vi p] := by
  intro S hS
  have hF := hS.1
  have hy := hF.1
  have c1 := sOne_le (sF S) a h p
  have k1 : ∀ M, RC S M → f9_badOne M a h p = sOne (sF S) a h p := fun M hM => badOne_eq hF hM.1 ia ih ip
  have k2 : ∀ M, RM S M → (if wr (f10_isOne (up M 0 8 0) a) = 0 then (-1) else f10_wrongBy h p) = sOne (sF S) a h p := fun M hM => one_eq hF hM.thr.1 ia ih ip
  by_cases e : sOne (sF S) a h p = 0
  · obtain ⟨ha, hB⟩ := sOne_ok e
    obtain ⟨n, hn6, rfl, hnp⟩ := ha.n hF
    have t0 := TB_race hF (hln hF) hn6 hB
    refine ⟨sLater (sRace (sF S) (ln (sF S)).toNat n h p) (rRain (sF S) n h p), S, hS, fun M hM => W9_rain_0 ⟨fun _ => T_timeOf hF hM.1 hn6 hB (fun M1 hL => ?_), fun z => ?_⟩, fun q M hM => W10_rain_0 ⟨isOne_01 hF hM.1 ia, ?_⟩⟩
    · exact L_rainC hF hn6 hB t0 (yd (sF S)).toNat 0 M1 (by omega) (hM.fr hL.C) (by rw [kRn_0]; exact hL.2.1)
    · rw [k1 M hM, e] at z; exact absurd wr0 z
    · rw [k2 M hM, e]
      refine W10_rain_22 ⟨fun z => ?_, fun _ => T_plainRun hF hB hn6 hM.thr.1 (fun M1 hL => T_take_12 (fun M2 hk => ?_))⟩
      · rw [wr0] at z; omega
      · have hM1 := hM.thr.fr hL.1.q
        obtain ⟨g1, g2, -, -, g5⟩ := hk
        have hR2 : RMf (sF S) M2 := hM1.1.fr (fun i a b => g1 i (by omega) (by omega)) (fun j a b => g2 j (by omega) (by omega))
        refine L_rainM hF hn6 hB t0 hM1 (yd (sF S)).toNat 0 M2 (by omega) ?_ (snap_reg hM1.1 g5) (fun i hi => g1 i (by omega) (by omega)) (fun j hj => g2 j (by omega) (by omega))
        obtain ⟨h1, h2, h3, h4, h5, h6⟩ := hR2
        refine ⟨h1, h2, h3, fun j hj => ?_, h5, h6⟩
        show _ = if 20 * (ln (sF S)).toNat ≤ j ∧ j < 20 * (ln (sF S)).toNat + 0 ∧ kd (sF S) j = 0 then 3 else kd (sF S) j
        rw [if_neg (by omega)]; exact h4 j hj
  · refine ⟨1000000000 - sOne (sF S) a h p, sRef S (sOne (sF S) a h p), hS.ref _, fun M hM => W9_rain_0 ⟨fun z => ?_, fun _ => ?_⟩, fun q M hM => W10_rain_0 ⟨isOne_01 hF hM.1 ia, ?_⟩⟩
    · rw [k1 M hM, wr_id (by omega) (by omega)] at z; exact absurd z e
    · rw [k1 M hM]; exact ⟨_, rfl, rfl, C_ref2 hM (by omega)⟩
    · rw [k2 M hM]
      refine W10_rain_22 ⟨fun _ => ⟨by rw [wr_id (by omega) (by omega)]; omega, q, _, rfl, rfl, M_ref2 (q := q) hM.thr (by omega)⟩, fun z => ?_⟩
      rw [wr_id (by omega) (by omega)] at z; omega

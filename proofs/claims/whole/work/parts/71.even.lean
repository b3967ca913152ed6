/-! even: both sides answer alike -/
theorem best_in {f : Nat → RS} {v : Nat → Int} {m : Nat} (hT : ∀ j, j < m → TB (f j)) : ∀ n, n ≤ m → ((bestN f v none n).1 = -9 ∧ (bestN f v none n).2 = none) ∨ ∃ j, j < n ∧ (bestN f v none n).1 = v j ∧ (bestN f v none n).2 = f j ∧ f j ≠ none
  | 0, _ => Or.inl ⟨rfl, rfl⟩
  | n + 1, hn => by
    by_cases g : tvM (f n) < tvM (bestN f v none n).2
    · rw [best_lt g]
      refine Or.inr ⟨n, by omega, rfl, rfl, fun c => ?_⟩
      have := tvM_le (TB_best (v := v) TB_no hT n (by omega))
      rw [c] at g
      have g' : (9999999 : Int) < tvM (bestN f v none n).2 := g
      omega
    · rw [best_ge g]
      rcases best_in hT n (by omega) with h | ⟨j, h1, h2⟩
      · exact Or.inl h
      · exact Or.inr ⟨j, by omega, h2⟩
theorem run_need {kf ff : Nat → Int} {a h d hold pace : Int} {s : RS} : ∀ n, sRun kf ff a h d hold pace s n ≠ none → ∀ y, y < n → sLoad (kf y) (ff y) h hold + pace ≤ a
  | 0, _, y, hy => absurd hy (Nat.not_lt_zero _)
  | n + 1, hs, y, hy => by
    have e : sRun kf ff a h d hold pace s (n + 1) = sStep (kf n) (ff n) a h d hold pace (sRun kf ff a h d hold pace s n) := rfl
    have h1 : sRun kf ff a h d hold pace s n ≠ none := by
      intro c; rw [e, c] at hs; exact hs rfl
    by_cases g : y = n
    · rw [g]
      apply Classical.byContradiction
      intro c
      apply hs
      rw [e]
      cases hz : sRun kf ff a h d hold pace s n with
      | none => rfl
      | some z =>
        obtain ⟨l, t, u, r⟩ := z
        simp only [sStep]
        rw [if_pos (by omega)]
    · exact run_need n h1 y (by omega)
theorem gv_le {Y : YD} {X : Int → Int} {L : Int} : ∀ (n : Nat) (p r : Int), p ≤ r → r < p + (n : Int) → gvF Y X L n p ≤ tvl Y X L r
  | 0, p, r, h1, h2 => by omega
  | n + 1, p, r, h1, h2 => by
    rw [gv_s]
    by_cases g : r = p
    · rw [g]; omega
    · have := gv_le (Y := Y) (X := X) (L := L) n (p + 1) r (by omega) (by omega)
      omega
theorem wv_fin {Y : YD} {X : Int → Int} {a : Int} (hY : YOK Y a) (hX : ∀ L, 0 ≤ L → L ≤ a → VB 4000 (X L)) (hg : gvl Y X a < 9999999) (ha : a ≤ 60) : ∀ (n : Nat) (L : Int), n ≤ 6 → L ≤ a → (60 - 10 * (n : Int) ≤ L ∨ L = a) → wvF Y X a n L < 9999999
  | 0, L, _, h1, h2 => by
    have : L = a := by omega
    rw [this]; exact hg
  | n + 1, L, hn, h1, h2 => by
    by_cases g : L < a
    · rw [wv_y g]
      have ih := wv_fin hY hX hg ha n (min (L + 10) a) (by omega) (by omega) (by omega)
      have hb := VB_wv hY hX n (min (L + 10) a) (by omega)
      unfold VB at hb
      rw [adN_f (by omega)]; omega
    · rw [wv_n g, show L = a by omega]; exact hg
theorem WW_fin {yd : Nat → YD} {a : Int} {n : Nat} (hn : n ≤ 20) (ha : 0 ≤ a ∧ a ≤ 60) (hY : ∀ y, y < n → YOK (yd y) a) {p : Int} (hp : 1 ≤ p ∧ p ≤ 9) (hnd : ∀ y, y < n → (yd y).1 p ≤ a) : ∀ (k : Nat), k ≤ n → ∀ L, 0 ≤ L → L ≤ a → WW yd a n k L < 9999999
  | 0, _, L, _, _ => by show (0 : Int) < 9999999; omega
  | k + 1, hk, L, h0, hL => by
    have hy : n - (k + 1) < n := by omega
    have hX : ∀ L', 0 ≤ L' → L' ≤ a → VB 4000 (WW yd a n k L') := fun L' _ h2 => VB.mono (WW_b hY k (by omega) L' h2) (by omega)
    refine wv_fin (hY _ hy) hX ?_ ha.2 6 L (Nat.le_refl _) hL (by omega)
    have e := gv_le (Y := yd (n - (k + 1))) (X := WW yd a n k) (L := a) 9 1 p (by omega) (by omega)
    have nd := hnd _ hy
    obtain ⟨y1, y2, y3, y4⟩ := hY _ hy p hp.1 hp.2
    have y5 := y4 a nd (Int.le_refl _)
    have ih := WW_fin hn ha hY hp hnd k (by omega) _ y5.1 y5.2
    have hb := hX _ y5.1 y5.2
    unfold VB at hb
    rw [tvl_f (by omega), adN_f (by omega)] at e
    show gvF (yd (n - (k + 1))) (WW yd a n k) a 9 1 < 9999999
    omega
theorem soon_fin {S : ST} (hF : FOK (sF S)) {p : Nat} (hp : p < 6) {h pace : Int} (hb : BOK h pace) (hs : sRace (sF S) (ln (sF S)).toNat p h pace ≠ none) : 0 ≤ sWW S p h ∧ sWW S p h ≤ 4000 := by
  have hy := hF.1
  obtain ⟨pa, ph, pd⟩ := hF.P hp
  have hP : PB (ar (sF S) p) (hv (sF S) p) (hd (sF S) p) h := ⟨pa, ph, pd, hb.1⟩
  have hY : ∀ y, y < (yd (sF S)).toNat → YOK (sYd S p h y) (ar (sF S) p) := fun y hy => yDc_ok (hF.K (hln hF) (by omega)) hP
  have nd : ∀ y, y < (yd (sF S)).toNat → (sYd S p h y).1 pace ≤ ar (sF S) p := fun y hy => run_need (yd (sF S)).toNat hs y hy
  have f := WW_fin (yd := sYd S p h) (by omega) pa hY hb.2 nd (yd (sF S)).toNat (Nat.le_refl _) (ar (sF S) p) pa.1 (Int.le_refl _)
  have b := WW_b hY (yd (sF S)).toNat (Nat.le_refl _) (ar (sF S) p) (Int.le_refl _)
  unfold VB at b
  show 0 ≤ WW (sYd S p h) (ar (sF S) p) (yd (sF S)).toNat (yd (sF S)).toNat (ar (sF S) p) ∧ WW (sYd S p h) (ar (sF S) p) (yd (sF S)).toNat (yd (sF S)).toNat (ar (sF S) p) ≤ 4000
  omega
def evA (w u v : Int) : Int := if w = 0 then (if 0 < u - v then 0 else 1) else u - v
theorem L_evC {S : ST} (hF : FOK (sF S)) {p : Nat} (hp : p < 6) {h w : Int} (hh : 0 ≤ h ∧ h ≤ 2) {Post : Option AV → GM → Prop} (hN : ∀ M', RC S M' → TA i9_even 44 [some (vr 0), some (vi (p : Int)), some (vi h), some (vi w), none, some (vi (tvC (bestN (fPace (sF S) p h) vSucc none 9).2)), some (vi (((9 : Nat) : Int) + 1))] [] (LC, M') Post) : ∀ (k n : Nat) (M : Mem), n + k = 9 → RC S M →
    TA i9_even 44 [some (vr 0), some (vi (p : Int)), some (vi h), some (vi w), none, some (vi (tvC (bestN (fPace (sF S) p h) vSucc none n).2)), some (vi ((n : Int) + 1))] [] (LC, M) Post
  | 0, n, M, hn, hM => by
    have e : n = 9 := by omega
    rw [e]; exact hN M hM
  | k + 1, n, M, hn, hM => by
    have hB := bok_pace hh (n := n) (by omega)
    have t1 : TB (fPace (sF S) p h n) := TB_race hF (hln hF) hp hB
    have t2 : TB (bestN (fPace (sF S) p h) vSucc none n).2 := TB_best TB_no (m := 9) (fun j hj => TB_race hF (hln hF) hp (bok_pace hh hj)) n (by omega)
    refine W9_even_44 ⟨fun z => ?_, fun _ => T_timeOf hF hM.1 hp hB (fun M' hL => ?_)⟩
    · rw [wlt (by omega) (by omega) (by omega) (by omega)] at z; omega
    · have ih := L_evC hF hp hh hN k (n + 1) M' (by omega) (hM.fr hL.C)
      have en : ((n + 1 : Nat) : Int) = (n : Int) + 1 := by omega
      rw [en] at ih
      have c1 := tvC_le t1
      have c2 := tvC_le t2
      have cm := tvCM t1 t2
      have em : mn (tvC (bestN (fPace (sF S) p h) vSucc none n).2) (tvC (fPace (sF S) p h n)) = tvC (bestN (fPace (sF S) p h) vSucc none (n + 1)).2 := by
        rw [mn_eq (by omega) (by omega) (by omega) (by omega)]
        by_cases g : tvM (fPace (sF S) p h n) < tvM (bestN (fPace (sF S) p h) vSucc none n).2
        · rw [best_lt g]
          have := cm.2 g
          show _ = tvC (fPace (sF S) p h n)
          omega
        · rw [best_ge g]
          have : ¬ tvC (fPace (sF S) p h n) < tvC (bestN (fPace (sF S) p h) vSucc none n).2 := fun y => g (cm.1 y)
          omega
      rw [show sRace (sF S) (ln (sF S)).toNat p h ((n : Int) + 1) = fPace (sF S) p h n from rfl, em]
      exact ih
theorem SIM_even {a h w : Int} (ia : IR a) (ih : IR h) (iw : IR w) : SIM i9_even 7 i10_even 7 [vi a, vi h, vi w] := by
  intro S hS
  have hF := hS.1
  have i1 : IR 1 := by unfold IR; omega
  have im : IR (-1) := by unfold IR; omega
  have cb := sBy_le h 1
  have ib : IR (sBy h 1) := by unfold IR; omega
  have c1 := sOne_le (sF S) a h 1
  obtain ⟨W, hW⟩ : ∃ W : Int, W = sBit (sOne (sF S) a h 1) w 1 := ⟨_, rfl⟩
  have hWb : -6 ≤ W ∧ W ≤ 0 := by rw [hW]; exact sBit_le c1
  have k1 : ∀ M, RC S M → f9_orOther (f9_firstOf (f9_nobody M a) (f9_low h 1) (f9_high h 1)) w 1 = W := fun M hM => by
    rw [show f9_firstOf (f9_nobody M a) (f9_low h 1) (f9_high h 1) = sOne (sF S) a h 1 from badOne_eq hF hM.1 ia ih i1, orOther_eq (by unfold IR; omega) iw i1, hW]
  have k2 : ∀ M, RM S M → (if wr (f10_isOne (up M 0 8 0) a) = 0 then (-1) else f10_wrongBit (f10_wrongBy h 1) w 1) = W := by
    intro M hM
    rw [isOne_eq hF hM.thr.1 ia, wrongBy_eq ih i1, wrongBit_eq ib iw i1, hW]
    unfold sOne
    by_cases g1 : sWho (sF S) a
    · rw [if_pos g1, if_neg (c := wr 1 = 0) (by rw [wr1]; omega), if_pos g1]
    · rw [if_neg g1, if_pos wr0, if_neg g1]; rfl
  by_cases e : W = 0
  · have hbw : sOne (sF S) a h 1 = 0 ∧ 0 ≤ w ∧ w ≤ 1 := sBit_ok (by rw [← hW]; exact e)
    obtain ⟨ha, hB⟩ := sOne_ok hbw.1
    obtain ⟨n, hn6, rfl, -⟩ := ha.n hF
    have hTf : ∀ j, j < 9 → TB (fPace (sF S) n h j) := fun j hj => TB_race hF (hln hF) hn6 (bok_pace hB.1 hj)
    have hTB : TB (bestN (fPace (sF S) n h) vSucc none 9).2 := TB_best TB_no hTf 9 (by omega)
    rcases best_in (v := vSucc) hTf 9 (Nat.le_refl _) with ⟨e1, e2⟩ | ⟨j, hj, e1, e2, e3⟩
    · refine ⟨-9, S, hS, fun M hM => W9_even_0 ⟨fun _ => L_evC hF hn6 hB.1 (fun M' hM' => W9_even_44 ⟨fun _ => ?_, fun z => absurd (by decide) z⟩) 9 0 M rfl hM, fun z => ?_⟩, fun q M hM => W10_even_0 ⟨isOne_01 hF hM.1 ia, W10_even_27 ⟨fun z => ?_, fun _ => W10_bestPaceOf_0 (L_bestPaceM hF hn6 hB.1 (fun M' hM' => ?_) 9 0 _ rfl hM.thr)⟩⟩⟩
      · rw [e2]
        exact ⟨fun z => absurd z (by show ¬ wr 10000000 < wr 10000000; omega), fun _ => ⟨M', rfl, rfl, hM'⟩⟩
      · rw [k1 M hM, e] at z; exact absurd wr0 z
      · rw [k2 M hM, e, wr0] at z; omega
      · rw [e1]
        exact ⟨fun _ => ⟨q, M', rfl, rfl, hM'⟩, fun z => absurd (by decide) z⟩
    · have hBj := bok_pace hB.1 hj
      have sf := soon_fin hF hn6 hBj e3
      obtain ⟨t, ht⟩ : ∃ t, t = tvM (fPace (sF S) n h j) := ⟨_, rfl⟩
      have tt : (t < 9999999 ∧ 0 ≤ t ∧ t ≤ 9000 ∧ tvC (fPace (sF S) n h j) = t) := by
        rcases tv_two (hTf j hj) with h1 | ⟨h1, h2⟩
        · rw [ht]; exact h1
        · exfalso
          cases hz : fPace (sF S) n h j with
          | none => exact e3 hz
          | some z =>
            obtain ⟨x, u, y, r⟩ := z
            rw [hz] at h1
            have b := hTf j hj
            rw [hz] at b
            have b' : 0 ≤ u ∧ u ≤ 9000 := b
            have h1' : u = 9999999 := h1
            omega
      have en : nC (sWW S n h) = sWW S n h := nC_f (by omega)
      have ww := iw.w
      refine ⟨evA w t (sWW S n h), S, hS, fun M hM => W9_even_0 ⟨fun _ => L_evC hF hn6 hB.1 (fun M' hM' => W9_even_44 ⟨fun _ => ?_, fun z => absurd (by decide) z⟩) 9 0 M rfl hM, fun z => ?_⟩, fun q M hM => W10_even_0 ⟨isOne_01 hF hM.1 ia, W10_even_27 ⟨fun z => ?_, fun _ => W10_bestPaceOf_0 (L_bestPaceM hF hn6 hB.1 (fun M' hM' => ?_) 9 0 _ rfl hM.thr)⟩⟩⟩
      · rw [e2, tt.2.2.2]
        refine ⟨fun _ => T_soC hF hM' hn6 hB.1 (fun M2 f hI hW49 => W9_even_113 ⟨M2, ?_, rfl, hM'.fr f⟩), fun z => absurd (by rw [wlt (by omega) (by omega) (by omega) (by omega)]; omega) z⟩
        rw [en, ww, wr1, wr_id (x := t - sWW S n h) (by omega) (by omega)]
        unfold evA
        have : w = 0 ∨ w = 1 := by omega
        rcases this with rfl | rfl
        · rw [if_neg (by decide), if_pos rfl]
        · rw [if_pos rfl, if_neg (by decide)]
      · rw [k1 M hM, e] at z; exact absurd wr0 z
      · rw [k2 M hM, e, wr0] at z; omega
      · rw [e1]
        show (wr ((j : Int) + 1) < 0 → _) ∧ (¬ wr ((j : Int) + 1) < 0 → _)
        refine ⟨fun z => ?_, fun _ => T_plainRun hF hBj hn6 hM'.1 (fun M2 hL => T_soM hF (hM'.fr hL.1.q) hn6 hB.1 (fun M3 f hZ hW16 => W10_even_93 ⟨q, M3, ?_, rfl, (hM'.fr hL.1.q).fr f⟩))⟩
        · rw [wr_id (by omega) (by omega)] at z; omega
        · rw [show tvM (sRace (sF S) (ln (sF S)).toNat n h ((j : Int) + 1)) = t from ht.symm, ww, wr_id (x := t - sWW S n h) (by omega) (by omega)]
          rfl
  · refine ⟨W, sRef S W, hS.ref _, fun M hM => W9_even_0 ⟨fun z => ?_, fun _ => ?_⟩, fun q M hM => W10_even_0 ⟨isOne_01 hF hM.1 ia, W10_even_27 ⟨fun _ => ?_, fun z => ?_⟩⟩⟩
    · rw [k1 M hM, wr_id (by omega) (by omega)] at z; exact absurd z e
    · rw [k1 M hM]; exact C_ref hM (by omega)
    · rw [k2 M hM, wr_id (x := -_) (by omega) (by omega)]; exact ⟨by omega, M_ref hM.thr (by omega)⟩
    · rw [k2 M hM, wr_id (by omega) (by omega)] at z; omega

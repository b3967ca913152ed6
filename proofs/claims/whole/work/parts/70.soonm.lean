/-! the soonest way, in the reference; soonest: both sides answer alike -/
def RZ (l n : Nat) (a h d : Int) (kf ff : Nat → Int) (M : Mem) : Prop := M 0 2 = (n : Int) ∧ M 0 3 = (l : Int) ∧ M 0 10 = a ∧ M 0 11 = h ∧ M 0 12 = d ∧ l < 2 ∧ n ≤ 20 ∧ ∀ y, y < n → M 1 (20 * l + y) = kf y ∧ M 2 (20 * l + y) = ff y ∧ KOK (kf y) (ff y)
theorem RZ.fr {l n : Nat} {a h d : Int} {kf ff : Nat → Int} {M M' : Mem} (hZ : RZ l n a h d kf ff M) (f : ∀ i, i ≠ 16 → i ≠ 17 → i ≠ 18 → M' i = M i) : RZ l n a h d kf ff M' := by
  unfold RZ at *
  rw [f 0 (by omega) (by omega) (by omega), f 1 (by omega) (by omega) (by omega), f 2 (by omega) (by omega) (by omega)]
  exact hZ
theorem RZ.ld {l n : Nat} {a h d hold : Int} {kf ff : Nat → Int} {M : Mem} (hZ : RZ l n a h d kf ff M) (hP : PB a h d hold) {y : Nat} (hy : y < n) : f10_loadOf M (20 * (l : Int) + (y : Int)) hold = sLoad (kf y) (ff y) h hold := by
  obtain ⟨z1, z2, z3, z4, z5, z6, z7, z8⟩ := hZ
  obtain ⟨k1, k2, k3⟩ := z8 y hy
  obtain ⟨p1, p2, p3, p4⟩ := hP
  have e : (20 * (l : Int) + (y : Int)).toNat = 20 * l + y := by omega
  rw [m_load (by omega) (by rw [e]; exact k1) (by rw [e]; exact k2) k3 (by omega) (by omega) p4.1 p4.2, z4]
theorem RZ.tn {l n : Nat} {a h d hold : Int} {kf ff : Nat → Int} {M : Mem} (hZ : RZ l n a h d kf ff M) {p : Int} (hb : BOK hold p) {y : Nat} (hy : y < n) : f10_tenthsOf M (20 * (l : Int) + (y : Int)) hold p = sTen (kf y) (ff y) hold p := by
  obtain ⟨z1, z2, z3, z4, z5, z6, z7, z8⟩ := hZ
  obtain ⟨k1, k2, k3⟩ := z8 y hy
  have e : (20 * (l : Int) + (y : Int)).toNat = 20 * l + y := by omega
  rw [m_ten (by omega) (by rw [e]; exact k1) (by rw [e]; exact k2) k3 hb]
theorem RZ.lm {l n : Nat} {a h d hold : Int} {kf ff : Nat → Int} {M : Mem} (hZ : RZ l n a h d kf ff M) (hP : PB a h d hold) {y : Nat} (hy : y < n) : f10_limitOf M (20 * (l : Int) + (y : Int)) = sLim (kf y) d := by
  obtain ⟨z1, z2, z3, z4, z5, z6, z7, z8⟩ := hZ
  obtain ⟨k1, k2, k3⟩ := z8 y hy
  obtain ⟨p1, p2, p3, p4⟩ := hP
  have e : (20 * (l : Int) + (y : Int)).toNat = 20 * l + y := by omega
  rw [m_lim (by omega) (by rw [e]; exact k1) k3.1 (by omega) (by omega), z5]
theorem RZ.lb {l n : Nat} {a h d hold : Int} {kf ff : Nat → Int} {M : Mem} (hZ : RZ l n a h d kf ff M) (hP : PB a h d hold) {y : Nat} (hy : y < n) {p had : Int} (hp : 1 ≤ p ∧ p ≤ 9) (h1 : had ≤ a) (h2 : (yDc kf ff a h d hold y).1 p ≤ had) : f10_leftBehind M had (20 * (l : Int) + (y : Int)) hold p = (yDc kf ff a h d hold y).2.2 had p := by
  have h2' : sLoad (kf y) (ff y) h hold + p ≤ had := h2
  have hP0 := hP
  obtain ⟨p1, p2, p3, p4⟩ := hP
  have hk := (hZ.2.2.2.2.2.2.2 y hy).2.2
  have hLd := sLoad_le (h := h) (hold := hold) hk p2.1 p2.2 p4.1 p4.2
  have hLm := sLim_le (k := kf y) p3.1 p3.2
  unfold f10_leftBehind
  rw [hZ.ld hP0 hy, hZ.lm hP0 hy, hZ.2.2.1, wr_id (x := sLim (kf y) d) (by omega) (by omega), wr_id (x := p) (by omega) (by omega), les (by omega) (by omega) (by omega) (by omega)]
  show _ = if sLim (kf y) d < p then min (had - (sLoad (kf y) (ff y) h hold + p) + 5) a else had - (sLoad (kf y) (ff y) h hold + p)
  split <;> omega
theorem up_same {M : Mem} {a k : Nat} : up M a k (M a k) = M := by
  funext i j
  unfold up
  split
  · rename_i h; rw [h.1, h.2]
  · rfl
theorem L_208 {q : Option Nat} {x1 x2 x3 x4 x6 x7 x8 x9 : Int} {k : Nat} (hk : k < 1281) {M : Mem} {Post : Option AV → GM → Prop} {c : Prop} [Decidable c]
    (hy : c → TA i10_laySoonest 110 [some (vr 0), some (vi x1), some (vi x2), some (vi x3), some (vi x4), some (vi (k : Int)), some (vi x6), some (vi x7), some (vi (x8 + 1)), none, none] [] (LM q, up (up (up M 17 k x6) 18 k x8) 16 k x9) Post)
    (hn : ¬ c → TA i10_laySoonest 110 [some (vr 0), some (vi x1), some (vi x2), some (vi x3), some (vi x4), some (vi (k : Int)), some (vi x6), some (vi x7), some (vi (x8 + 1)), none, none] [] (LM q, M) Post) :
    TA i10_laySoonest 208 [some (vr 0), some (vi x1), some (vi x2), some (vi x3), some (vi x4), some (vi (k : Int)), some (vi x6), some (vi x7), some (vi x8), some (vi x9), none] [vi (if c then 1 else 0)] (LM q, M) Post := by
  have wk : wr (k : Int) = (k : Int) := wr_id (by omega) (by omega)
  have b : 0 ≤ (k : Int) ∧ (k : Int) < ((1281 : Nat) : Int) := by omega
  refine W10_laySoonest_208 ?_
  rw [wk, show ((k : Int)).toNat = k by omega]
  by_cases g : c
  · rw [if_pos g]
    have w1 : ¬ wr 1 = 0 := by rw [wr1]; omega
    exact ⟨fun z => absurd z w1, fun _ => ⟨b, fun z => absurd z w1, fun _ => ⟨b, fun z => absurd z w1, fun _ => ⟨b, hy g⟩⟩⟩⟩
  · rw [if_neg g]
    have e : up (up (up M 17 k (M 17 k)) 18 k (M 18 k)) 16 k (M 16 k) = M := by rw [up_same, up_same, up_same]
    rw [e]
    exact ⟨fun _ => ⟨b, b, fun _ => ⟨b, b, fun _ => ⟨b, b, hn g⟩, fun z => absurd wr0 z⟩, fun z => absurd wr0 z⟩, fun z => absurd wr0 z⟩
def MK (M0 M : Mem) (k : Nat) (s : T3) : Prop := (∀ i, i ≠ 16 → i ≠ 17 → i ≠ 18 → M i = M0 i) ∧ (∀ j, j ≠ k → M 16 j = M0 16 j ∧ M 17 j = M0 17 j ∧ M 18 j = M0 18 j) ∧ M 16 k = s.1 ∧ (s.1 < 9999999 → M 17 k = s.2.1 ∧ M 18 k = s.2.2)
def R16 (Yd : Nat → YD) (a : Int) (n y0 : Nat) (M : Mem) : Prop := ∀ y, y0 ≤ y → y ≤ n → ∀ L : Nat, (L : Int) ≤ a → M 16 (61 * y + L) = WW Yd a n (n - y) (L : Int) ∧ (y < n → WW Yd a n (n - y) (L : Int) < 9999999 → M 17 (61 * y + L) = paC Yd a n y (L : Int) ∧ M 18 (61 * y + L) = paP Yd a n y (L : Int))
theorem L_pl {q : Option Nat} {l n : Nat} {a h d hold : Int} {kf ff : Nat → Int} (hP : PB a h d hold) {M0 : Mem} (hZ : RZ l n a h d kf ff M0) {y L : Nat} (hy : y < n) (hL : (L : Int) ≤ a) (hW : R16 (yDc kf ff a h d hold) a n (y + 1) M0) {r had : Int} (hr : 0 ≤ r ∧ r ≤ 6) (hh : 0 ≤ had ∧ had ≤ a) {Post : Option AV → GM → Prop} {R : T3}
    (hN : ∀ M', MK M0 M' (61 * y + L) R → TA i10_laySoonest 288 [some (vr 0), some (vi hold), some (vi (y : Int)), some (vi (20 * (l : Int) + (y : Int))), some (vi (L : Int)), some (vi ((61 * y + L : Nat) : Int)), some (vi r), none, none, none, none] [] (LM q, M') Post) : ∀ (k : Nat) (p : Int) (s : T3) (M : Mem), p + (k : Int) = 10 → 1 ≤ p → (0 ≤ s.1 ∧ s.1 ≤ 9999999) → MK M0 M (61 * y + L) s → foP (yDc kf ff a h d hold y) (WW (yDc kf ff a h d hold) a n (n - (y + 1))) had (15 * r) r k p s = R →
    TA i10_laySoonest 110 [some (vr 0), some (vi hold), some (vi (y : Int)), some (vi (20 * (l : Int) + (y : Int))), some (vi (L : Int)), some (vi ((61 * y + L : Nat) : Int)), some (vi r), some (vi had), some (vi p), none, none] [] (LM q, M) Post
  | 0, p, s, M, hk, h1, hs, hM, hR => by
    have z7 := hZ.2.2.2.2.2.2.1
    have z6 := hZ.2.2.2.2.2.1
    have e : s = R := hR
    refine W10_laySoonest_110 ⟨fun z => ?_, fun _ => hN M (by rw [← e]; exact hM)⟩
    rw [wlt (by omega) (by omega) (by omega) (by omega)] at z; omega
  | k + 1, p, s, M, hk, h1, hs, hM, hR => by
    have z6 := hZ.2.2.2.2.2.1
    have z7 := hZ.2.2.2.2.2.2.1
    have z8 := hZ.2.2.2.2.2.2.2
    have p1 := hP.1
    have hb : BOK hold p := ⟨hP.2.2.2, h1, by omega⟩
    have hY : ∀ y, y < n → YOK (yDc kf ff a h d hold y) a := fun y hy => yDc_ok (z8 y hy).2.2 hP
    have hX : ∀ L', 0 ≤ L' → L' ≤ a → VB 4000 (WW (yDc kf ff a h d hold) a n (n - (y + 1)) L') := fun L' _ h2 => VB.mono (WW_b hY (n - (y + 1)) (by omega) L' h2) (by omega)
    have hZ1 : RZ l n a h d kf ff M := hZ.fr hM.1
    have hLd := sLoad_le (h := h) (hold := hold) (z8 y hy).2.2 hP.2.1.1 hP.2.1.2 hP.2.2.2.1 hP.2.2.2.2
    have hTn := sTen_le (z8 y hy).2.2 hb
    have hLm := sLim_le (k := kf y) hP.2.2.1.1 hP.2.2.1.2
    have wi : wr (20 * (l : Int) + (y : Int)) = 20 * (l : Int) + (y : Int) := wr_id (by omega) (by omega)
    have bi : 0 ≤ 20 * (l : Int) + (y : Int) ∧ 20 * (l : Int) + (y : Int) < ((40 : Nat) : Int) := by omega
    refine W10_laySoonest_110 ⟨fun _ => ⟨w2, ?_, fun z => ?_, fun z => ⟨?_, ?_, W10_laySoonest_161 ?_⟩⟩, fun z => ?_⟩
    · rw [wi]; exact bi
    · rw [hZ1.ld hP hy, wlt (by omega) (by omega) (by omega) (by omega)] at z
      rw [foP_b (show had < (yDc kf ff a h d hold y).1 p from z)] at hR
      exact hN M (by rw [← hR]; exact hM)
    · rw [wi]; exact bi
    · rw [wi]; exact bi
    · rw [hZ1.ld hP hy, wlt (by omega) (by omega) (by omega) (by omega)] at z
      have g : ¬ had < (yDc kf ff a h d hold y).1 p := z
      have y4 := (hY y hy p h1 (by omega)).2.2.2 had (by omega) hh.2
      rw [hZ1.lb hP hy ⟨h1, by omega⟩ hh.2 (by omega), hZ1.tn hb hy, hZ1.lm hP hy, wi, wr_id (x := sLim (kf y) d) (by omega) (by omega), wr_id (x := p) (by omega) (by omega)]
      obtain ⟨L', hL'⟩ : ∃ L' : Nat, (yDc kf ff a h d hold y).2.2 had p = (L' : Int) := ⟨((yDc kf ff a h d hold y).2.2 had p).toNat, by omega⟩
      rw [hL'] at y4 ⊢
      have hx := (hX (L' : Int) y4.1 y4.2).le (by omega)
      rw [wr_id (x := 61 * ((y : Int) + 1) + (L' : Int)) (by omega) (by omega), show (61 * ((y : Int) + 1) + (L' : Int)).toNat = 61 * (y + 1) + L' by omega, (hM.2.1 (61 * (y + 1) + L') (by omega)).1, (hW (y + 1) (Nat.le_refl _) (by omega) L' y4.2).1, wr_id (x := (((61 * y + L : Nat)) : Int)) (by omega) (by omega), show ((((61 * y + L : Nat)) : Int)).toNat = 61 * y + L by omega, hM.2.2.1]
      have eb : 15 * r + sTen (kf y) (ff y) hold p + (if sLim (kf y) d < p then (40 : Int) else 0) + WW (yDc kf ff a h d hold) a n (n - (y + 1)) (L' : Int) = 15 * r + (yDc kf ff a h d hold y).2.1 p + WW (yDc kf ff a h d hold) a n (n - (y + 1)) ((yDc kf ff a h d hold y).2.2 had p) := by
        rw [hL']
        show _ = 15 * r + (if sLim (kf y) d < p then sTen (kf y) (ff y) hold p + 40 else sTen (kf y) (ff y) hold p) + _
        split <;> omega
      have e40 : (if sLim (kf y) d < p then (40 : Int) else 0) ≤ 40 ∧ 0 ≤ (if sLim (kf y) d < p then (40 : Int) else 0) := by split <;> omega
      rw [← hL'] at hx
      refine ⟨w2, bi, by omega, by omega, ?_⟩
      rw [eb, wr_id (x := 15 * r + (yDc kf ff a h d hold y).2.1 p + WW (yDc kf ff a h d hold) a n (n - (y + 1)) ((yDc kf ff a h d hold y).2.2 had p)) (by rw [← eb, ← hL']; omega) (by rw [← eb, ← hL']; omega), wr_id (x := s.1) (by omega) (by omega)]
      refine L_208 (by omega) (fun c => ?_) (fun c => ?_)
      · rw [foP_y g c] at hR
        refine L_pl hP hZ hy hL hW hr hh hN k (p + 1) _ _ (by omega) (by omega) ?_ ⟨fun i a b c => by rw [up_fr a, up_fr c, up_fr b]; exact hM.1 i a b c, fun j hj => ⟨by rw [up_sl hj, up_fr (by omega), up_fr (by omega)]; exact (hM.2.1 j hj).1, by rw [up_fr (by omega), up_fr (by omega), up_sl hj]; exact (hM.2.1 j hj).2.1, by rw [up_fr (by omega), up_sl hj, up_fr (by omega)]; exact (hM.2.1 j hj).2.2⟩, up_eq, fun _ => ⟨by rw [up_fr (by omega), up_fr (by omega), up_eq], by rw [up_fr (by omega), up_eq]⟩⟩ hR
        have y3 := (hY y hy p h1 (by omega)).2.2.1
        show 0 ≤ 15 * r + (yDc kf ff a h d hold y).2.1 p + WW (yDc kf ff a h d hold) a n (n - (y + 1)) ((yDc kf ff a h d hold y).2.2 had p) ∧ 15 * r + (yDc kf ff a h d hold y).2.1 p + WW (yDc kf ff a h d hold) a n (n - (y + 1)) ((yDc kf ff a h d hold y).2.2 had p) ≤ 9999999
        omega
      · rw [foP_n g c] at hR
        exact L_pl hP hZ hy hL hW hr hh hN k (p + 1) s M (by omega) (by omega) hs hM hR
    · rw [wlt (by omega) (by omega) (by omega) (by omega)] at z; omega
theorem foP_le {Y : YD} {X : Int → Int} {a b : Int} (hb : b + 100 ≤ 9000) (hY : YOK Y a) (hX : ∀ L, 0 ≤ L → L ≤ a → VB b (X L)) {had c r : Int} (hL : had ≤ a) (hc : 0 ≤ c ∧ c ≤ 1000) {s : T3} (hs : 0 ≤ s.1 ∧ s.1 ≤ 9999999) : 0 ≤ (foP Y X had c r 9 1 s).1 ∧ (foP Y X had c r 9 1 s).1 ≤ 9999999 := by
  rw [foP_eq hb hY hX hL hc 9 1 s (by omega) (by omega) hs.2]
  have hg := VB_gv hY hX hL 9 1 (by omega) (by omega)
  unfold VB at hg
  by_cases g : adN c (gvF Y X had 9 1) < s.1
  · rw [if_pos g]
    show 0 ≤ c + gvF Y X had 9 1 ∧ c + gvF Y X had 9 1 ≤ 9999999
    by_cases e : gvF Y X had 9 1 = 9999999
    · rw [e, adN_n] at g; omega
    · omega
  · rw [if_neg g]; exact hs
theorem L_rl {q : Option Nat} {l n : Nat} {a h d hold : Int} {kf ff : Nat → Int} (hP : PB a h d hold) {M0 : Mem} (hZ : RZ l n a h d kf ff M0) {y L : Nat} (hy : y < n) (hL : (L : Int) ≤ a) (hW : R16 (yDc kf ff a h d hold) a n (y + 1) M0) {Post : Option AV → GM → Prop} {R : T3}
    (hN : ∀ M', MK M0 M' (61 * y + L) R → TA i10_laySoonest 53 [some (vr 0), some (vi hold), some (vi (y : Int)), some (vi (20 * (l : Int) + (y : Int))), some (vi ((L : Int) + 1)), none, none, none, none, none, none] [] (LM q, M') Post) : ∀ (k : Nat) (r : Int) (s : T3) (M : Mem), r + (k : Int) = 7 → 0 ≤ r → (0 ≤ s.1 ∧ s.1 ≤ 9999999) → MK M0 M (61 * y + L) s → foR (yDc kf ff a h d hold y) (WW (yDc kf ff a h d hold) a n (n - (y + 1))) a k r (min ((L : Int) + 10 * r) a) s = R →
    TA i10_laySoonest 83 [some (vr 0), some (vi hold), some (vi (y : Int)), some (vi (20 * (l : Int) + (y : Int))), some (vi (L : Int)), some (vi ((61 * y + L : Nat) : Int)), some (vi r), none, none, none, none] [] (LM q, M) Post
  | 0, r, s, M, hk, h0, hs, hM, hR => by
    have e : s = R := hR
    refine W10_laySoonest_83 ⟨fun z => ?_, fun _ => hN M (by rw [← e]; exact hM)⟩
    rw [wlt (by omega) (by omega) (by omega) (by omega)] at z; omega
  | k + 1, r, s, M, hk, h0, hs, hM, hR => by
    have z7 := hZ.2.2.2.2.2.2.1
    have z8 := hZ.2.2.2.2.2.2.2
    have p1 := hP.1
    have hY : ∀ y, y < n → YOK (yDc kf ff a h d hold y) a := fun y hy => yDc_ok (z8 y hy).2.2 hP
    have hX : ∀ L', 0 ≤ L' → L' ≤ a → VB 4000 (WW (yDc kf ff a h d hold) a n (n - (y + 1)) L') := fun L' _ h2 => VB.mono (WW_b hY (n - (y + 1)) (by omega) L' h2) (by omega)
    have hZ1 : RZ l n a h d kf ff M := hZ.fr hM.1
    have hR' : foR (yDc kf ff a h d hold y) (WW (yDc kf ff a h d hold) a n (n - (y + 1))) a k (r + 1) (min (min ((L : Int) + 10 * r) a + 10) a) (foP (yDc kf ff a h d hold y) (WW (yDc kf ff a h d hold) a n (n - (y + 1))) (min ((L : Int) + 10 * r) a) (15 * r) r 9 1 s) = R := hR
    rw [show min (min ((L : Int) + 10 * r) a + 10) a = min ((L : Int) + 10 * (r + 1)) a by omega] at hR'
    refine W10_laySoonest_83 ⟨fun _ => ?_, fun z => ?_⟩
    · rw [hZ1.2.2.1, les (by omega) (by omega) (by omega) (by omega), show min a ((L : Int) + 10 * r) = min ((L : Int) + 10 * r) a by omega]
      exact L_pl hP hZ hy hL hW (by omega) (by omega) (fun M' hM' => W10_laySoonest_288 (L_rl hP hZ hy hL hW hN k (r + 1) _ M' (by omega) (by omega) (foP_le (by omega) (hY y hy) hX (by omega) (by omega) hs) hM' hR')) 9 1 s M (by omega) (by omega) hs hM rfl
    · rw [wlt (by omega) (by omega) (by omega) (by omega)] at z; omega
theorem L_ll {q : Option Nat} {l n : Nat} {a h d hold : Int} {kf ff : Nat → Int} (hP : PB a h d hold) {y : Nat} (hy : y < n) {M00 : Mem} {Post : Option AV → GM → Prop}
    (hN : ∀ M', (∀ i, i ≠ 16 → i ≠ 17 → i ≠ 18 → M' i = M00 i) → R16 (yDc kf ff a h d hold) a n y M' → TA i10_laySoonest 36 [some (vr 0), some (vi hold), some (vi ((y : Int) + -1)), none, none, none, none, none, none, none, none] [] (LM q, M') Post) (hZ : RZ l n a h d kf ff M00) : ∀ (k L : Nat) (M : Mem), (L : Int) + (k : Int) = a + 1 → (∀ i, i ≠ 16 → i ≠ 17 → i ≠ 18 → M i = M00 i) → R16 (yDc kf ff a h d hold) a n (y + 1) M → (∀ L' : Nat, L' < L → M 16 (61 * y + L') = WW (yDc kf ff a h d hold) a n (n - y) (L' : Int) ∧ (WW (yDc kf ff a h d hold) a n (n - y) (L' : Int) < 9999999 → M 17 (61 * y + L') = paC (yDc kf ff a h d hold) a n y (L' : Int) ∧ M 18 (61 * y + L') = paP (yDc kf ff a h d hold) a n y (L' : Int))) →
    TA i10_laySoonest 53 [some (vr 0), some (vi hold), some (vi (y : Int)), some (vi (20 * (l : Int) + (y : Int))), some (vi (L : Int)), none, none, none, none, none, none] [] (LM q, M) Post
  | 0, L, M, hk, hM, hW, hS => by
    have z7 := hZ.2.2.2.2.2.2.1
    have p1 := hP.1
    have hZ1 : RZ l n a h d kf ff M := hZ.fr hM
    refine W10_laySoonest_53 ⟨fun _ => hN M hM (fun y' h1 h2 L' h3 => ?_), fun z => ?_⟩
    · by_cases e : y' = y
      · rw [e]; have := hS L' (by omega); exact ⟨this.1, fun _ => this.2⟩
      · exact hW y' (by omega) h2 L' h3
    · rw [hZ1.2.2.1, wlt (by omega) (by omega) (by omega) (by omega)] at z; omega
  | k + 1, L, M, hk, hM, hW, hS => by
    have z7 := hZ.2.2.2.2.2.2.1
    have z8 := hZ.2.2.2.2.2.2.2
    have p1 := hP.1
    have hY : ∀ y, y < n → YOK (yDc kf ff a h d hold y) a := fun y hy => yDc_ok (z8 y hy).2.2 hP
    have hX : ∀ L', 0 ≤ L' → L' ≤ a → VB 4000 (WW (yDc kf ff a h d hold) a n (n - (y + 1)) L') := fun L' _ h2 => VB.mono (WW_b hY (n - (y + 1)) (by omega) L' h2) (by omega)
    have hZ1 : RZ l n a h d kf ff M := hZ.fr hM
    have hL : (L : Int) ≤ a := by omega
    have eI : 61 * (y : Int) + (L : Int) = ((61 * y + L : Nat) : Int) := by omega
    refine W10_laySoonest_53 ⟨fun z => ?_, fun _ => ?_⟩
    · rw [hZ1.2.2.1, wlt (by omega) (by omega) (by omega) (by omega)] at z; omega
    · rw [eI, wr_id (x := ((61 * y + L : Nat) : Int)) (by omega) (by omega), show (((61 * y + L : Nat) : Int)).toNat = 61 * y + L by omega]
      refine ⟨by omega, ?_⟩
      obtain ⟨M1, hM1⟩ : ∃ M1, M1 = up M 16 (61 * y + L) 9999999 := ⟨_, rfl⟩
      have f1 : ∀ i, i ≠ 16 → M1 i = M i := fun i hi => by rw [hM1]; exact up_fr hi
      have f2 : ∀ j, j ≠ 61 * y + L → M1 16 j = M 16 j := fun j hj => by rw [hM1]; exact up_sl hj
      have f3 : M1 16 (61 * y + L) = 9999999 := by rw [hM1]; exact up_eq
      rw [← hM1]
      have hW1 : R16 (yDc kf ff a h d hold) a n (y + 1) M1 := fun y' h1 h2 L' h3 => by
        rw [f2 _ (by omega), f1 17 (by omega), f1 18 (by omega)]
        exact hW y' h1 h2 L' h3
      have hM1' : ∀ i, i ≠ 16 → i ≠ 17 → i ≠ 18 → M1 i = M00 i := fun i a b c => by rw [f1 i a]; exact hM i a b c
      have eR := foR_eq (r := 0) (L := (L : Int)) (s := ((9999999, 0, 0) : T3)) (show (4000 : Int) + 300 ≤ 9000 by omega) (hY y hy) hX 6 (by omega) (by omega) hL (Int.le_refl _)
      refine L_rl hP (hZ.fr hM1') hy hL hW1 (R := foR (yDc kf ff a h d hold y) (WW (yDc kf ff a h d hold) a n (n - (y + 1))) a 7 0 (L : Int) (9999999, 0, 0)) (fun M2 hM2 => ?_) 7 0 (9999999, 0, 0) M1 (by omega) (by omega) (by decide) ⟨fun _ _ _ _ => rfl, fun _ _ => ⟨rfl, rfl, rfl⟩, f3, fun z => absurd z (by decide)⟩ (by rw [show min ((L : Int) + 10 * 0) a = (L : Int) by omega])
      obtain ⟨g1, g2, g3, g4⟩ := hM2
      rw [eR, ← WW_s hy (L : Int)] at g3 g4
      have hw := WW_b hY (n - y) (by omega) (L : Int) hL
      have fin : M2 16 (61 * y + L) = WW (yDc kf ff a h d hold) a n (n - y) (L : Int) ∧ (WW (yDc kf ff a h d hold) a n (n - y) (L : Int) < 9999999 → M2 17 (61 * y + L) = paC (yDc kf ff a h d hold) a n y (L : Int) ∧ M2 18 (61 * y + L) = paP (yDc kf ff a h d hold) a n y (L : Int)) := by
        by_cases e : WW (yDc kf ff a h d hold) a n (n - y) (L : Int) = 9999999
        · rw [e, adN_n, if_neg (by decide)] at g3
          exact ⟨by rw [g3, e], fun z => by rw [e] at z; exact absurd z (by decide)⟩
        · have hlt : WW (yDc kf ff a h d hold) a n (n - y) (L : Int) < 9999999 := by have := hw.le (by omega); omega
          rw [adN_f e, if_pos (show 15 * 0 + WW (yDc kf ff a h d hold) a n (n - y) (L : Int) < 9999999 by omega)] at g3 g4
          have g3' : M2 16 (61 * y + L) = 15 * 0 + WW (yDc kf ff a h d hold) a n (n - y) (L : Int) := g3
          have g4' := g4 (show 15 * 0 + WW (yDc kf ff a h d hold) a n (n - y) (L : Int) < 9999999 by omega)
          have g5 : M2 17 (61 * y + L) = 0 + paC (yDc kf ff a h d hold) a n y (L : Int) := g4'.1
          exact ⟨by omega, fun _ => ⟨by omega, g4'.2⟩⟩
      have ih := L_ll hP hy hN hZ k (L + 1) M2 (by omega) (fun i a b c => by rw [g1 i a b c]; exact hM1' i a b c) (fun y' h1 h2 L' h3 => by
        have := g2 (61 * y' + L') (by omega)
        rw [this.1, this.2.1, this.2.2]
        exact hW1 y' h1 h2 L' h3) (fun L' h1 => by
        by_cases e : L' = L
        · rw [e]; exact fin
        · have := g2 (61 * y + L') (by omega)
          rw [this.1, this.2.1, this.2.2, f2 _ (by omega), f1 17 (by omega), f1 18 (by omega)]
          exact hS L' (by omega))
      rw [show (((L + 1 : Nat)) : Int) = (L : Int) + 1 by omega] at ih
      exact ih
theorem L_yl {q : Option Nat} {l n : Nat} {a h d hold : Int} {kf ff : Nat → Int} (hP : PB a h d hold) {M00 : Mem} (hZ : RZ l n a h d kf ff M00) {K : Mem → Prop}
    (hK : ∀ M', (∀ i, i ≠ 16 → i ≠ 17 → i ≠ 18 → M' i = M00 i) → R16 (yDc kf ff a h d hold) a n 0 M' → K M') : ∀ (k : Nat) (M : Mem), k ≤ n → (∀ i, i ≠ 16 → i ≠ 17 → i ≠ 18 → M i = M00 i) → R16 (yDc kf ff a h d hold) a n k M →
    TA i10_laySoonest 36 [some (vr 0), some (vi hold), some (vi ((k : Int) - 1)), none, none, none, none, none, none, none, none] [] (LM q, M) (fun rv G' => rv = none ∧ ∃ M', G' = (LM q, M') ∧ K M')
  | 0, M, hk, hM, hW => W10_laySoonest_36 ⟨fun _ => ⟨rfl, M, rfl, hK M hM hW⟩, fun z => absurd (by decide) z⟩
  | k + 1, M, hk, hM, hW => by
    have z7 := hZ.2.2.2.2.2.2.1
    have p1 := hP.1
    obtain ⟨A, hA⟩ : ∃ A : Nat, a = (A : Int) := ⟨a.toNat, by omega⟩
    have hZ1 : RZ l n a h d kf ff M := hZ.fr hM
    rw [show (((k + 1 : Nat)) : Int) - 1 = (k : Int) by omega]
    refine W10_laySoonest_36 ⟨fun z => ?_, fun _ => ?_⟩
    · rw [wr_id (by omega) (by omega)] at z; omega
    · rw [hZ1.2.1]
      refine L_ll hP (show k < n by omega) (fun M' hM' hW' => ?_) hZ (A + 1) 0 M (by omega) hM hW (fun L' h => absurd h (Nat.not_lt_zero _))
      have := L_yl hP hZ hK (q := q) k M' (by omega) hM' hW'
      rw [show (k : Int) - 1 = (k : Int) + -1 by omega] at this
      exact this
theorem L_z16 {q : Option Nat} {l n : Nat} {a h d hold : Int} {kf ff : Nat → Int} (hP : PB a h d hold) {M00 : Mem} (hZ : RZ l n a h d kf ff M00) {K : Mem → Prop}
    (hK : ∀ M', (∀ i, i ≠ 16 → i ≠ 17 → i ≠ 18 → M' i = M00 i) → R16 (yDc kf ff a h d hold) a n 0 M' → K M') : ∀ (k j : Nat) (M : Mem), j + k = 61 → (∀ i, i ≠ 16 → M i = M00 i) → (∀ i, i < j → M 16 (61 * n + i) = 0) →
    TA i10_laySoonest 2 [some (vr 0), some (vi hold), some (vi (j : Int)), none, none, none, none, none, none, none, none] [] (LM q, M) (fun rv G' => rv = none ∧ ∃ M', G' = (LM q, M') ∧ K M')
  | 0, j, M, hj, hM, hS => by
    have hZ1 : RZ l n a h d kf ff M := hZ.fr (fun i a _ _ => hM i a)
    have p1 := hP.1
    refine W10_laySoonest_2 ⟨fun z => ?_, fun _ => ?_⟩
    · rw [wlt (by omega) (by omega) (by omega) (by omega)] at z; omega
    · rw [hZ1.1]
      refine L_yl hP hZ hK n M (Nat.le_refl _) (fun i a _ _ => hM i a) (fun y h1 h2 L h3 => ?_)
      have ey : y = n := by omega
      rw [ey, Nat.sub_self]
      exact ⟨hS L (by omega), fun z => absurd z (by omega)⟩
  | k + 1, j, M, hj, hM, hS => by
    have hZ1 : RZ l n a h d kf ff M := hZ.fr (fun i a _ _ => hM i a)
    have z7 := hZ.2.2.2.2.2.2.1
    refine W10_laySoonest_2 ⟨fun _ => ?_, fun z => ?_⟩
    · rw [hZ1.1, wr_id (by omega) (by omega), show (61 * (n : Int) + (j : Int)).toNat = 61 * n + j by omega]
      have ih := L_z16 hP hZ hK (q := q) k (j + 1) (up M 16 (61 * n + j) 0) (by omega) (fun i hi => by rw [up_fr hi]; exact hM i hi) (fun i hi => by
        by_cases e : i = j
        · rw [e, up_eq]
        · rw [up_sl (by omega)]; exact hS i (by omega))
      rw [show (((j + 1 : Nat)) : Int) = (j : Int) + 1 by omega] at ih
      exact ⟨by omega, ih⟩
    · rw [wlt (by omega) (by omega) (by omega) (by omega)] at z; omega
theorem T_soM {q : Option Nat} {S : ST} (hF : FOK (sF S)) {M : Mem} (hM : RM S M) {p : Nat} (hp : p < 6) {hold : Int} (hh : 0 ≤ hold ∧ hold ≤ 2) {K : Int → Mem → Prop}
    (hK : ∀ M', FrQ M M' → RZ (ln (sF S)).toNat (yd (sF S)).toNat (ar (sF S) p) (hv (sF S) p) (hd (sF S) p) (lk (sF S) (ln (sF S)).toNat) (lf (sF S) (ln (sF S)).toNat) M' → R16 (sYd S p hold) (ar (sF S) p) (yd (sF S)).toNat 0 M' → K (sWW S p hold) M') :
    TI i10_soonestOf 3 [vr 0, vi (p : Int), vi hold] (LM q, M) K := by
  have hy := hF.1
  have hl := hF.2.1
  obtain ⟨pa, ph, pd⟩ := hF.P hp
  have hP : PB (ar (sF S) p) (hv (sF S) p) (hd (sF S) p) hold := ⟨pa, ph, pd, hh⟩
  obtain ⟨f, w10, w11, w12, -, -⟩ := walkAs_ok hF hM.1 hp
  have hM1 := hM.fr f.q
  obtain ⟨M1, e1⟩ : ∃ M1, M1 = g10_walkAs M (p : Int) := ⟨_, rfl⟩
  refine W10_soonestOf_0 ⟨by rw [wr_id (by omega) (by omega)]; omega, ?_⟩
  rw [← e1] at f w10 w11 w12 hM1 ⊢
  obtain ⟨A, hA⟩ : ∃ A : Nat, ar (sF S) p = (A : Int) := ⟨(ar (sF S) p).toNat, by omega⟩
  have hZ : RZ (ln (sF S)).toNat (yd (sF S)).toNat (ar (sF S) p) (hv (sF S) p) (hd (sF S) p) (lk (sF S) (ln (sF S)).toNat) (lf (sF S) (ln (sF S)).toNat) M1 :=
    ⟨by rw [hM1.1.1]; omega, by rw [hM1.1.2.1]; omega, w10, w11, w12, by omega, by omega, fun y h => ⟨hM1.1.2.2.2.1 _ (by omega), hM1.1.2.2.2.2.1 _ (by omega), hF.K (by omega) (by omega)⟩⟩
  refine W10_laySoonest_0 (L_z16 hP hZ (fun M' hf hW => ?_) 61 0 M1 rfl (fun _ _ => rfl) (fun i h => absurd h (Nat.not_lt_zero _)))
  have e10 : M' 0 10 = (A : Int) := by rw [hf 0 (by omega) (by omega) (by omega), w10, hA]
  have hv0 := (hW 0 (Nat.le_refl _) (Nat.zero_le _) A (by omega)).1
  rw [← hA, show 61 * 0 + A = A by omega, Nat.sub_zero] at hv0
  rw [e10, wr_id (by omega) (by omega), show ((A : Int)).toNat = A by omega, hv0]
  exact ⟨by omega, _, M', rfl, rfl, hK M' ⟨fun i a b => by rw [hf i (by omega) (by omega) (by omega)]; exact f.q.1 i a b, fun j hj => by rw [hf 0 (by omega) (by omega) (by omega)]; exact f.q.2 j hj⟩ (hZ.fr hf) hW⟩
theorem L_spM {q : Option Nat} {S : ST} (hF : FOK (sF S)) {M : Mem} (hM : RM S M) {p : Nat} (hp : p < 6) {hold : Int} (hh : 0 ≤ hold ∧ hold ≤ 2) (hZ : RZ (ln (sF S)).toNat (yd (sF S)).toNat (ar (sF S) p) (hv (sF S) p) (hd (sF S) p) (lk (sF S) (ln (sF S)).toNat) (lf (sF S) (ln (sF S)).toNat) M) (hW : R16 (sYd S p hold) (ar (sF S) p) (yd (sF S)).toNat 0 M) (hf : sWW S p hold < 9999999) {yy : Nat} (hyy : yy < (yd (sF S)).toNat) {w : Int} : ∀ (k y : Nat), y + k = yy →
    TA i10_soonest 94 [some (vr 0), none, some (vi hold), some (vi (yy : Int)), some (vi w), none, none, some (vi (paL (sYd S p hold) (ar (sF S) p) (yd (sF S)).toNat y)), some (vi (y : Int)), none] [] (LM q, M) (MP S (if wr w = 0 then paP (sYd S p hold) (ar (sF S) p) (yd (sF S)).toNat yy (paL (sYd S p hold) (ar (sF S) p) (yd (sF S)).toNat yy) else paC (sYd S p hold) (ar (sF S) p) (yd (sF S)).toNat yy (paL (sYd S p hold) (ar (sF S) p) (yd (sF S)).toNat yy)))
  | k, y, hk => by
    have hy := hF.1
    have hl := hF.2.1
    obtain ⟨pa, ph, pd⟩ := hF.P hp
    have hP : PB (ar (sF S) p) (hv (sF S) p) (hd (sF S) p) hold := ⟨pa, ph, pd, hh⟩
    have hY : ∀ y, y < (yd (sF S)).toNat → YOK (sYd S p hold y) (ar (sF S) p) := fun y hy => yDc_ok (hZ.2.2.2.2.2.2.2 y hy).2.2 hP
    obtain ⟨hpa, hpf⟩ := pa_ok (show (yd (sF S)).toNat ≤ 20 by omega) pa.1 hY hf y (by omega)
    obtain ⟨s1, s2, s3, s4, s5⟩ := pa_step (show (yd (sF S)).toNat ≤ 20 by omega) pa.1 hY (show y < (yd (sF S)).toNat by omega) hpa hpf
    have l1 := lr_ok (Y := sYd S p hold y) (X := WW (sYd S p hold) (ar (sF S) p) (yd (sF S)).toNat ((yd (sF S)).toNat - (y + 1))) (a := ar (sF S) p) 6 _ hpa.2
    have eL1 : paL (sYd S p hold) (ar (sF S) p) (yd (sF S)).toNat (y + 1) = (sYd S p hold y).2.2 (paR (sYd S p hold) (ar (sF S) p) (yd (sF S)).toNat y (paL (sYd S p hold) (ar (sF S) p) (yd (sF S)).toNat y)) (paP (sYd S p hold) (ar (sF S) p) (yd (sF S)).toNat y (paL (sYd S p hold) (ar (sF S) p) (yd (sF S)).toNat y)) := rfl
    obtain ⟨L, hL⟩ : ∃ L : Nat, paL (sYd S p hold) (ar (sF S) p) (yd (sF S)).toNat y = (L : Int) := ⟨(paL (sYd S p hold) (ar (sF S) p) (yd (sF S)).toNat y).toNat, by omega⟩
    have hv := (hW y (Nat.zero_le _) (by omega) L (by omega)).2 (by omega) (by rw [← hL]; exact hpf)
    rw [hL] at hpa s1 s2 s3 s4 s5 l1 eL1
    have wk : wr (61 * (y : Int) + (L : Int)) = 61 * (y : Int) + (L : Int) := wr_id (by omega) (by omega)
    have tk : (61 * (y : Int) + (L : Int)).toNat = 61 * y + L := by omega
    refine W10_soonest_94 ⟨fun z => ?_, fun z => ?_⟩
    · rw [wlt (by omega) (by omega) (by omega) (by omega)] at z
      cases k with
      | zero => omega
      | succ k =>
        have en : ((y + 1 : Nat) : Int) = (y : Int) + 1 := by omega
        have wi : wr (20 * (((ln (sF S)).toNat : Nat) : Int) + (y : Int)) = 20 * (((ln (sF S)).toNat : Nat) : Int) + (y : Int) := wr_id (by omega) (by omega)
        rw [hL, wk, tk, hZ.2.1, hZ.2.2.1, wi, hv.1, hv.2]
        refine ⟨by omega, by omega, w2, by omega, ?_⟩
        have eh : f10_lesser (ar (sF S) p) ((L : Int) + 10 * paC (sYd S p hold) (ar (sF S) p) (yd (sF S)).toNat y (L : Int)) = paR (sYd S p hold) (ar (sF S) p) (yd (sF S)).toNat y (L : Int) := by
          have l2 := l1.2.2
          have l3 := l1.1
          have l4 := l1.2.1
          show f10_lesser (ar (sF S) p) ((L : Int) + 10 * crF (sYd S p hold y) (WW (sYd S p hold) (ar (sF S) p) (yd (sF S)).toNat ((yd (sF S)).toNat - (y + 1))) (ar (sF S) p) 6 (L : Int)) = lrF (sYd S p hold y) (WW (sYd S p hold) (ar (sF S) p) (yd (sF S)).toNat ((yd (sF S)).toNat - (y + 1))) (ar (sF S) p) 6 (L : Int)
          rw [les (by omega) (by omega) (by omega) (by omega), l2]; omega
        rw [eh, hZ.lb hP (by omega) s2 s3.2 s1, ← eL1, ← en]
        exact L_spM hF hM hp hh hZ hW hf hyy k (y + 1) (by omega)
    · rw [wlt (by omega) (by omega) (by omega) (by omega)] at z
      have ey : yy = y := by omega
      subst ey
      rw [hL, wk, tk, hv.1, hv.2]
      refine ⟨fun g => ?_, fun g => ?_⟩
      · rw [if_pos g]; exact ⟨by omega, q, M, rfl, rfl, hM⟩
      · rw [if_neg g]; exact ⟨by omega, q, M, rfl, rfl, hM⟩
theorem SIM_soonest {a h y w : Int} (ia : IR a) (ih : IR h) (iy : IR y) (iw : IR w) : SIM i9_soonest 7 i10_soonest 10 [vi a, vi h, vi y, vi w] := by
  intro S hS
  have hF := hS.1
  have hy := hF.1
  have i1 : IR 1 := by unfold IR; omega
  have im : IR (-1) := by unfold IR; omega
  have cb := sBy_le h 1
  have ib : IR (sBy h 1) := by unfold IR; omega
  obtain ⟨W, hW⟩ : ∃ W : Int, W = if sWho (sF S) a ∧ (-1 ≤ y ∧ y < yd (sF S)) then sBit (sBy h 1) w 1 else -1 := ⟨_, rfl⟩
  have hWb : -6 ≤ W ∧ W ≤ 0 := by
    rw [hW]
    have := sBit_le (w := sBy h 1) (x := w) (m := 1) cb
    split <;> omega
  have k1 : ∀ M, RC S M → f9_orOther (f9_firstOf (if wr (f9_nobody M a) = 0 then (if wr (f9_noYardNorAll M y) = 0 then 0 else 1) else 1) (f9_low h 1) (f9_high h 1)) w 1 = W := by
    intro M hM
    have e0 : (if wr (f9_nobody M a) = 0 then (if wr (f9_noYardNorAll M y) = 0 then (0 : Int) else 1) else 1) = if ¬ (sWho (sF S) a ∧ (-1 ≤ y ∧ y < yd (sF S))) then 1 else 0 := by
      unfold f9_noYardNorAll
      rw [nobody_eq hF hM.1 ia, noYard_eq hF hM.1 iy, iy.w, im.w]
      by_cases g1 : sWho (sF S) a
      · rw [if_pos g1, if_pos wr0]
        by_cases g2 : y = -1
        · rw [if_pos g2, if_pos wr0, if_neg (fun c => c ⟨g1, by omega, by omega⟩)]
        · rw [if_neg g2]
          by_cases g3 : 0 ≤ y ∧ y < yd (sF S)
          · rw [if_pos g3, if_pos wr0, if_pos wr0, if_neg (fun c => c ⟨g1, by omega, by omega⟩)]
          · rw [if_neg g3, if_neg (c := wr 1 = 0) (by rw [wr1]; omega), if_neg (c := wr 1 = 0) (by rw [wr1]; omega), if_pos (fun c => g3 (by omega))]
      · rw [if_neg g1, if_neg (c := wr 1 = 0) (by rw [wr1]; omega), if_pos (fun c => g1 c.1)]
    rw [by_eq (F := sF S) ih i1 e0, hW]
    by_cases g : sWho (sF S) a ∧ (-1 ≤ y ∧ y < yd (sF S))
    · rw [if_neg (c := ¬ _) (fun z => z g), if_pos g, orOther_eq ib iw i1]
    · rw [if_pos (c := ¬ _) g, if_neg g, orOther_eq im iw i1]; rfl
  have k2 : ∀ M, RM S M → (if wr (f10_isOne (up M 0 8 0) a) = 0 then (-1) else if wr (f10_in (wr y) ((-1)) (wr ((M 0 2) - 1))) = 0 then (-1) else f10_wrongBit (f10_wrongBy h 1) w 1) = W := by
    intro M hM
    rw [isOne_eq hF hM.thr.1 ia, iy.w, hM.1.1, wr_id (x := yd (sF S) - 1) (by omega) (by omega), in_eq iy im (by unfold IR; omega), wrongBy_eq ih i1, wrongBit_eq ib iw i1, hW]
    by_cases g1 : sWho (sF S) a
    · rw [if_pos g1, if_neg (c := wr 1 = 0) (by rw [wr1]; omega)]
      by_cases g2 : -1 ≤ y ∧ y ≤ yd (sF S) - 1
      · rw [if_pos g2, if_neg (c := wr 1 = 0) (by rw [wr1]; omega), if_pos ⟨g1, by omega⟩]
      · rw [if_neg g2, if_pos wr0, if_neg (fun c => g2 (by omega))]
    · rw [if_neg g1, if_pos wr0, if_neg (fun c => g1 c.1)]
  by_cases e : W = 0
  · have g : sWho (sF S) a ∧ (-1 ≤ y ∧ y < yd (sF S)) := by
      apply Classical.byContradiction
      intro c; rw [if_neg c] at hW; omega
    have hbw : sBy h 1 = 0 ∧ 0 ≤ w ∧ w ≤ 1 := by rw [if_pos g] at hW; exact sBit_ok (by omega)
    have hB := sBy_ok hbw.1
    obtain ⟨n, hn6, rfl, -⟩ := g.1.n hF
    obtain ⟨pa, ph, pd⟩ := hF.P hn6
    have hP : PB (ar (sF S) n) (hv (sF S) n) (hd (sF S) n) h := ⟨pa, ph, pd, hB.1⟩
    have hYK : ∀ y, y < (yd (sF S)).toNat → YOK (sYd S n h y) (ar (sF S) n) := fun y hy => yDc_ok (hF.K (hln hF) (by omega)) hP
    have hVB := VB.mono (c := 5000) (WW_b hYK (yd (sF S)).toNat (Nat.le_refl _) (ar (sF S) n) (Int.le_refl _)) (by omega)
    have hrel := nC_rel hVB (by omega)
    obtain ⟨V, hV⟩ : ∃ V, V = sWW S n h := ⟨_, rfl⟩
    have hrel' : (0 ≤ V ∧ V ≤ 5000 ∧ nC V = V) ∨ (V = 9999999 ∧ nC V = 10000000) := by rw [hV]; exact hrel
    by_cases gn : V = 9999999
    · have e1 : nC V = 10000000 := by omega
      refine ⟨-9, S, hS, fun M hM => W9_soonest_0 (W9_soonest_21 ⟨fun _ => T_soC hF hM hn6 hB.1 (fun M' f hI hW49 => ?_), fun z => ?_⟩), fun q M hM => W10_soonest_0 ⟨isOne_01 hF hM.1 ia, W10_soonest_46 ⟨fun z => ?_, fun _ => T_soM hF hM.thr hn6 hB.1 (fun M' f hZ hW16 => ?_)⟩⟩⟩
      · rw [← hV, e1]
        exact ⟨fun z => absurd z (by omega), fun _ => ⟨M', rfl, rfl, hM.fr f⟩⟩
      · rw [k1 M hM, e] at z; exact absurd wr0 z
      · rw [k2 M hM, e, wr0] at z; omega
      · rw [← hV, gn]
        exact ⟨fun z => ⟨q, M', rfl, rfl, hM.thr.fr f⟩, fun z => ⟨fun z => absurd z (by omega), fun _ => ⟨q, M', rfl, rfl, hM.thr.fr f⟩⟩⟩
    · have e1 : nC V = V := by omega
      have eT : f9_toldTime V = V := by unfold f9_toldTime; rw [if_pos (by rw [wlt (by omega) (by omega) (by omega) (by omega)]; omega)]
      have e0 : f10_told0 V = V := by unfold f10_told0; rw [if_pos (by rw [wlt (by omega) (by omega) (by omega) (by omega)]; omega)]
      have lt1 : wr V < wr 10000000 := by rw [wlt (by omega) (by omega) (by omega) (by omega)]; omega
      have lt2 : wr V < wr 9999999 := by rw [wlt (by omega) (by omega) (by omega) (by omega)]; omega
      by_cases gy : y = -1
      · refine ⟨V, S, hS, fun M hM => W9_soonest_0 (W9_soonest_21 ⟨fun _ => T_soC hF hM hn6 hB.1 (fun M' f hI hW49 => ?_), fun z => ?_⟩), fun q M hM => W10_soonest_0 ⟨isOne_01 hF hM.1 ia, W10_soonest_46 ⟨fun z => ?_, fun _ => T_soM hF hM.thr hn6 hB.1 (fun M' f hZ hW16 => ?_)⟩⟩⟩
        · rw [← hV, e1, eT]
          exact ⟨fun _ => ⟨fun _ => ⟨M', rfl, rfl, hM.fr f⟩, fun z => absurd (by rw [gy]) z⟩, fun z => absurd lt1 z⟩
        · rw [k1 M hM, e] at z; exact absurd wr0 z
        · rw [k2 M hM, e, wr0] at z; omega
        · rw [← hV, e0]
          exact ⟨fun z => ⟨q, M', rfl, rfl, hM.thr.fr f⟩, fun z => absurd (by rw [gy]; decide) z⟩
      · obtain ⟨yy, rfl⟩ : ∃ yy : Nat, y = (yy : Int) := ⟨y.toNat, by omega⟩
        have hf : sWW S n h < 9999999 := by rw [← hV]; omega
        refine ⟨if wr w = 0 then paP (sYd S n h) (ar (sF S) n) (yd (sF S)).toNat yy (paL (sYd S n h) (ar (sF S) n) (yd (sF S)).toNat yy) else paC (sYd S n h) (ar (sF S) n) (yd (sF S)).toNat yy (paL (sYd S n h) (ar (sF S) n) (yd (sF S)).toNat yy), S, hS, fun M hM => W9_soonest_0 (W9_soonest_21 ⟨fun _ => T_soC hF hM hn6 hB.1 (fun M' f hI hW49 => ?_), fun z => ?_⟩), fun q M hM => W10_soonest_0 ⟨isOne_01 hF hM.1 ia, W10_soonest_46 ⟨fun z => ?_, fun _ => T_soM hF hM.thr hn6 hB.1 (fun M' f hZ hW16 => ?_)⟩⟩⟩
        · rw [← hV, e1]
          refine ⟨fun _ => ⟨fun z => ?_, fun _ => T_gt hP hI hW49 (by omega) hf (fun M2 hI2 e47 e471 => W9_soonest_119 ⟨M2, ?_, rfl, (hM.fr f).fr (fun i hi => hI2.1 i (by omega) (by omega) (by omega))⟩)⟩, fun z => absurd lt1 z⟩
          · rw [iy.w, im.w] at z; exact absurd z gy
          · rw [e47, e471]
        · rw [k1 M hM, e] at z; exact absurd wr0 z
        · rw [k2 M hM, e, wr0] at z; omega
        · rw [← hV]
          refine ⟨fun z => ?_, fun _ => ⟨fun _ => ?_, fun z => absurd lt2 z⟩⟩
          · rw [iy.w] at z; omega
          · rw [hZ.2.2.1]
            exact L_spM hF (hM.thr.fr f) hn6 hB.1 hZ hW16 hf (by omega) yy 0 (by omega)
  · refine ⟨W, sRef S W, hS.ref _, fun M hM => W9_soonest_0 (W9_soonest_21 ⟨fun z => ?_, fun _ => ?_⟩), fun q M hM => W10_soonest_0 ⟨isOne_01 hF hM.1 ia, W10_soonest_46 ⟨fun _ => ?_, fun z => ?_⟩⟩⟩
    · rw [k1 M hM, wr_id (by omega) (by omega)] at z; exact absurd z e
    · rw [k1 M hM]; exact C_ref hM (by omega)
    · rw [k2 M hM, wr_id (x := -_) (by omega) (by omega)]; exact ⟨by omega, M_ref hM.thr (by omega)⟩
    · rw [k2 M hM, wr_id (by omega) (by omega)] at z; omega

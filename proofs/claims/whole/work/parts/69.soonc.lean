/-! the soonest way, in the class: the table and the way -/
def yDc (kf ff : Nat → Int) (a h d hold : Int) (y : Nat) : YD := (fun p => sLoad (kf y) (ff y) h hold + p, fun p => if sLim (kf y) d < p then sTen (kf y) (ff y) hold p + 40 else sTen (kf y) (ff y) hold p, fun L p => if sLim (kf y) d < p then min (L - (sLoad (kf y) (ff y) h hold + p) + 5) a else L - (sLoad (kf y) (ff y) h hold + p))
def PB (a h d hold : Int) : Prop := (0 ≤ a ∧ a ≤ 60) ∧ (0 ≤ h ∧ h ≤ 9) ∧ (0 ≤ d ∧ d ≤ 9) ∧ (0 ≤ hold ∧ hold ≤ 2)
theorem yDc_ok {kf ff : Nat → Int} {a h d hold : Int} {y : Nat} (hk : KOK (kf y) (ff y)) (hp : PB a h d hold) : YOK (yDc kf ff a h d hold y) a := by
  obtain ⟨p1, p2, p3, p4⟩ := hp
  intro p h1 h9
  have b1 := sLoad_le (h := h) (hold := hold) hk p2.1 p2.2 p4.1 p4.2
  have b2 := sTen_le (hold := hold) (pace := p) hk ⟨p4, h1, h9⟩
  refine ⟨?_, ?_, ?_, fun L e1 e2 => ?_⟩
  · show 0 ≤ sLoad (kf y) (ff y) h hold + p ∧ sLoad (kf y) (ff y) h hold + p ≤ 100
    omega
  · show sLoad (kf y) (ff y) h hold + p < sLoad (kf y) (ff y) h hold + (p + 1)
    omega
  · show 1 ≤ (if sLim (kf y) d < p then sTen (kf y) (ff y) hold p + 40 else sTen (kf y) (ff y) hold p) ∧ (if sLim (kf y) d < p then sTen (kf y) (ff y) hold p + 40 else sTen (kf y) (ff y) hold p) ≤ 100
    split <;> omega
  · have e1' : sLoad (kf y) (ff y) h hold + p ≤ L := e1
    show 0 ≤ (if sLim (kf y) d < p then min (L - (sLoad (kf y) (ff y) h hold + p) + 5) a else L - (sLoad (kf y) (ff y) h hold + p)) ∧ (if sLim (kf y) d < p then min (L - (sLoad (kf y) (ff y) h hold + p) + 5) a else L - (sLoad (kf y) (ff y) h hold + p)) ≤ a
    split <;> omega
theorem T_go1 {y : Nat} {hold pace k f : Int} {M : Mem} {K : Mem → Prop} (hk : KOK k f) (hb : BOK hold pace) (hy : y < 20) (hkd : M 38 y = k) (hfg : M 40 y = f) (h7 : M 41 7 = 0) (ha : 0 ≤ M 41 0 ∧ M 41 0 ≤ 60) (hH : 0 ≤ M 41 1 ∧ M 41 1 ≤ 9) (hD : 0 ≤ M 41 2 ∧ M 41 2 ≤ 9) (hl : M 41 3 ≤ M 41 0) (hn : sLoad k f (M 41 1) hold + pace ≤ M 41 3) (h4 : M 41 4 = 0)
    (h : ∀ M', (∀ i, i ≠ 41 → M' i = M i) → M' 41 0 = M 41 0 → M' 41 1 = M 41 1 → M' 41 2 = M 41 2 → M' 41 3 = (if sLim k (M 41 2) < pace then min (M 41 3 - (sLoad k f (M 41 1) hold + pace) + 5) (M 41 0) else M 41 3 - (sLoad k f (M 41 1) hold + pace)) → M' 41 4 = (if sLim k (M 41 2) < pace then sTen k f hold pace + 40 else sTen k f hold pace) → K M') : TV i8_goes 9 [vr 41, vr 36, vi (y : Int), vi hold, vi pace] (LC, M) K := by
  have e1 : rd M 38 20 (y : Int) = k := by rw [rd_in (by omega) (by omega) (by omega)]; exact hkd
  have e2 : rd M 40 20 (y : Int) = f := by rw [rd_in (by omega) (by omega) (by omega)]; exact hfg
  have hb0 := hb
  obtain ⟨⟨b1, b2⟩, b3, b4⟩ := hb
  have e3 := f4_load (h := M 41 1) (hold := hold) hk hH.1 hH.2 b1 b2
  have hLd := sLoad_le (h := M 41 1) (hold := hold) hk hH.1 hH.2 b1 b2
  have e4 := f4_ten hk hb0
  have hTn := sTen_le hk hb0
  have e5 : f4_limitOn k (M 41 2) = sLim k (M 41 2) := f4_lim hk.1.1 hk.1.2 hD.1 hD.2
  have hLm := sLim_le (k := k) hD.1 hD.2
  refine W8_goes_0_41_36 ?_
  rw [e1, e2, e3, h7]
  refine ⟨w2, fun _ => ⟨fun q => ?_, fun _ => W8_goes_62_41_36 ⟨fun _ => ⟨fun q => ?_, fun _ => ⟨fun g => ?_, fun g => ?_⟩⟩, fun q => absurd (by decide) q⟩⟩, fun q => absurd wr0 q⟩
  · rw [wlt (by omega) (by omega) (by omega) (by omega)] at q; omega
  · rw [wlt (by omega) (by omega) (by omega) (by omega)] at q; omega
  · rw [e5, wlt (by omega) (by omega) (by omega) (by omega)] at g
    rw [if_pos g, if_pos g] at h
    rw [e4, mn_eq (by omega) (by omega) (by omega) (by omega), h4]
    refine ⟨rfl, _, rfl, h _ (fun i hi => by rw [up_fr hi, up_fr hi, up_fr hi, up_fr hi, up_fr hi]) (by simp [up]) (by simp [up]) (by simp [up]) (by simp [up]) (by simp [up])⟩
  · rw [e5, wlt (by omega) (by omega) (by omega) (by omega)] at g
    rw [if_neg g, if_neg g] at h
    rw [e4, h4]
    refine ⟨rfl, _, rfl, h _ (fun i hi => by rw [up_fr hi, up_fr hi]) (by simp [up]) (by simp [up]) (by simp [up]) (by simp [up]) (by simp [up])⟩
def WI (a h d : Int) (n : Nat) (kf ff : Nat → Int) (M0 M : Mem) : Prop := (∀ i, i ≠ 41 → i ≠ 47 → i ≠ 49 → M i = M0 i) ∧ M 41 0 = a ∧ M 41 1 = h ∧ M 41 2 = d ∧ CO M0 36 n kf ff
def W49 (Yd : Nat → YD) (a : Int) (n y0 : Nat) (M : Mem) : Prop := ∀ y, y0 ≤ y → y < n → ∀ L : Nat, (L : Int) ≤ a → M 49 (61 * y + L) = nC (WW Yd a n (n - y) (L : Int))
theorem W49.fr {Yd : Nat → YD} {a : Int} {n y0 : Nat} {M M' : Mem} (h : W49 Yd a n y0 M) (e : M' 49 = M 49) : W49 Yd a n y0 M' := fun y h1 h2 L h3 => by rw [e]; exact h y h1 h2 L h3
theorem nC_f {v : Int} (h : v ≠ 9999999) : nC v = v := if_neg h
theorem nC_n : nC 9999999 = 10000000 := if_pos rfl
theorem nC_rel {b v : Int} (h : VB b v) (hb : b ≤ 9000) : (0 ≤ v ∧ v ≤ b ∧ nC v = v) ∨ (v = 9999999 ∧ nC v = 10000000) := by
  by_cases e : v = 9999999
  · rw [e]; exact Or.inr ⟨rfl, nC_n⟩
  · unfold VB at h; exact Or.inl ⟨by omega, by omega, nC_f e⟩
theorem nC_min {b v w : Int} (h : VB b v) (h2 : VB b w) (hb : b ≤ 9000) : mn (nC v) (nC w) = nC (min v w) := by
  have r1 := nC_rel h hb
  have r2 := nC_rel h2 hb
  have r3 := nC_rel (VB_min h h2) hb
  rw [mn_eq (by omega) (by omega) (by omega) (by omega)]
  omega
theorem place_eq {y l : Int} : f6_placeOf y l = 61 * y + l := rfl
theorem T_tw {a h d hold : Int} {n : Nat} {kf ff : Nat → Int} (hP : PB a h d hold) {M0 M : Mem} (hI : WI a h d n kf ff M0 M) {y L : Nat} (hy : y < n) (hL : (L : Int) ≤ a) {p : Int} (h1 : 1 ≤ p) (h9 : p ≤ 9) (hW : W49 (yDc kf ff a h d hold) a n (y + 1) M) {K : Int → Mem → Prop}
    (hK : ∀ M', WI a h d n kf ff M0 M' → M' 47 = M 47 → M' 49 = M 49 → ((yDc kf ff a h d hold y).1 p ≤ (L : Int) → M' 41 3 = (yDc kf ff a h d hold y).2.2 (L : Int) p) → K (nC (tvl (yDc kf ff a h d hold y) (WW (yDc kf ff a h d hold) a n (n - (y + 1))) (L : Int) p)) M') :
    TI i6_timeWith 8 [vr 47, vr 36, vr 41, vi (y : Int), vi (L : Int), vi hold, vi p] (LC, M) K := by
  obtain ⟨hf, w0, w1, w2', c0, c1, c2⟩ := hI
  obtain ⟨k1, k2, hk⟩ := c2 y hy
  have hP0 := hP
  obtain ⟨p1, p2, p3, p4⟩ := hP
  have hb : BOK hold p := ⟨p4, h1, h9⟩
  have hLd := sLoad_le (h := h) (hold := hold) hk p2.1 p2.2 p4.1 p4.2
  have hTn := sTen_le hk hb
  have hY : ∀ y, y < n → YOK (yDc kf ff a h d hold y) a := fun y hy => yDc_ok (c2 y hy).2.2 hP0
  have m38 : M 38 y = kf y := by rw [hf 38 (by omega) (by omega) (by omega)]; exact k1
  have m40 : M 40 y = ff y := by rw [hf 40 (by omega) (by omega) (by omega)]; exact k2
  have e1 : rd M 38 20 (y : Int) = kf y := by rw [rd_in (by omega) (by omega) (by omega)]; exact m38
  have e2 : rd M 40 20 (y : Int) = ff y := by rw [rd_in (by omega) (by omega) (by omega)]; exact m40
  have et : f8_tires M 41 36 (y : Int) hold p = sLoad (kf y) (ff y) h hold + p := by
    show f4_loadOn (rd M 38 20 (y : Int)) (rd M 40 20 (y : Int)) (M 41 1) hold + p = _
    rw [e1, e2, w1, f4_load hk p2.1 p2.2 p4.1 p4.2]
  refine W6_timeWith_0_47_36_41 ?_
  rw [et]
  refine ⟨w2, fun g => ?_, fun g => ⟨wb0, ?_⟩⟩
  · rw [wlt (by omega) (by omega) (by omega) (by omega)] at g
    have := hK M ⟨hf, w0, w1, w2', c0, c1, c2⟩ rfl rfl (fun z => by have z' : sLoad (kf y) (ff y) h hold + p ≤ (L : Int) := z; omega)
    rw [tvl_n g, nC_n] at this
    exact ⟨_, M, rfl, rfl, this⟩
  · rw [wlt (by omega) (by omega) (by omega) (by omega)] at g
    obtain ⟨M1, hM1⟩ : ∃ M1, M1 = g8_goesOnWith M 41 (L : Int) := ⟨_, rfl⟩
    rw [← hM1]
    have a0 : M1 41 0 = a := by rw [hM1]; unfold g8_goesOnWith; simp [up]; exact w0
    have a1 : M1 41 1 = h := by rw [hM1]; unfold g8_goesOnWith; simp [up]; exact w1
    have a2 : M1 41 2 = d := by rw [hM1]; unfold g8_goesOnWith; simp [up]; exact w2'
    have a3 : M1 41 3 = (L : Int) := by rw [hM1]; unfold g8_goesOnWith; simp [up]
    have a4 : M1 41 4 = 0 := by rw [hM1]; unfold g8_goesOnWith; simp [up]
    have a7 : M1 41 7 = 0 := by rw [hM1]; unfold g8_goesOnWith; simp [up]
    have af : ∀ i, i ≠ 41 → M1 i = M i := fun i hi => by rw [hM1]; unfold g8_goesOnWith; rw [up_fr hi, up_fr hi, up_fr hi]
    refine T_go1 hk hb (by omega) (by rw [af 38 (by omega)]; exact m38) (by rw [af 40 (by omega)]; exact m40) a7 (by omega) (by omega) (by omega) (by omega) (by rw [a1, a3]; omega) a4 (fun M2 f2 f0 f1 f2' f3 f4 => ?_)
    rw [a0, a1, a2, a3] at f3
    rw [a2] at f4
    have g0 : M2 41 3 = (yDc kf ff a h d hold y).2.2 (L : Int) p := f3
    have g4 : M2 41 4 = (yDc kf ff a h d hold y).2.1 p := f4
    have y4 := (hY y hy p h1 h9).2.2.2 (L : Int) (by show sLoad (kf y) (ff y) h hold + p ≤ (L : Int); omega) hL
    have y3 := (hY y hy p h1 h9).2.2.1
    have hI2 : WI a h d n kf ff M0 M2 := ⟨fun i h41 h47 h49 => by rw [f2 i h41, af i h41]; exact hf i h41 h47 h49, by rw [f0]; exact a0, by rw [f1]; exact a1, by rw [f2']; exact a2, c0, c1, c2⟩
    have e49 : M2 49 = M 49 := by rw [f2 49 (by omega), af 49 (by omega)]
    have e36 : M2 36 0 = (n : Int) := by rw [f2 36 (by omega), af 36 (by omega), hf 36 (by omega) (by omega) (by omega)]; exact c0
    have := hK M2 hI2 (by rw [f2 47 (by omega), af 47 (by omega)]) e49 (fun _ => g0)
    rw [tvl_f (show ¬ (L : Int) < (yDc kf ff a h d hold y).1 p from by show ¬ (L : Int) < sLoad (kf y) (ff y) h hold + p; omega)] at this
    refine W6_timeWith_65_47_36_41 ⟨_, M2, rfl, rfl, ?_⟩
    obtain ⟨L', hL'⟩ : ∃ L' : Nat, (yDc kf ff a h d hold y).2.2 (L : Int) p = (L' : Int) := ⟨((yDc kf ff a h d hold y).2.2 (L : Int) p).toNat, by omega⟩
    rw [hL'] at this y4 g0
    have hv := nC_rel (WW_b hY (n - (y + 1)) (by omega) (L' : Int) y4.2) (by omega)
    have eb : (if wr ((y : Int) + 1) < wr (M2 36 0) then rd M2 49 1220 (f6_placeOf ((y : Int) + 1) (M2 41 3)) else 0) = nC (WW (yDc kf ff a h d hold) a n (n - (y + 1)) (L' : Int)) := by
      rw [e36, g0, place_eq, wr_id (by omega) (by omega), wr_id (by omega) (by omega)]
      by_cases c : (y : Int) + 1 < (n : Int)
      · rw [if_pos c, rd_in (by omega) (by omega) (by omega), show (61 * ((y : Int) + 1) + (L' : Int)).toNat = 61 * (y + 1) + L' by omega, e49]
        exact hW (y + 1) (Nat.le_refl _) (by omega) L' y4.2
      · rw [if_neg c, show n - (y + 1) = 0 by omega]
        rfl
    rw [eb, g4]
    obtain ⟨w, hw⟩ : ∃ w, w = WW (yDc kf ff a h d hold) a n (n - (y + 1)) (L' : Int) := ⟨_, rfl⟩
    rw [← hw] at hv this ⊢
    rw [mn_eq (by omega) (by omega) (by omega) (by omega)]
    have e : min ((yDc kf ff a h d hold y).2.1 p + nC w) 10000000 = nC (adN ((yDc kf ff a h d hold y).2.1 p) w) := by
      rcases hv with ⟨v1, v2, v3⟩ | ⟨v1, v2⟩
      · rw [adN_f (by omega), nC_f (by omega), nC_f (by omega)]; omega
      · rw [v1, adN_n, nC_n]; omega
    rw [e]; exact this
theorem L_ga {a h d hold : Int} {n : Nat} {kf ff : Nat → Int} (hP : PB a h d hold) {M0 : Mem} {y L : Nat} (hy : y < n) (hL : (L : Int) ≤ a) {m47 m49 : Nat → Int} {K : Int → Mem → Prop} {R : Int}
    (hK : ∀ M', WI a h d n kf ff M0 M' → M' 47 = m47 → M' 49 = m49 → K (nC R) M') : ∀ (k : Nat) (p b : Int) (M : Mem), p + (k : Int) = 10 → 1 ≤ p → VB 5000 b → WI a h d n kf ff M0 M → M 47 = m47 → M 49 = m49 → W49 (yDc kf ff a h d hold) a n (y + 1) M → min b (gvF (yDc kf ff a h d hold y) (WW (yDc kf ff a h d hold) a n (n - (y + 1))) (L : Int) k p) = R →
    TA i6_goingAt 7 [some (vr 47), some (vr 36), some (vr 41), some (vi (y : Int)), some (vi (L : Int)), some (vi hold), some (vi (nC b)), some (vi p)] [] (LC, M) (fun rv G' => ∃ r M', rv = some (vi r) ∧ G' = (LC, M') ∧ K r M')
  | 0, p, b, M, hk, h1, hb, hI, e47, e49, hW, hR => by
    have e : b = R := by
      rw [← hR]; show b = min b 9999999
      have := hb.le (by omega); omega
    refine W6_goingAt_7_47_36_41 ⟨fun _ => ⟨_, M, rfl, rfl, by rw [e]; exact hK M hI e47 e49⟩, fun z => ?_⟩
    rw [wlt (by omega) (by omega) (by omega) (by omega)] at z; omega
  | k + 1, p, b, M, hk, h1, hb, hI, e47, e49, hW, hR => by
    have c2 := hI.2.2.2.2.2.2
    have c1 := hI.2.2.2.2.2.1
    have hY : ∀ y, y < n → YOK (yDc kf ff a h d hold y) a := fun y hy => yDc_ok (c2 y hy).2.2 hP
    have hX : ∀ L', 0 ≤ L' → L' ≤ a → VB 4000 (WW (yDc kf ff a h d hold) a n (n - (y + 1)) L') := fun L' _ h2 => VB.mono (WW_b hY (n - (y + 1)) (by omega) L' h2) (by omega)
    have hv := VB.mono (c := 5000) (VB_tv (hY y hy) hX hL h1 (by omega)) (by omega)
    refine W6_goingAt_7_47_36_41 ⟨fun z => ?_, fun _ => T_tw hP hI hy hL h1 (by omega) hW (fun M' hI' f47 f49 _ => ?_)⟩
    · rw [wlt (by omega) (by omega) (by omega) (by omega)] at z; omega
    · rw [nC_min hb hv (by omega)]
      refine L_ga hP hy hL hK k (p + 1) _ M' (by omega) (by omega) (VB_min hb hv) hI' (by rw [f47]; exact e47) (by rw [f49]; exact e49) (hW.fr f49) ?_
      rw [← hR, gv_s]; omega
theorem T_ga {a h d hold : Int} {n : Nat} {kf ff : Nat → Int} (hP : PB a h d hold) {M0 M : Mem} (hI : WI a h d n kf ff M0 M) {y L : Nat} (hy : y < n) (hL : (L : Int) ≤ a) (hW : W49 (yDc kf ff a h d hold) a n (y + 1) M) {K : Int → Mem → Prop}
    (hK : ∀ M', WI a h d n kf ff M0 M' → M' 47 = M 47 → M' 49 = M 49 → K (nC (gvl (yDc kf ff a h d hold y) (WW (yDc kf ff a h d hold) a n (n - (y + 1))) (L : Int))) M') : TI i6_goingAt 8 [vr 47, vr 36, vr 41, vi (y : Int), vi (L : Int), vi hold] (LC, M) K := by
  have c2 := hI.2.2.2.2.2.2
  have c1 := hI.2.2.2.2.2.1
  have hY : ∀ y, y < n → YOK (yDc kf ff a h d hold y) a := fun y hy => yDc_ok (c2 y hy).2.2 hP
  have hX : ∀ L', 0 ≤ L' → L' ≤ a → VB 4000 (WW (yDc kf ff a h d hold) a n (n - (y + 1)) L') := fun L' _ h2 => VB.mono (WW_b hY (n - (y + 1)) (by omega) L' h2) (by omega)
  have hv := (VB_gv (hY y hy) hX hL 9 1 (by omega) (by omega)).le (by omega)
  refine W6_goingAt_0_47_36_41 (L_ga hP hy hL hK 9 1 9999999 M (by omega) (by omega) (Or.inr rfl) hI rfl rfl hW ?_)
  show min 9999999 (gvF (yDc kf ff a h d hold y) (WW (yDc kf ff a h d hold) a n (n - (y + 1))) (L : Int) 9 1) = gvF (yDc kf ff a h d hold y) (WW (yDc kf ff a h d hold) a n (n - (y + 1))) (L : Int) 9 1
  omega
theorem L_lpa {a h d hold : Int} {n : Nat} {kf ff : Nat → Int} (hP : PB a h d hold) {M0 : Mem} {y L : Nat} (hy : y < n) (hL : (L : Int) ≤ a) {m47 m49 : Nat → Int} {K : Int → Mem → Prop} {w R : Int} (hw : VB 5000 w)
    (hK : ∀ M', WI a h d n kf ff M0 M' → M' 47 = m47 → M' 49 = m49 → K R M') : ∀ (k : Nat) (p : Int) (M : Mem), p + (k : Int) = 9 → 1 ≤ p → WI a h d n kf ff M0 M → M 47 = m47 → M 49 = m49 → W49 (yDc kf ff a h d hold) a n (y + 1) M → gvF (yDc kf ff a h d hold y) (WW (yDc kf ff a h d hold) a n (n - (y + 1))) (L : Int) (k + 1) p = w → pmF (yDc kf ff a h d hold y) (WW (yDc kf ff a h d hold) a n (n - (y + 1))) (L : Int) (k + 1) p = R →
    TA i6_leastPaceAt 18 [some (vr 47), some (vr 36), some (vr 41), some (vi (y : Int)), some (vi (L : Int)), some (vi hold), some (vi (nC w)), some (vi p)] [] (LC, M) (fun rv G' => ∃ r M', rv = some (vi r) ∧ G' = (LC, M') ∧ K r M')
  | 0, p, M, hk, h1, hI, e47, e49, hW, hg, hR => by
    have c2 := hI.2.2.2.2.2.2
    have c1 := hI.2.2.2.2.2.1
    have hY : ∀ y, y < n → YOK (yDc kf ff a h d hold y) a := fun y hy => yDc_ok (c2 y hy).2.2 hP
    have hX : ∀ L', 0 ≤ L' → L' ≤ a → VB 4000 (WW (yDc kf ff a h d hold) a n (n - (y + 1)) L') := fun L' _ h2 => VB.mono (WW_b hY (n - (y + 1)) (by omega) L' h2) (by omega)
    have hv := (VB_tv (hY y hy) hX hL h1 (by omega)).le (by omega)
    rw [pm_y (show _ ≤ gvF (yDc kf ff a h d hold y) (WW (yDc kf ff a h d hold) a n (n - (y + 1))) (L : Int) 0 (p + 1) from hv.2)] at hR
    refine W6_leastPaceAt_18_47_36_41 ⟨fun z => ?_, fun _ => ⟨_, M, rfl, rfl, by rw [show (9 : Int) = R by omega]; exact hK M hI e47 e49⟩⟩
    rw [wlt (by omega) (by omega) (by omega) (by omega)] at z; omega
  | k + 1, p, M, hk, h1, hI, e47, e49, hW, hg, hR => by
    have c2 := hI.2.2.2.2.2.2
    have c1 := hI.2.2.2.2.2.1
    have hY : ∀ y, y < n → YOK (yDc kf ff a h d hold y) a := fun y hy => yDc_ok (c2 y hy).2.2 hP
    have hX : ∀ L', 0 ≤ L' → L' ≤ a → VB 4000 (WW (yDc kf ff a h d hold) a n (n - (y + 1)) L') := fun L' _ h2 => VB.mono (WW_b hY (n - (y + 1)) (by omega) L' h2) (by omega)
    have hv := VB.mono (c := 5000) (VB_tv (hY y hy) hX hL h1 (by omega)) (by omega)
    have r1 := nC_rel hv (by omega)
    have r2 := nC_rel hw (by omega)
    rw [gv_s] at hg
    refine W6_leastPaceAt_18_47_36_41 ⟨fun _ => T_tw hP hI hy hL h1 (by omega) hW (fun M' hI' f47 f49 _ => ?_), fun z => ?_⟩
    · rw [weq (by omega) (by omega) (by omega) (by omega)]
      refine ⟨fun z => ?_, fun z => ?_⟩
      · rw [pm_y (by omega)] at hR
        exact ⟨_, M', rfl, rfl, by rw [hR]; exact hK M' hI' (by rw [f47]; exact e47) (by rw [f49]; exact e49)⟩
      · rw [pm_n (by omega)] at hR
        exact L_lpa hP hy hL hw hK k (p + 1) M' (by omega) (by omega) hI' (by rw [f47]; exact e47) (by rw [f49]; exact e49) (hW.fr f49) (by omega) hR
    · rw [wlt (by omega) (by omega) (by omega) (by omega)] at z; omega
theorem T_lpa {a h d hold : Int} {n : Nat} {kf ff : Nat → Int} (hP : PB a h d hold) {M0 M : Mem} (hI : WI a h d n kf ff M0 M) {y L : Nat} (hy : y < n) (hL : (L : Int) ≤ a) (hW : W49 (yDc kf ff a h d hold) a n y M) (hg : gvl (yDc kf ff a h d hold y) (WW (yDc kf ff a h d hold) a n (n - (y + 1))) (L : Int) = WW (yDc kf ff a h d hold) a n (n - y) (L : Int)) {K : Int → Mem → Prop}
    (hK : ∀ M', WI a h d n kf ff M0 M' → M' 47 = M 47 → M' 49 = M 49 → K (pmF (yDc kf ff a h d hold y) (WW (yDc kf ff a h d hold) a n (n - (y + 1))) (L : Int) 9 1) M') : TI i6_leastPaceAt 8 [vr 47, vr 36, vr 41, vi (y : Int), vi (L : Int), vi hold] (LC, M) K := by
  have c2 := hI.2.2.2.2.2.2
  have c1 := hI.2.2.2.2.2.1
  have p1 := hP.1
  have hY : ∀ y, y < n → YOK (yDc kf ff a h d hold y) a := fun y hy => yDc_ok (c2 y hy).2.2 hP
  refine W6_leastPaceAt_0_47_36_41 ?_
  rw [place_eq, rd_in (by omega) (by omega) (by omega), show (61 * (y : Int) + (L : Int)).toNat = 61 * y + L by omega, hW y (Nat.le_refl _) hy L hL]
  exact L_lpa hP hy hL (VB.mono (WW_b hY (n - y) (by omega) (L : Int) hL) (by omega)) hK 8 1 M (by omega) (by omega) hI rfl rfl (fun y' h1 h2 => hW y' (by omega) h2) hg rfl
theorem WW_top {kf ff : Nat → Int} {a h d hold : Int} (ha : a ≤ 60) {n y : Nat} (hy : y < n) {L : Int} (h0 : 0 ≤ L) (hL : L ≤ a) : WW (yDc kf ff a h d hold) a n (n - y) L = if L < a then min (gvl (yDc kf ff a h d hold y) (WW (yDc kf ff a h d hold) a n (n - (y + 1))) L) (adN 15 (WW (yDc kf ff a h d hold) a n (n - y) (min (L + 10) a))) else gvl (yDc kf ff a h d hold y) (WW (yDc kf ff a h d hold) a n (n - (y + 1))) L := by
  rw [WW_s hy L]
  by_cases g : L < a
  · rw [if_pos g, wv_y g, WW_s hy (min (L + 10) a), wv_six (L := min (L + 10) a) ha (by omega) 1 5 rfl (by omega)]
  · rw [if_neg g, wv_n g]
theorem L_srI {a h d hold : Int} {n : Nat} {kf ff : Nat → Int} (hP : PB a h d hold) {M0 : Mem} {y : Nat} (hy : y < n) {Post : Option AV → GM → Prop}
    (hN : ∀ M', WI a h d n kf ff M0 M' → W49 (yDc kf ff a h d hold) a n y M' → TA i6_searches 8 [some (vr 47), some (vr 36), some (vr 41), some (vi hold), some (vi ((y : Int) + -1)), none, none] [] (LC, M') Post) : ∀ (k : Nat) (M : Mem), (k : Int) ≤ a + 1 → WI a h d n kf ff M0 M → W49 (yDc kf ff a h d hold) a n (y + 1) M → (∀ L : Nat, k ≤ L → (L : Int) ≤ a → M 49 (61 * y + L) = nC (WW (yDc kf ff a h d hold) a n (n - y) (L : Int))) →
    TA i6_searches 19 [some (vr 47), some (vr 36), some (vr 41), some (vi hold), some (vi (y : Int)), some (vi ((k : Int) - 1)), none] [] (LC, M) Post
  | 0, M, hk, hI, hW, hS => by
    refine W6_searches_19_47_36_41 ⟨fun _ => hN M hI (fun y' h1 h2 => ?_), fun z => absurd (by decide) z⟩
    by_cases e : y' = y
    · rw [e]; exact fun L hL => hS L (Nat.zero_le _) hL
    · exact hW y' (by omega) h2
  | k + 1, M, hk, hI, hW, hS => by
    have c2 := hI.2.2.2.2.2.2
    have c1 := hI.2.2.2.2.2.1
    have p1 := hP.1
    have hY : ∀ y, y < n → YOK (yDc kf ff a h d hold y) a := fun y hy => yDc_ok (c2 y hy).2.2 hP
    have hX : ∀ L', 0 ≤ L' → L' ≤ a → VB 4000 (WW (yDc kf ff a h d hold) a n (n - (y + 1)) L') := fun L' _ h2 => VB.mono (WW_b hY (n - (y + 1)) (by omega) L' h2) (by omega)
    rw [show (((k + 1 : Nat)) : Int) - 1 = (k : Int) by omega]
    have hL : (k : Int) ≤ a := by omega
    have hg := nC_rel (VB_gv (hY y hy) hX hL 9 1 (by omega) (by omega)) (by omega)
    refine W6_searches_19_47_36_41 ⟨fun z => ?_, fun _ => T_ga hP hI hy hL hW (fun M1 hI1 f47 f49 => ?_)⟩
    · rw [wr_id (by omega) (by omega)] at z; omega
    · have er : f6_resting M1 47 41 (y : Int) (k : Int) = if (k : Int) < a then 15 + nC (WW (yDc kf ff a h d hold) a n (n - y) (min ((k : Int) + 10) a)) else 10000000 := by
        show (if wr (k : Int) < wr (M1 41 0) then 15 + rd M1 49 1220 (f6_placeOf (y : Int) (mn ((k : Int) + 10) (M1 41 0))) else 10000000) = _
        rw [hI1.2.1, wr_id (by omega) (by omega), wr_id (by omega) (by omega), mn_eq (by omega) (by omega) (by omega) (by omega), place_eq]
        by_cases g : (k : Int) < a
        · obtain ⟨L', hL'⟩ : ∃ L' : Nat, min ((k : Int) + 10) a = (L' : Int) := ⟨(min ((k : Int) + 10) a).toNat, by omega⟩
          rw [if_pos g, if_pos g, hL', rd_in (by omega) (by omega) (by omega), show (61 * (y : Int) + (L' : Int)).toNat = 61 * y + L' by omega, f49, hS L' (by omega) (by omega)]
        · rw [if_neg g, if_neg g]
      have hw := nC_rel (WW_b hY (n - y) (by omega) (min ((k : Int) + 10) a) (by omega)) (by omega)
      have ev : mn (mn (nC (gvl (yDc kf ff a h d hold y) (WW (yDc kf ff a h d hold) a n (n - (y + 1))) (k : Int))) (f6_resting M1 47 41 (y : Int) (k : Int))) 10000000 = nC (WW (yDc kf ff a h d hold) a n (n - y) (k : Int)) := by
        rw [er, WW_top p1.2 hy (by omega) hL]
        obtain ⟨G, hG⟩ : ∃ G, G = gvl (yDc kf ff a h d hold y) (WW (yDc kf ff a h d hold) a n (n - (y + 1))) (k : Int) := ⟨_, rfl⟩
        obtain ⟨w, hw'⟩ : ∃ w, w = WW (yDc kf ff a h d hold) a n (n - y) (min ((k : Int) + 10) a) := ⟨_, rfl⟩
        rw [show gvF (yDc kf ff a h d hold y) (WW (yDc kf ff a h d hold) a n (n - (y + 1))) (k : Int) 9 1 = G from hG.symm] at hg
        rw [← hw'] at hw
        rw [← hG, ← hw']
        by_cases g : (k : Int) < a
        · rw [if_pos g, if_pos g, mn_eq (x := nC G) (by omega) (by omega) (by omega) (by omega), mn_eq (by omega) (by omega) (by omega) (by omega)]
          rcases hw with ⟨v1, v2, v3⟩ | ⟨v1, v2⟩
          · rw [adN_f (by omega), v3]
            rcases hg with ⟨u1, u2, u3⟩ | ⟨u1, u2⟩
            · rw [u3, nC_f (by omega)]; omega
            · rw [u2, nC_f (by omega)]; omega
          · rw [v2, v1, adN_n]
            rcases hg with ⟨u1, u2, u3⟩ | ⟨u1, u2⟩
            · rw [u3, show min G 9999999 = G by omega, u3]; omega
            · rw [u1]; decide
        · rw [if_neg g, if_neg g, mn_eq (x := nC G) (by omega) (by omega) (by omega) (by omega), mn_eq (by omega) (by omega) (by omega) (by omega)]
          omega
      rw [ev, place_eq, wt_in (by omega) (by omega) (by omega), show (61 * (y : Int) + (k : Int)).toNat = 61 * y + k by omega]
      obtain ⟨hf, w0, w1, w2', hC⟩ := hI1
      refine L_srI hP hy hN k _ (by omega) ⟨fun i a b c => by rw [up_fr c]; exact hf i a b c, by rw [up_fr (by omega)]; exact w0, by rw [up_fr (by omega)]; exact w1, by rw [up_fr (by omega)]; exact w2', hC⟩ (fun y' h1 h2 L hL' => ?_) (fun L h1 hL' => ?_)
      · rw [up_sl (by omega), f49]; exact hW y' h1 h2 L hL'
      · by_cases e : L = k
        · rw [e, up_eq]
        · rw [up_sl (by omega), f49]; exact hS L (by omega) hL'
theorem L_sr {a h d hold : Int} {n : Nat} {kf ff : Nat → Int} (hP : PB a h d hold) (hn : 1 ≤ n) {M0 : Mem} {K : Int → Mem → Prop}
    (hK : ∀ M', WI a h d n kf ff M0 M' → W49 (yDc kf ff a h d hold) a n 0 M' → K (nC (WW (yDc kf ff a h d hold) a n n a)) M') : ∀ (k : Nat) (M : Mem), k ≤ n → WI a h d n kf ff M0 M → W49 (yDc kf ff a h d hold) a n k M →
    TA i6_searches 8 [some (vr 47), some (vr 36), some (vr 41), some (vi hold), some (vi ((k : Int) - 1)), none, none] [] (LC, M) (fun rv G' => ∃ r M', rv = some (vi r) ∧ G' = (LC, M') ∧ K r M')
  | 0, M, hk, hI, hW => by
    have p1 := hP.1
    refine W6_searches_8_47_36_41 ⟨fun _ => ⟨_, M, rfl, rfl, ?_⟩, fun z => absurd (by decide) z⟩
    obtain ⟨A, hA⟩ : ∃ A : Nat, a = (A : Int) := ⟨a.toNat, by omega⟩
    have hv := hW 0 (Nat.le_refl _) (by omega) A (by omega)
    rw [← hA, show 61 * 0 + A = A by omega, Nat.sub_zero] at hv
    rw [hI.2.1, place_eq, rd_in (by omega) (by omega) (by omega), show (61 * 0 + a).toNat = A by omega, hv]
    exact hK M hI hW
  | k + 1, M, hk, hI, hW => by
    have c1 := hI.2.2.2.2.2.1
    have p1 := hP.1
    obtain ⟨A, hA⟩ : ∃ A : Nat, a = (A : Int) := ⟨a.toNat, by omega⟩
    rw [show (((k + 1 : Nat)) : Int) - 1 = (k : Int) by omega]
    refine W6_searches_8_47_36_41 ⟨fun z => ?_, fun _ => ?_⟩
    · rw [wr_id (by omega) (by omega)] at z; omega
    · rw [hI.2.1, show a = (((A + 1 : Nat)) : Int) - 1 by omega]
      rw [show (((A + 1 : Nat)) : Int) - 1 = a by omega] 
      have := L_srI hP (show k < n by omega) (Post := fun rv G' => ∃ r M', rv = some (vi r) ∧ G' = (LC, M') ∧ K r M') (fun M' hI' hW' => by
        have := L_sr hP hn hK k M' (by omega) hI' hW'
        rw [show (k : Int) - 1 = (k : Int) + -1 by omega] at this
        exact this) (A + 1) M (by omega) hI hW (fun L h1 h2 => absurd h2 (by omega))
      rw [show (((A + 1 : Nat)) : Int) - 1 = a by omega] at this
      exact this
abbrev sYd (S : ST) (p : Nat) (hold : Int) : Nat → YD := yDc (lk (sF S) (ln (sF S)).toNat) (lf (sF S) (ln (sF S)).toNat) (ar (sF S) p) (hv (sF S) p) (hd (sF S) p) hold
abbrev sWW (S : ST) (p : Nat) (hold : Int) : Int := WW (sYd S p hold) (ar (sF S) p) (yd (sF S)).toNat (yd (sF S)).toNat (ar (sF S) p)
theorem T_soC {S : ST} (hF : FOK (sF S)) {M : Mem} (hM : RC S M) {p : Nat} (hp : p < 6) {hold : Int} (hh : 0 ≤ hold ∧ hold ≤ 2) {K : Int → Mem → Prop}
    (hK : ∀ M', FrC M M' → WI (ar (sF S) p) (hv (sF S) p) (hd (sF S) p) (yd (sF S)).toNat (lk (sF S) (ln (sF S)).toNat) (lf (sF S) (ln (sF S)).toNat) M' M' → W49 (sYd S p hold) (ar (sF S) p) (yd (sF S)).toNat 0 M' → K (nC (sWW S p hold)) M') :
    TI i9_soonestOf 3 [vr 0, vi (p : Int), vi hold] (LC, M) K := by
  have hy := hF.1
  have hl := hF.2.1
  obtain ⟨pa, ph, pd⟩ := hF.P hp
  have hP : PB (ar (sF S) p) (hv (sF S) p) (hd (sF S) p) hold := ⟨pa, ph, pd, hh⟩
  refine W9_soonestOf_0 ?_
  rw [hM.1.2.1]
  refine T_takes_36 hF hl hM.1 (fun M1 f1 hC => ⟨wb0, ?_⟩)
  have hR1 : RCf (sF S) M1 1 := hM.1.fr (fun i hi => f1 i (by omega) (by omega) (by omega))
  obtain ⟨g1, g2, g3, g4, g5, hC'⟩ := CO.start hF hR1 hp hC
  obtain ⟨M2, hM2⟩ : ∃ M2, M2 = g8_starts M1 41 1 (p : Int) := ⟨_, rfl⟩
  rw [← hM2] at g1 g2 g3 g4 hC' ⊢
  refine W6_searches_0_47_36_41 ?_
  rw [hC'.1]
  exact L_sr hP (M0 := M2) (n := (yd (sF S)).toNat) (kf := lk (sF S) (ln (sF S)).toNat) (ff := lf (sF S) (ln (sF S)).toNat) (by omega) (fun M' hI hW => ⟨_, M', rfl, rfl, hK M' (fun i hi => by rw [hI.1 i (by omega) (by omega) (by omega), g1 i (by omega), f1 i (by omega) (by omega) (by omega)]) ⟨fun _ _ _ _ => rfl, hI.2.1, hI.2.2.1, hI.2.2.2.1, by
      obtain ⟨a1, a2, a3⟩ := hI.2.2.2.2
      exact ⟨by rw [hI.1 36 (by omega) (by omega) (by omega)]; exact a1, a2, fun y hy => by rw [hI.1 (36 + 2) (by omega) (by omega) (by omega), hI.1 (36 + 4) (by omega) (by omega) (by omega)]; exact a3 y hy⟩⟩ hW⟩) (yd (sF S)).toNat M2 (Nat.le_refl _) ⟨fun _ _ _ _ => rfl, g2, g3, g4, hC'⟩ (fun y h1 h2 => absurd h2 (by omega))
/-- the way, up to a yard -/
theorem L_gtR {a h d hold : Int} {n : Nat} {kf ff : Nat → Int} (hP : PB a h d hold) {M0 : Mem} {yy : Int} {y : Nat} (hy : y < n) {R R' : Int} {Post : Option AV → GM → Prop}
    (hN : ∀ M' (L : Nat), WI a h d n kf ff M0 M' → W49 (yDc kf ff a h d hold) a n 0 M' → (L : Int) = R → (L : Int) ≤ a → gvl (yDc kf ff a h d hold y) (WW (yDc kf ff a h d hold) a n (n - (y + 1))) (L : Int) = WW (yDc kf ff a h d hold) a n (n - y) (L : Int) → M' 47 1 = R' → TI i6_leastPaceAt 8 [vr 47, vr 36, vr 41, vi (y : Int), vi (L : Int), vi hold] (LC, M') (fun r2 M2 => TI i6_timeWith 8 [vr 47, vr 36, vr 41, vi (y : Int), vi (L : Int), vi hold, vi r2] (LC, up M2 47 0 r2) (fun r3 M3 => TA i6_goesTo 9 [some (vr 47), some (vi yy), some (vr 36), some (vr 41), some (vi hold), some (vi (M3 41 3)), some (vi ((y : Int) + 1)), none] [] (LC, M3) Post))) : ∀ (k : Nat) (i : Int) (L : Nat) (M : Mem), i + (k : Int) = 6 → 0 ≤ i → (L : Int) ≤ a → (60 - 10 * (k : Int) ≤ (L : Int) ∨ (L : Int) = a) → WI a h d n kf ff M0 M → W49 (yDc kf ff a h d hold) a n 0 M → lrF (yDc kf ff a h d hold y) (WW (yDc kf ff a h d hold) a n (n - (y + 1))) a k (L : Int) = R → M 47 1 + crF (yDc kf ff a h d hold y) (WW (yDc kf ff a h d hold) a n (n - (y + 1))) a k (L : Int) = R' →
    TA i6_goesTo 23 [some (vr 47), some (vi yy), some (vr 36), some (vr 41), some (vi hold), some (vi (L : Int)), some (vi (y : Int)), some (vi i)] [] (LC, M) Post
  | 0, i, L, M, hi, h0, hL, hst, hI, hW, hR, hR' => by
    have hR0 : (L : Int) = R := hR
    have hR0' : M 47 1 + 0 = R' := hR'
    refine W6_goesTo_23_47_36_41 ⟨fun z => ?_, fun _ => hN M L hI hW hR0 hL ?_ (by omega)⟩
    · rw [wlt (by omega) (by omega) (by omega) (by omega)] at z; omega
    · rw [WW_s hy (L : Int), ← wv_six hP.1.2 hL 6 0 rfl hst]; rfl
  | k + 1, i, L, M, hi, h0, hL, hst, hI, hW, hR, hR' => by
    have c2 := hI.2.2.2.2.2.2
    have c1 := hI.2.2.2.2.2.1
    have p1 := hP.1
    have hY : ∀ y, y < n → YOK (yDc kf ff a h d hold y) a := fun y hy => yDc_ok (c2 y hy).2.2 hP
    have hX : ∀ L', 0 ≤ L' → L' ≤ a → VB 4000 (WW (yDc kf ff a h d hold) a n (n - (y + 1)) L') := fun L' _ h2 => VB.mono (WW_b hY (n - (y + 1)) (by omega) L' h2) (by omega)
    have hg := nC_rel (VB_gv (hY y hy) hX hL 9 1 (by omega) (by omega)) (by omega)
    have hw := nC_rel (WW_b hY (n - y) (by omega) (L : Int) hL) (by omega)
    have e6 : wvF (yDc kf ff a h d hold y) (WW (yDc kf ff a h d hold) a n (n - (y + 1))) a (k + 1) (L : Int) = WW (yDc kf ff a h d hold) a n (n - y) (L : Int) := by
      rw [WW_s hy (L : Int), wv_six p1.2 hL (5 - k) (k + 1) (by omega) hst]
    have hle := wv_le (Y := yDc kf ff a h d hold y) (X := WW (yDc kf ff a h d hold) a n (n - (y + 1))) (a := a) (L := (L : Int)) (k + 1)
    rw [e6] at hle
    refine W6_goesTo_23_47_36_41 ⟨fun _ => T_ga hP hI hy hL (fun y' h1 h2 => hW y' (Nat.zero_le _) h2) (fun M1 hI1 f47 f49 => ?_), fun z => ?_⟩
    · have hW1 := hW.fr f49
      rw [place_eq, rd_in (by omega) (by omega) (by omega), show (61 * (y : Int) + (L : Int)).toNat = 61 * y + L by omega, hW y (Nat.zero_le _) hy L hL]
      have e7 : (wr (nC (WW (yDc kf ff a h d hold) a n (n - y) (L : Int))) < wr (nC (gvl (yDc kf ff a h d hold y) (WW (yDc kf ff a h d hold) a n (n - (y + 1))) (L : Int)))) ↔ wvF (yDc kf ff a h d hold y) (WW (yDc kf ff a h d hold) a n (n - (y + 1))) a (k + 1) (L : Int) < gvl (yDc kf ff a h d hold y) (WW (yDc kf ff a h d hold) a n (n - (y + 1))) (L : Int) := by
        rw [e6]
        show (wr (nC (WW (yDc kf ff a h d hold) a n (n - y) (L : Int))) < wr (nC (gvF (yDc kf ff a h d hold y) (WW (yDc kf ff a h d hold) a n (n - (y + 1))) (L : Int) 9 1))) ↔ WW (yDc kf ff a h d hold) a n (n - y) (L : Int) < gvF (yDc kf ff a h d hold y) (WW (yDc kf ff a h d hold) a n (n - (y + 1))) (L : Int) 9 1
        rw [wlt (by omega) (by omega) (by omega) (by omega)]
        omega
      rw [e7]
      refine ⟨fun g => ?_, fun g => ?_⟩
      · rw [lr_y g] at hR
        rw [cr_y g] at hR'
        rw [hI1.2.1, mn_eq (by omega) (by omega) (by omega) (by omega)]
        obtain ⟨L', hL'⟩ : ∃ L' : Nat, min ((L : Int) + 10) a = (L' : Int) := ⟨(min ((L : Int) + 10) a).toNat, by omega⟩
        rw [hL'] at hR hR' ⊢
        obtain ⟨hf, w0, w1, w2', hC⟩ := hI1
        refine L_gtR hP hy hN k (i + 1) L' (up M1 47 1 (M1 47 1 + 1)) (by omega) (by omega) (by omega) (by omega) ⟨fun i a b c => by rw [up_fr b]; exact hf i a b c, by rw [up_fr (by omega)]; exact w0, by rw [up_fr (by omega)]; exact w1, by rw [up_fr (by omega)]; exact w2', hC⟩ (hW1.fr (up_fr (by omega))) hR (by rw [up_eq, f47]; omega)
      · rw [lr_n g] at hR
        rw [cr_n g] at hR'
        refine hN M1 L hI1 hW1 hR hL ?_ (by rw [f47]; omega)
        rw [e6] at g
        show gvF (yDc kf ff a h d hold y) (WW (yDc kf ff a h d hold) a n (n - (y + 1))) (L : Int) 9 1 = _
        have g' : ¬ WW (yDc kf ff a h d hold) a n (n - y) (L : Int) < gvF (yDc kf ff a h d hold y) (WW (yDc kf ff a h d hold) a n (n - (y + 1))) (L : Int) 9 1 := g
        have hle' : WW (yDc kf ff a h d hold) a n (n - y) (L : Int) ≤ gvF (yDc kf ff a h d hold y) (WW (yDc kf ff a h d hold) a n (n - (y + 1))) (L : Int) 9 1 := hle
        omega
    · rw [wlt (by omega) (by omega) (by omega) (by omega)] at z; omega
theorem L_gt {a h d hold : Int} {n : Nat} {kf ff : Nat → Int} (hP : PB a h d hold) {M0 : Mem} {yy : Nat} (hyy : yy < n) (hf : WW (yDc kf ff a h d hold) a n n a < 9999999) {K : Mem → Prop}
    (hK : ∀ M', WI a h d n kf ff M0 M' → M' 47 0 = paP (yDc kf ff a h d hold) a n yy (paL (yDc kf ff a h d hold) a n yy) → M' 47 1 = paC (yDc kf ff a h d hold) a n yy (paL (yDc kf ff a h d hold) a n yy) → K M') : ∀ (k y : Nat) (M : Mem), y + k = yy + 1 → WI a h d n kf ff M0 M → W49 (yDc kf ff a h d hold) a n 0 M → (y = yy + 1 → M 47 0 = paP (yDc kf ff a h d hold) a n yy (paL (yDc kf ff a h d hold) a n yy) ∧ M 47 1 = paC (yDc kf ff a h d hold) a n yy (paL (yDc kf ff a h d hold) a n yy)) →
    TA i6_goesTo 9 [some (vr 47), some (vi (yy : Int)), some (vr 36), some (vr 41), some (vi hold), some (vi (paL (yDc kf ff a h d hold) a n y)), some (vi (y : Int)), none] [] (LC, M) (fun rv G' => rv = none ∧ ∃ M', G' = (LC, M') ∧ K M')
  | 0, y, M, hk, hI, hW, hE => by
    have c1 := hI.2.2.2.2.2.1
    obtain ⟨e1, e2⟩ := hE (by omega)
    refine W6_goesTo_9_47_36_41 ⟨fun _ => ⟨rfl, M, rfl, hK M hI e1 e2⟩, fun z => ?_⟩
    rw [wlt (by omega) (by omega) (by omega) (by omega)] at z; omega
  | k + 1, y, M, hk, hI, hW, hE => by
    have c2 := hI.2.2.2.2.2.2
    have c1 := hI.2.2.2.2.2.1
    have p1 := hP.1
    have hy : y < n := by omega
    have en : ((y + 1 : Nat) : Int) = (y : Int) + 1 := by omega
    have hY : ∀ y, y < n → YOK (yDc kf ff a h d hold y) a := fun y hy => yDc_ok (c2 y hy).2.2 hP
    obtain ⟨hpa, hpf⟩ := pa_ok c1 p1.1 hY hf y (by omega)
    obtain ⟨s1, s2, s3, s4, s5⟩ := pa_step c1 p1.1 hY hy hpa hpf
    obtain ⟨L, hL⟩ : ∃ L : Nat, paL (yDc kf ff a h d hold) a n y = (L : Int) := ⟨(paL (yDc kf ff a h d hold) a n y).toNat, by omega⟩
    have eL1 : paL (yDc kf ff a h d hold) a n (y + 1) = (yDc kf ff a h d hold y).2.2 (paR (yDc kf ff a h d hold) a n y (L : Int)) (paP (yDc kf ff a h d hold) a n y (L : Int)) := by rw [← hL]; rfl
    rw [hL] at hpa s1 s2 s3 s4 s5 ⊢
    obtain ⟨hf0, w0, w1, w2', hC⟩ := hI
    refine W6_goesTo_9_47_36_41 ⟨fun z => ?_, fun _ => ?_⟩
    · rw [wlt (by omega) (by omega) (by omega) (by omega)] at z; omega
    · refine L_gtR hP hy (R := paR (yDc kf ff a h d hold) a n y (L : Int)) (R' := paC (yDc kf ff a h d hold) a n y (L : Int)) (fun M1 L1 hI1 hW1 eL hL1 hg e1 => T_lpa hP hI1 hy hL1 (fun y' h1 h2 => hW1 y' (Nat.zero_le _) h2) hg (fun M2 hI2 f47 f49 => ?_)) 6 0 L (up M 47 1 0) (by omega) (by omega) hpa.2 (by omega) ⟨fun i a b c => by rw [up_fr b]; exact hf0 i a b c, by rw [up_fr (by omega)]; exact w0, by rw [up_fr (by omega)]; exact w1, by rw [up_fr (by omega)]; exact w2', hC⟩ (hW.fr (up_fr (by omega))) rfl (by rw [up_eq, Int.zero_add])
      have eP : pmF (yDc kf ff a h d hold y) (WW (yDc kf ff a h d hold) a n (n - (y + 1))) (L1 : Int) 9 1 = paP (yDc kf ff a h d hold) a n y (L : Int) := by rw [eL]
      rw [eP]
      obtain ⟨P, hPP⟩ : ∃ P, P = paP (yDc kf ff a h d hold) a n y (L : Int) := ⟨_, rfl⟩
      rw [← hPP] at s1 s2 s4 eL1 ⊢
      have hW2 := (hW1.fr f49).fr (M' := up M2 47 0 P) (up_fr (by omega))
      obtain ⟨hf2, z0, z1, z2', hC2⟩ := hI2
      refine T_tw hP ⟨fun i a b c => by rw [up_fr b]; exact hf2 i a b c, by rw [up_fr (by omega)]; exact z0, by rw [up_fr (by omega)]; exact z1, by rw [up_fr (by omega)]; exact z2', hC2⟩ hy hL1 s2.1 s2.2 (fun y' h1 h2 => hW2 y' (Nat.zero_le _) h2) (fun M3 hI3 g47 g49 g3 => ?_)
      have e3 := g3 (by rw [eL]; exact s1)
      rw [e3, eL, ← eL1, ← en]
      refine L_gt hP hyy hf hK k (y + 1) M3 (by omega) hI3 (hW2.fr g49) (fun e => ?_)
      have ey : y = yy := by omega
      subst ey
      rw [hL, g47, ← hPP, up_eq, up_sl (by omega), f47, e1]
      exact ⟨rfl, rfl⟩
theorem T_gt {a h d hold : Int} {n : Nat} {kf ff : Nat → Int} (hP : PB a h d hold) {M : Mem} (hI : WI a h d n kf ff M M) (hW : W49 (yDc kf ff a h d hold) a n 0 M) {yy : Nat} (hyy : yy < n) (hf : WW (yDc kf ff a h d hold) a n n a < 9999999) {K : Mem → Prop}
    (hK : ∀ M', WI a h d n kf ff M M' → M' 47 0 = paP (yDc kf ff a h d hold) a n yy (paL (yDc kf ff a h d hold) a n yy) → M' 47 1 = paC (yDc kf ff a h d hold) a n yy (paL (yDc kf ff a h d hold) a n yy) → K M') : TV i6_goesTo 8 [vr 47, vi (yy : Int), vr 36, vr 41, vi hold] (LC, M) K := by
  refine W6_goesTo_0_47_36_41 ?_
  rw [hI.2.1]
  exact L_gt hP hyy hf hK (yy + 1) 0 M (by omega) hI hW (fun e => absurd e (by omega))

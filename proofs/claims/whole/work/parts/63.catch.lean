/-! catches: both sides answer alike -/
abbrev sFour (F : FS) (a b c d : Int) : Prop := (sWho F a ∧ sWho F b ∧ a ≠ b) ∧ (sWho F c ∧ sWho F d ∧ c ≠ d) ∧ a ≠ c ∧ a ≠ d ∧ b ≠ c ∧ b ≠ d
theorem noFour_eq {F : FS} (hF : FOK F) {M : Mem} (hR : RCf F M 1) {a b c d : Int} (ia : IR a) (ib : IR b) (ic : IR c) (id' : IR d) : f9_noFour M a b c d = if ¬ sFour F a b c d then 1 else 0 := by
  unfold f9_noFour
  rw [noTwo_eq hF hR ia ib, noTwo_eq hF hR ic id', ia.w, ib.w, ic.w, id'.w]
  by_cases h1 : sWho F a ∧ sWho F b ∧ a ≠ b
  · rw [if_neg (c := ¬ (sWho F a ∧ sWho F b ∧ a ≠ b)) (fun z => z h1), if_pos wr0]
    by_cases h2 : sWho F c ∧ sWho F d ∧ c ≠ d
    · rw [if_neg (c := ¬ (sWho F c ∧ sWho F d ∧ c ≠ d)) (fun z => z h2), if_pos wr0]
      by_cases h3 : a = c
      · rw [if_pos h3, if_pos (fun z => z.2.2.1 h3)]
      · rw [if_neg h3]
        by_cases h4 : a = d
        · rw [if_pos h4, if_pos (fun z => z.2.2.2.1 h4)]
        · rw [if_neg h4]
          by_cases h5 : b = c
          · rw [if_pos h5, if_pos (fun z => z.2.2.2.2.1 h5)]
          · rw [if_neg h5]
            by_cases h6 : b = d
            · rw [if_pos h6, if_pos (fun z => z.2.2.2.2.2 h6)]
            · rw [if_neg h6, if_neg (fun z => z ⟨h1, h2, h3, h4, h5, h6⟩)]
    · rw [if_pos (c := ¬ (sWho F c ∧ sWho F d ∧ c ≠ d)) h2, if_neg (c := wr 1 = 0) (by rw [wr1]; omega), if_pos (fun z => h2 z.2.1)]
  · rw [if_pos (c := ¬ (sWho F a ∧ sWho F b ∧ a ≠ b)) h1, if_neg (c := wr 1 = 0) (by rw [wr1]; omega), if_pos (fun z => h1 z.1)]
theorem wrongFour_eq {F : FS} (hF : FOK F) {M : Mem} (hR : RMf F M) {a b c d : Int} (ia : IR a) (ib : IR b) (ic : IR c) (id' : IR d) : f10_wrongFour M a b c d = if sFour F a b c d then 0 else -1 := by
  unfold f10_wrongFour
  rw [areTwo_eq hF hR ia ib, areTwo_eq hF hR ic id', ia.w, ib.w, ic.w, id'.w, if_pos wr0]
  by_cases h1 : sWho F a ∧ sWho F b ∧ a ≠ b
  · rw [if_pos h1, if_neg (c := wr 1 = 0) (by rw [wr1]; omega)]
    by_cases h2 : sWho F c ∧ sWho F d ∧ c ≠ d
    · rw [if_pos h2, if_neg (c := wr 1 = 0) (by rw [wr1]; omega)]
      by_cases h3 : a = c
      · rw [if_pos h3, if_neg (fun z => z.2.2.1 h3)]
      · rw [if_neg h3]
        by_cases h4 : a = d
        · rw [if_pos h4, if_neg (fun z => z.2.2.2.1 h4)]
        · rw [if_neg h4]
          by_cases h5 : b = c
          · rw [if_pos h5, if_neg (fun z => z.2.2.2.2.1 h5)]
          · rw [if_neg h5]
            by_cases h6 : b = d
            · rw [if_pos h6, if_neg (fun z => z.2.2.2.2.2 h6)]
            · rw [if_neg h6, if_neg (c := wr 1 = 0) (by rw [wr1]; omega), if_pos ⟨h1, h2, h3, h4, h5, h6⟩]
    · rw [if_neg h2, if_pos wr0, if_neg (fun z => h2 z.2.1)]
  · rw [if_neg h1, if_pos wr0, if_neg (fun z => h1 z.1)]
theorem WR.fw {M M' : Mem} {w : Nat} {s : RS} {j : Int} (h : WR M w s j) (e : M' w = M w) : WR M' w s j := by unfold WR; rw [e]; exact h
theorem timeW_eq {M : Mem} {w : Nat} {s : RS} {j : Int} (h : WR M w s j) : f8_time M w = tvC s := by
  obtain ⟨-, -, hs⟩ := h
  unfold f8_time
  revert hs
  cases s with
  | none => intro hs; rw [show M w 7 = 1 from hs, wr_id (by omega) (by omega)]; rfl
  | some z => intro hs; rw [show M w 7 = 0 from hs.1, wr_id (by omega) (by omega)]; exact hs.2.2.1
/-- whether the first pair does this yard, and is behind it no later -/
def caY (s1 s2 : RS) (t : Int) : Prop := ∃ l t1 a b, s1 = some (l, t1, a, b) ∧ t + t1 ≤ tvC s2
noncomputable def sCa (f1 f2 : Nat → RS) (t : Int) : Nat → Nat → Int
  | 0, _ => -9
  | k + 1, y => @ite _ (caY (f1 (y + 1)) (f2 (y + 1)) t) (Classical.propDecidable _) (y : Int) (sCa f1 f2 t k (y + 1))
theorem sCa_y {f1 f2 : Nat → RS} {t : Int} {k y : Nat} (g : caY (f1 (y + 1)) (f2 (y + 1)) t) : sCa f1 f2 t (k + 1) y = (y : Int) := if_pos g
theorem sCa_n {f1 f2 : Nat → RS} {t : Int} {k y : Nat} (g : ¬ caY (f1 (y + 1)) (f2 (y + 1)) t) : sCa f1 f2 t (k + 1) y = sCa f1 f2 t k (y + 1) := if_neg g
theorem sCa_end {f1 f2 : Nat → RS} {t : Int} : ∀ (k y : Nat), (∀ z, y ≤ z → z < y + k → f1 (z + 1) = none) → sCa f1 f2 t k y = -9
  | 0, _, _ => rfl
  | k + 1, y, h => by
    rw [sCa_n (fun g => by
      obtain ⟨l, t1, a, b, e, -⟩ := g
      rw [h y (by omega) (by omega)] at e; cases e)]
    exact sCa_end k (y + 1) (fun z h1 h2 => h z (by omega) (by omega))
abbrev fCa (F : FS) (p : Nat) (pace : Int) : Nat → RS := fun n => sRaceN F (ln F).toNat p 0 pace n
theorem fCa_none {F : FS} {p : Nat} {pace : Int} {n : Nat} (e : fCa F p pace n = none) (k : Nat) : fCa F p pace (n + k) = none := sRaceN_none e k
theorem fCa_le {F : FS} (hF : FOK F) {p : Nat} (hp : p < 6) {pace : Int} (hb : BOK 0 pace) {n : Nat} (hn : n ≤ 20) {l t a b : Int} (e : fCa F p pace n = some (l, t, a, b)) : 0 ≤ t ∧ t ≤ 4000 := by
  have := sRaceN_le hF (hln hF) hp hb n hn l t a b e
  omega
theorem TB_fCa {F : FS} (hF : FOK F) {p : Nat} (hp : p < 6) {pace : Int} (hb : BOK 0 pace) {n : Nat} (hn : n ≤ 20) : TB (fCa F p pace n) := by
  have h := @fCa_le F hF p hp pace hb n hn
  revert h
  cases fCa F p pace n with
  | none => exact fun _ => True.intro
  | some z =>
    obtain ⟨l, t, a, b⟩ := z
    intro h
    have := h rfl
    show 0 ≤ t ∧ t ≤ 9000
    omega
theorem L_caC {S : ST} (hF : FOK (sF S)) {b d : Nat} (hb6 : b < 6) (hd6 : d < 6) {pace : Int} (hb : BOK 0 pace) {t : Int} (ht : 0 ≤ t ∧ t ≤ 999) {M0 : Mem} (hM0 : RC S M0) (hC : CO M0 36 (yd (sF S)).toNat (lk (sF S) (ln (sF S)).toNat) (lf (sF S) (ln (sF S)).toNat)) : ∀ (k y : Nat) (M : Mem), y + k = (yd (sF S)).toNat → (∀ i, i ≠ 41 → i ≠ 42 → M i = M0 i) → M 41 0 = ar (sF S) b → M 41 1 = hv (sF S) b → M 41 2 = hd (sF S) b → WR M 41 (fCa (sF S) b pace y) (y : Int) → M 42 0 = ar (sF S) d → M 42 1 = hv (sF S) d → M 42 2 = hd (sF S) d → WR M 42 (fCa (sF S) d pace y) (y : Int) →
    TA i9_catches 113 [some (vr 0), none, none, none, none, some (vi pace), some (vi t), none, some (vi (y : Int))] [] (LC, M) (CP S (sCa (fCa (sF S) b pace) (fCa (sF S) d pace) t k y))
  | 0, y, M, hy, hf, a0, a1, a2, hW1, b0, b1, b2, hW2 => by
    have hyd := hF.1
    have frc : RC S M := hM0.fr (fun i hi => hf i (by omega) (by omega))
    refine W9_catches_113 ⟨fun z => ?_, fun _ => ⟨M, rfl, rfl, frc⟩⟩
    rw [hf 36 (by omega) (by omega), hC.1, wlt (by omega) (by omega) (by omega) (by omega)] at z; omega
  | k + 1, y, M, hy, hf, a0, a1, a2, hW1, b0, b1, b2, hW2 => by
    have hyd := hF.1
    have ey : ((y : Int)).toNat = y := by omega
    have en : ((y + 1 : Nat) : Int) = (y : Int) + 1 := by omega
    obtain ⟨k1, k2, k3⟩ := hC.2.2 y (by omega)
    have tb2 := TB_fCa hF hd6 hb (n := y + 1) (by omega)
    have hle2 := tvC_le tb2
    have le1 := @fCa_le (sF S) hF b hb6 pace hb (y + 1) (by omega)
    refine W9_catches_113 ⟨fun _ => ?_, fun z => ?_⟩
    · refine T_goes_41_36 k3 hb (by omega) (by rw [hf 38 (by omega) (by omega), ey]; exact k1) (by rw [hf 40 (by omega) (by omega), ey]; exact k2) hW1 (by omega) (fun M1 f1 f2 f3 f4 f5 => ?_)
      have e42 := f1 42 (by omega)
      refine T_goes_42_36 k3 hb (by omega) (by rw [f1 38 (by omega), hf 38 (by omega) (by omega), ey]; exact k1) (by rw [f1 40 (by omega), hf 40 (by omega) (by omega), ey]; exact k2) (hW2.fw e42) (by omega) (fun M2 g1 g2 g3 g4 g5 => ?_)
      rw [a0, a1, a2] at f5
      rw [e42, b0, b1, b2] at g5
      have w1 : WR M2 41 (fCa (sF S) b pace (y + 1)) ((y : Int) + 1) := WR.fw (M := M1) f5 (g1 41 (by omega))
      have w2 : WR M2 42 (fCa (sF S) d pace (y + 1)) ((y : Int) + 1) := g5
      have hf2 : ∀ i, i ≠ 41 → i ≠ 42 → M2 i = M0 i := fun i i1 i2 => by rw [g1 i i2, f1 i i1]; exact hf i i1 i2
      have frc : RC S M2 := hM0.fr (fun i hi => hf2 i (by omega) (by omega))
      have nxt : ¬ caY (fCa (sF S) b pace (y + 1)) (fCa (sF S) d pace (y + 1)) t → TA i9_catches 113 [some (vr 0), none, none, none, none, some (vi pace), some (vi t), none, some (vi ((y : Int) + 1))] [] (LC, M2) (CP S (sCa (fCa (sF S) b pace) (fCa (sF S) d pace) t (k + 1) y)) := by
        intro g
        rw [sCa_n g]
        have ih := L_caC hF hb6 hd6 hb ht hM0 hC k (y + 1) M2 (by omega) hf2 (by rw [g1 41 (by omega), f2]; exact a0) (by rw [g1 41 (by omega), f3]; exact a1) (by rw [g1 41 (by omega), f4]; exact a2) (by rw [en]; exact w1) (by rw [g2, e42]; exact b0) (by rw [g3, e42]; exact b1) (by rw [g4, e42]; exact b2) (by rw [en]; exact w2)
        rw [en] at ih; exact ih
      rw [timeW_eq w2]
      have hs := w1.2.2
      revert hs nxt le1
      unfold caY
      cases e1 : fCa (sF S) b pace (y + 1) with
      | none =>
        intro le1 nxt hs
        refine ⟨fun z => ?_, fun _ => nxt (fun g => ?_)⟩
        · rw [show M2 41 7 = 1 from hs, wr1] at z; omega
        · obtain ⟨l, t1, x, r, q, -⟩ := g
          cases q
      | some z =>
        obtain ⟨l, t1, x, r⟩ := z
        intro le1 nxt hs
        have h4 := le1 rfl
        rw [show M2 41 7 = 0 from hs.1, show M2 41 4 = t1 from hs.2.2.1]
        refine ⟨fun _ => ⟨fun z => nxt (fun g => ?_), fun z => ⟨M2, ?_, rfl, frc⟩⟩, fun z => absurd wr0 z⟩
        · obtain ⟨l', t1', x', r', q, h9⟩ := g
          injection q with q
          obtain ⟨-, rfl, -, -⟩ := by simpa only [Prod.mk.injEq] using q
          rw [wlt (by omega) (by omega) (by omega) (by omega)] at z; omega
        · rw [wlt (by omega) (by omega) (by omega) (by omega)] at z
          rw [sCa_y ⟨l, t1, x, r, e1, by omega⟩]
    · rw [hf 36 (by omega) (by omega), hC.1, wlt (by omega) (by omega) (by omega) (by omega)] at z; omega
/-- how many yards one does -/
def sDn (f : Nat → RS) : Nat → Nat → Nat
  | 0, y => y
  | k + 1, y => match f (y + 1) with
    | none => y
    | some _ => sDn f k (y + 1)
theorem sDn_ok {f : Nat → RS} : ∀ (k y : Nat), y ≤ sDn f k y ∧ sDn f k y ≤ y + k ∧ (∀ z, y ≤ z → z < sDn f k y → f (z + 1) ≠ none) ∧ (sDn f k y < y + k → f (sDn f k y + 1) = none)
  | 0, y => ⟨Nat.le_refl _, Nat.le_refl _, fun z h1 h2 => by have h2' : z < y := h2; omega, fun h => by have h' : y < y := h; omega⟩
  | k + 1, y => by
    obtain ⟨i1, i2, i3, i4⟩ := sDn_ok (f := f) k (y + 1)
    unfold sDn
    cases e : f (y + 1) with
    | none =>
      dsimp only
      exact ⟨Nat.le_refl _, by omega, fun z h1 h2 => by omega, fun _ => e⟩
    | some x =>
      dsimp only
      refine ⟨by omega, by omega, fun z h1 h2 => ?_, fun h => i4 (by omega)⟩
      by_cases g : z = y
      · rw [g, e]; exact fun c => by cases c
      · exact i3 z (by omega) h2
theorem sDn_s {f : Nat → RS} {k y : Nat} {x : Int × Int × Int × Int} (e : f (y + 1) = some x) : sDn f (k + 1) y = sDn f k (y + 1) := by
  simp only [sDn]; rw [e]
theorem sDn_n {f : Nat → RS} {k y : Nat} (e : f (y + 1) = none) : sDn f (k + 1) y = y := by
  simp only [sDn]; rw [e]
theorem L_dnM {q : Option Nat} {F : FS} (hF : FOK F) {p : Nat} (hp : p < 6) {pace : Int} (hb : BOK 0 pace) {M0 : Mem} (hR : RMf F M0) {K : Int → Mem → Prop} : ∀ (k y : Nat) (M : Mem), y + k = (yd F).toNat → FrR M0 M → M 0 10 = ar F p → M 0 11 = hv F p → M 0 12 = hd F p → WM M (fCa F p pace y) (y : Int) → fCa F p pace y ≠ none → (∀ M', FrR M0 M' → K ((sDn (fCa F p pace) k y : Nat) : Int) M') →
    TA i10_yardsDone 11 [some (vr 0), none, some (vi pace), some (vi (y : Int))] [] (LM q, M) (fun rv G' => ∃ r M', rv = some (vi r) ∧ G' = (LM q, M') ∧ K r M')
  | 0, y, M, hy, hf, h0, h1, h2, hW, hn, hK => by
    have hyd := hF.1
    have hRM := hf.F hR
    refine W10_yardsDone_11 ⟨fun z => ?_, fun _ => ⟨_, M, rfl, rfl, hK M hf⟩⟩
    rw [hRM.1, wlt (by omega) (by omega) (by omega) (by omega)] at z; omega
  | k + 1, y, M, hy, hf, h0, h1, h2, hW, hn, hK => by
    have hyd := hF.1
    have hl := hF.2.1
    have hRM := hf.F hR
    have en : ((y + 1 : Nat) : Int) = (y : Int) + 1 := by omega
    have hKK := hF.K (lane := (ln F).toNat) (y := y) (by omega) (by omega)
    have e20 : (20 * ln F + (y : Int)).toNat = 20 * (ln F).toNat + y := by omega
    refine W10_yardsDone_11 ⟨fun _ => ⟨fun _ => ?_, fun z => absurd (hW.never z) hn⟩, fun z => ?_⟩
    · rw [hRM.2.1]
      refine T_stepOn (k := lk F (ln F).toNat y) (f := lf F (ln F).toNat y) (by omega) hKK hb (by rw [hRM.2.2.2.1 _ (by omega), e20]; rfl) (by rw [hRM.2.2.2.2.1 _ (by omega), e20]; rfl) hW (by omega) (fun M2 f2 hW2 _ => W10_yardsDone_54 ?_)
      rw [h0, h1, h2] at hW2
      have hW3 : WM M2 (fCa F p pace (y + 1)) ((y : Int) + 1) := hW2
      have hs := hW3.2.2.2
      have hf2 := hf.s f2
      have hRM2 := hf2.F hR
      cases e : fCa F p pace (y + 1) with
      | none =>
        rw [e] at hs
        have h7 : M2 0 17 = 1 := hs
        rw [sDn_n e] at hK
        have e0 : (y : Int) + (if wr (M2 0 17) = 0 then 1 else 0) = (y : Int) := by rw [h7, if_neg (by rw [wr1]; omega)]; omega
        rw [e0]
        refine W10_yardsDone_11 ⟨fun _ => ⟨fun z => ?_, fun _ => ⟨_, M2, rfl, rfl, hK M2 hf2⟩⟩, fun _ => ⟨_, M2, rfl, rfl, hK M2 hf2⟩⟩
        rw [h7, wr1] at z; omega
      | some x =>
        rw [e] at hs
        have h7 : M2 0 17 = 0 := hs.1
        rw [sDn_s e] at hK
        have e0 : (y : Int) + (if wr (M2 0 17) = 0 then 1 else 0) = ((y + 1 : Nat) : Int) := by rw [h7, if_pos wr0]; omega
        rw [e0]
        exact L_dnM (q := q) hF hp hb hR k (y + 1) M2 (by omega) hf2 (by rw [f2.2 10 (by omega)]; exact h0) (by rw [f2.2 11 (by omega)]; exact h1) (by rw [f2.2 12 (by omega)]; exact h2) (by rw [en]; exact hW3) (by rw [e]; exact fun c => by cases c) hK
    · rw [hRM.1, wlt (by omega) (by omega) (by omega) (by omega)] at z; omega
theorem T_dnM {q : Option Nat} {F : FS} (hF : FOK F) {p : Nat} (hp : p < 6) {pace : Int} (hb : BOK 0 pace) {M : Mem} (hR : RMf F M) {K : Int → Mem → Prop} (hK : ∀ M', FrR M M' → K ((sDn (fCa F p pace) (yd F).toNat 0 : Nat) : Int) M') : TI i10_yardsDone 4 [vr 0, vi (p : Int), vi pace] (LM q, M) K := by
  obtain ⟨q1, q2, q3, q4, q5⟩ := hR.start hF hp
  exact W10_yardsDone_0 ⟨by rw [wr_id (by omega) (by omega)]; omega, wb0, L_dnM hF hp hb hR (yd F).toNat 0 _ (by omega) q1 q2 q3 q4 q5 (fun c => by cases c) hK⟩
theorem T_layM {q : Option Nat} {F : FS} (hF : FOK F) {p : Nat} (hp : p < 6) {pace : Int} (hb : BOK 0 pace) {M : Mem} (hR : RMf F M) {K : Mem → Prop} (hK : ∀ M', (∀ i, i ≠ 0 → i ≠ 7 → i ≠ 25 → M' i = M i) → (∀ j, (j < 10 ∨ 18 < j) → M' 0 j = M 0 j) → (∀ y, y < (yd F).toNat → ∀ l t a b, fCa F p pace (y + 1) = some (l, t, a, b) → M' 25 y = t) → K M') : TV i10_layBehind 4 [vr 0, vi (p : Int), vi pace] (LM q, M) K := by
  have hyd := hF.1
  have l2 : ∀ (M1 : Mem), (∀ i, i ≠ 0 → i ≠ 7 → M1 i = M i) → (∀ j, (j < 10 ∨ 18 < j) → M1 0 j = M 0 j) → (∀ y, y < (yd F).toNat → ∀ l t a b, fCa F p pace (y + 1) = some (l, t, a, b) → M1 7 y = t) → ∀ (k n : Nat) (M2 : Mem), n + k = 20 → (∀ i, i ≠ 25 → M2 i = M1 i) → (∀ j, j < n → M2 25 j = M1 7 j) →
      TA i10_layBehind 32 [some (vr 0), none, none, some (vi (n : Int))] [] (LM q, M2) (fun rv G' => rv = none ∧ ∃ M', G' = (LM q, M') ∧ K M') := by
    intro M1 g1 g2 g3 k
    induction k with
    | zero =>
      intro n M2 hn f1 f2
      have e : n = 20 := by omega
      subst e
      exact W10_layBehind_32 ⟨fun z => absurd z (by decide), fun _ => ⟨rfl, M2, rfl, hK M2 (fun i i0 i7 i25 => by rw [f1 i i25]; exact g1 i i0 i7) (fun j hj => by rw [f1 0 (by omega)]; exact g2 j hj) (fun y hy l t a b e => by rw [f2 y (by omega)]; exact g3 y hy l t a b e)⟩⟩
    | succ k ih =>
      intro n M2 hn f1 f2
      have en : ((n + 1 : Nat) : Int) = (n : Int) + 1 := by omega
      refine W10_layBehind_32 ⟨fun _ => ?_, fun z => ?_⟩
      · rw [wr_id (x := (n : Int)) (by omega) (by omega), show ((n : Int)).toNat = n by omega]
        have i2 := ih (n + 1) (up M2 25 n (M2 7 n)) (by omega) (fun i hi => by rw [up_fr hi]; exact f1 i hi) (fun j hj => by
          by_cases ej : j = n
          · rw [ej, up_eq, f1 7 (by omega)]
          · rw [up_sl ej]; exact f2 j (by omega))
        rw [en] at i2
        exact ⟨by omega, by omega, i2⟩
      · rw [wlt (by omega) (by omega) (by omega) (by omega)] at z; omega
  have l1 : ∀ (k n : Nat) (M1 : Mem), n + k = 20 → (∀ i, i ≠ 7 → M1 i = M i) → TA i10_layBehind 2 [some (vr 0), some (vi (p : Int)), some (vi pace), some (vi (n : Int))] [] (LM q, M1) (fun rv G' => rv = none ∧ ∃ M', G' = (LM q, M') ∧ K M') := by
    intro k
    induction k with
    | zero =>
      intro n M1 hn f1
      have e : n = 20 := by omega
      subst e
      have hR1 : RMf F M1 := hR.fr (fun i a b => f1 i (by omega)) (fun j a b => by rw [f1 0 (by omega)])
      refine W10_layBehind_2 ⟨fun z => absurd z (by decide), fun _ => T_plainRun hF hb hp hR1 (fun M2 hL => ?_)⟩
      exact l2 M2 (fun i i0 i7 => by rw [hL.1.1 i i0 i7]; exact f1 i i7) (fun j hj => by rw [hL.1.2 j hj, f1 0 (by omega)]) hL.2.2.2 20 0 M2 rfl (fun _ _ => rfl) (fun j hj => absurd hj (by omega))
    | succ k ih =>
      intro n M1 hn f1
      have en : ((n + 1 : Nat) : Int) = (n : Int) + 1 := by omega
      refine W10_layBehind_2 ⟨fun _ => ?_, fun z => ?_⟩
      · rw [wr_id (x := (n : Int)) (by omega) (by omega), show ((n : Int)).toNat = n by omega]
        have i2 := ih (n + 1) (up M1 7 n 9999999) (by omega) (fun i hi => by rw [up_fr hi]; exact f1 i hi)
        rw [en] at i2
        exact ⟨by omega, i2⟩
      · rw [wlt (by omega) (by omega) (by omega) (by omega)] at z; omega
  exact W10_layBehind_0 (l1 20 0 M rfl (fun _ _ => rfl))
theorem L_caM {S : ST} (hF : FOK (sF S)) {b d : Nat} (hb6 : b < 6) (hd6 : d < 6) {pace : Int} (hb : BOK 0 pace) {t : Int} (ht : 0 ≤ t ∧ t ≤ 999) {q : Option Nat} {M : Mem} (hM : RM S M) (h25 : ∀ y, y < (yd (sF S)).toNat → ∀ l t a r, fCa (sF S) b pace (y + 1) = some (l, t, a, r) → M 25 y = t) (h7 : ∀ y, y < (yd (sF S)).toNat → ∀ l t a r, fCa (sF S) d pace (y + 1) = some (l, t, a, r) → M 7 y = t) : ∀ (k y : Nat), y + k = (yd (sF S)).toNat → y ≤ sDn (fCa (sF S) b pace) (yd (sF S)).toNat 0 →
    TA i10_catches 111 [some (vr 0), none, none, none, none, none, some (vi t), none, some (vi ((sDn (fCa (sF S) b pace) (yd (sF S)).toNat 0 : Nat) : Int)), some (vi ((sDn (fCa (sF S) d pace) (yd (sF S)).toNat 0 : Nat) : Int)), some (vi (y : Int))] [] (LM q, M) (MP S (sCa (fCa (sF S) b pace) (fCa (sF S) d pace) t k y)) := by
  intro k
  have hyd := hF.1
  obtain ⟨-, p2, p3, p4⟩ := sDn_ok (f := fCa (sF S) b pace) (yd (sF S)).toNat 0
  obtain ⟨-, r2, r3, r4⟩ := sDn_ok (f := fCa (sF S) d pace) (yd (sF S)).toNat 0
  obtain ⟨N1, hN1⟩ : ∃ N1, N1 = sDn (fCa (sF S) b pace) (yd (sF S)).toNat 0 := ⟨_, rfl⟩
  obtain ⟨N2, hN2⟩ : ∃ N2, N2 = sDn (fCa (sF S) d pace) (yd (sF S)).toNat 0 := ⟨_, rfl⟩
  rw [← hN1] at p2 p3 p4 ⊢
  rw [← hN2] at r2 r3 r4 ⊢
  induction k with
  | zero =>
    intro y hy hyN
    refine W10_catches_111 ⟨fun z => ?_, fun _ => ⟨q, M, rfl, rfl, hM⟩⟩
    rw [wlt (by omega) (by omega) (by omega) (by omega)] at z; omega
  | succ k ih =>
    intro y hy hyN
    have en : ((y + 1 : Nat) : Int) = (y : Int) + 1 := by omega
    by_cases g : y < N1
    · have hs := p3 y (by omega) g
      cases e1 : fCa (sF S) b pace (y + 1) with
      | none => exact absurd e1 hs
      | some z1 =>
        obtain ⟨l, t1, x, r⟩ := z1
        have m25 := h25 y (by omega) l t1 x r e1
        have le1 := fCa_le hF hb6 hb (by omega) e1
        refine W10_catches_111 ⟨fun _ => ?_, fun z => ?_⟩
        · rw [wr_id (x := (y : Int)) (by omega) (by omega), wr_id (x := ((N2 : Nat) : Int)) (by omega) (by omega), show ((y : Int)).toNat = y by omega, m25]
          refine ⟨fun z => ⟨by omega, by omega, ?_⟩, fun z => ?_⟩
          · have hs2 := r3 y (by omega) (by omega)
            cases e2 : fCa (sF S) d pace (y + 1) with
            | none => exact absurd e2 hs2
            | some z2 =>
              obtain ⟨l2, t2, x2, r2'⟩ := z2
              have m7 := h7 y (by omega) l2 t2 x2 r2' e2
              have le2 := fCa_le hF hd6 hb (by omega) e2
              rw [m7, wlt (by omega) (by omega) (by omega) (by omega)]
              refine ⟨fun z3 => ?_, fun z3 => ?_⟩
              · rw [sCa_n (fun c => by
                  obtain ⟨l', t1', x', r', q', h9⟩ := c
                  rw [e1] at q'
                  injection q' with q'
                  obtain ⟨-, rfl, -, -⟩ := by simpa only [Prod.mk.injEq] using q'
                  rw [e2] at h9
                  have h9' : t + t1 ≤ t2 := h9
                  omega)]
                have i2 := ih (y + 1) (by omega) (by omega)
                rw [en] at i2; exact i2
              · rw [sCa_y ⟨l, t1, x, r, e1, by rw [e2]; show t + t1 ≤ t2; omega⟩]
                exact ⟨q, M, rfl, rfl, hM⟩
          · have hn : fCa (sF S) d pace (y + 1) = none := by
              have := fCa_none (r4 (by omega)) (y - N2)
              rw [show N2 + 1 + (y - N2) = y + 1 by omega] at this
              exact this
            rw [sCa_y ⟨l, t1, x, r, e1, by rw [hn]; show t + t1 ≤ 10000000; omega⟩]
            exact ⟨q, M, rfl, rfl, hM⟩
        · rw [wlt (by omega) (by omega) (by omega) (by omega)] at z; omega
    · have hend : sCa (fCa (sF S) b pace) (fCa (sF S) d pace) t (k + 1) y = -9 := sCa_end _ _ (fun z h1 h2 => by
        have := fCa_none (p4 (by omega)) (z - N1)
        rw [show N1 + 1 + (z - N1) = z + 1 by omega] at this
        exact this)
      rw [hend]
      refine W10_catches_111 ⟨fun z => ?_, fun _ => ⟨q, M, rfl, rfl, hM⟩⟩
      rw [wlt (by omega) (by omega) (by omega) (by omega)] at z; omega
theorem SIM_catches {a b c d p t : Int} (ia : IR a) (ib : IR b) (ic : IR c) (id' : IR d) (ip : IR p) (it : IR t) : SIM i9_catches 9 i10_catches 11 [vi a, vi b, vi c, vi d, vi p, vi t] := by
  intro S hS
  have hF := hS.1
  have hyd := hF.1
  have i0 : IR 0 := by unfold IR; omega
  obtain ⟨W, hW⟩ : ∃ W : Int, W = s3w (¬ sFour (sF S) a b c d) ((0 : Int) < 0 ∨ p < 1 ∨ t < 0) ((2 : Int) < 0 ∨ 9 < p ∨ 999 < t) := ⟨_, rfl⟩
  have hWb : -6 ≤ W ∧ W ≤ 0 := by rw [hW]; unfold s3w; (repeat' split) <;> omega
  have kC : ∀ M Post, RC S M → ((W = 0 → TV i2_takes 4 [vr 36, vr 1, vi (M 1 1)] (LC, M) (fun M1 => (wr 0 = 0 ∨ wr 0 = 1) ∧ ((wr 0 = 0 ∨ wr 0 = 1) ∧ (TA i9_catches 113 [some (vr 0), none, none, none, none, some (vi p), some (vi t), none, some (vi 0)] [] (LC, g8_starts (g8_starts M1 41 1 b) 42 1 d) Post)))) ∧ (W ≠ 0 → Post (some (vi (f9_refuse W))) (LC, g9_refuse M W))) → TC i9_catches 9 [vr 0, vi a, vi b, vi c, vi d, vi p, vi t] (LC, M) Post := by
    intro M Post hM hAB
    refine W9_catches_0 (W9_catches_28 (W9_catches_50 ?_))
    have e3 : f9_firstOf (f9_noFour M a b c d) (if wr (f9_low 0 p) = 0 then (if wr t < 0 then (1 : Int) else 0) else 1) (if wr (f9_high 0 p) = 0 then (if wr 999 < wr t then (1 : Int) else 0) else 1) = W := by
      rw [low3 i0 ip, high3 i0 ip, noFour_eq hF hM.1 ia ib ic id', first_eq, it.w, wr_id (x := 999) (by omega) (by omega), hW]
    rw [e3, wr_id (by omega) (by omega)]
    exact hAB
  by_cases g4 : sFour (sF S) a b c d
  · have hW2 : W = if p < 1 ∨ t < 0 then -4 else if 9 < p ∨ 999 < t then -6 else 0 := by
      rw [hW]; unfold s3w
      rw [if_neg (fun z => z g4)]
      (repeat' split) <;> omega
    have kM : ∀ q M Post, RM S M → TA i10_catches 58 [some (vr 0), none, some (vi b), none, some (vi d), some (vi p), some (vi t), none, none, none, none] [vi W] (LM q, up M 0 8 0) Post → TC i10_catches 11 [vr 0, vi a, vi b, vi c, vi d, vi p, vi t] (LM q, M) Post := by
      intro q M Post hM k
      refine W10_catches_0 ⟨isOne_01 hF hM.1 ia, isOne_01 hF hM.1 ib, isOne_01 hF hM.1 ic, isOne_01 hF hM.1 id', fun _ => ?_, fun z => ?_⟩
      · have e3 : (if wr p < wr 1 then (-4) else if wr t < 0 then (-4) else if wr 9 < wr p then (-6) else if wr 999 < wr t then (-6) else 0) = W := by
          rw [hW2, ip.w, it.w, wr1, wr_id (x := 9) (by omega) (by omega), wr_id (x := 999) (by omega) (by omega)]
          (repeat' split) <;> omega
        rw [e3]; exact k
      · rw [wrongFour_eq hF hM.thr.1 ia ib ic id', if_pos g4] at z; exact absurd wr0 z
    by_cases e : W = 0
    · have hx : (1 ≤ p ∧ p ≤ 9) ∧ (0 ≤ t ∧ t ≤ 999) := by
        rw [hW2] at e; (repeat' split at e) <;> omega
      have hB : BOK 0 p := ⟨by omega, hx.1⟩
      obtain ⟨u, hu6, rfl, -⟩ := g4.1.2.1.n hF
      obtain ⟨v, hv6, rfl, -⟩ := g4.2.1.2.1.n hF
      refine ⟨sCa (fCa (sF S) u p) (fCa (sF S) v p) t (yd (sF S)).toNat 0, S, hS, fun M hM => kC M _ hM ⟨fun _ => ?_, fun z => absurd e z⟩, fun q M hM => kM q M _ hM (W10_catches_58 ⟨fun z => ?_, fun _ => ?_⟩)⟩
      · rw [hM.1.2.1]
        refine T_takes_36 hF hF.2.1 hM.1 (fun M1 f1 hC => ⟨wb0, wb0, ?_⟩)
        have g1 : FrC M M1 := fun i hi => f1 i (by omega) (by omega) (by omega)
        have hM1 := hM.fr g1
        obtain ⟨q1, q2, q3, q4, q5, q6⟩ := CO.start hF hM1.1 hu6 hC
        have hM2 := hM1.fr (FrC.of41 q1)
        obtain ⟨pa, ph, pd⟩ := hF.P hv6
        rw [starts_eq hM2.1 hv6]
        obtain ⟨s1, s2, s3, s4, s5⟩ := startsAs_ok (M := g8_starts M1 41 1 (u : Int)) (w := 42) pa ph pd
        exact L_caC hF hu6 hv6 hB hx.2 hM1 hC (yd (sF S)).toNat 0 _ (by omega) (fun i i1 i2 => by rw [s1 i i2]; exact q1 i i1) (by rw [s1 41 (by omega)]; exact q2) (by rw [s1 41 (by omega)]; exact q3) (by rw [s1 41 (by omega)]; exact q4) (WR.fw q5 (s1 41 (by omega))) s2 s3 s4 s5
      · rw [e, wr0] at z; omega
      · have hT := hM.thr
        refine T_dnM hF hu6 hB hT.1 (fun M1 f1 => T_dnM hF hv6 hB (hT.fr f1.q).1 (fun M2 f2 => ?_))
        have hM2 := (hT.fr f1.q).fr f2.q
        refine T_layM hF hu6 hB hM2.1 (fun M3 f3 f4 f5 => ?_)
        have hM3 : RM S M3 := hM2.fr ⟨fun i a b => f3 i (by omega) (by omega) (by omega), fun j hj => f4 j (by omega)⟩
        refine T_plainRun hF hB hv6 hM3.1 (fun M4 hL => ?_)
        exact L_caM hF hu6 hv6 hB hx.2 (hM3.fr hL.1.q) (fun y hy l t a b e => by rw [hL.1.1 25 (by omega) (by omega)]; exact f5 y hy l t a b e) hL.2.2.2 (yd (sF S)).toNat 0 (by omega) (Nat.zero_le _)
    · refine ⟨W, sRef S W, hS.ref _, fun M hM => kC M _ hM ⟨fun z => absurd z e, fun _ => C_ref hM (by omega)⟩, fun q M hM => kM q M _ hM (W10_catches_58 ⟨fun _ => ⟨by rw [wr_id (by omega) (by omega)]; omega, M_ref hM.thr (by omega)⟩, fun z => ?_⟩)⟩
      rw [wr_id (by omega) (by omega)] at z; omega
  · have e : W = -1 := by rw [hW]; unfold s3w; rw [if_pos g4]
    refine ⟨-1, sRef S (-1), hS.ref _, fun M hM => kC M _ hM ⟨fun z => by omega, fun _ => by rw [e]; exact C_ref hM (by omega)⟩, fun q M hM => W10_catches_0 ⟨isOne_01 hF hM.1 ia, isOne_01 hF hM.1 ib, isOne_01 hF hM.1 ic, isOne_01 hF hM.1 id', ?_⟩⟩
    rw [wrongFour_eq hF hM.thr.1 ia ib ic id', if_neg g4]
    refine ⟨fun z => ?_, fun _ => ⟨fun _ => ⟨by decide, M_ref hM.thr (by omega)⟩, fun z => ?_⟩⟩
    · rw [wr_id (by omega) (by omega)] at z; omega
    · rw [wr_id (by omega) (by omega)] at z; omega

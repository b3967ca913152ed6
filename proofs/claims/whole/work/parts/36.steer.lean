/-! steering: off, turn, farthest, the row of offs -/
def sSee (g n : Nat) (f : Nat → Int) : Int := if n < g then 0 else f (n - g)
def sTrn (t s : Int) : Int := if 0 < s then t - 1 else if s < 0 then t + 1 else t
def sSt (g : Nat) : Nat → Int × Int × Int × (Nat → Int)
  | 0 => (0, 1, 0, fun _ => 0)
  | n + 1 => ((sSt g n).1 + (sSt g n).2.1, sTrn (sSt g n).2.1 (sSee g n (upn (sSt g n).2.2.2 n ((sSt g n).1 + (sSt g n).2.1))), max (sSt g n).2.2.1 (max ((sSt g n).1 + (sSt g n).2.1) (-((sSt g n).1 + (sSt g n).2.1))), upn (sSt g n).2.2.2 n ((sSt g n).1 + (sSt g n).2.1))
theorem sSt_le (g : Nat) : ∀ n : Nat, n ≤ 20 → (-21 * (n : Int) ≤ (sSt g n).1 ∧ (sSt g n).1 ≤ 21 * (n : Int)) ∧ (-(n : Int) ≤ (sSt g n).2.1 ∧ (sSt g n).2.1 ≤ 1 + (n : Int)) ∧ (0 ≤ (sSt g n).2.2.1 ∧ (sSt g n).2.2.1 ≤ 420) ∧ ∀ j, -420 ≤ (sSt g n).2.2.2 j ∧ (sSt g n).2.2.2 j ≤ 420
  | 0, _ => ⟨by simp [sSt], by simp [sSt], by simp [sSt], fun j => by simp [sSt]⟩
  | n + 1, hn => by
    obtain ⟨h1, h2, h3, h4⟩ := sSt_le g n (by omega)
    have e : ((n + 1 : Nat) : Int) = (n : Int) + 1 := by omega
    rw [e]
    simp only [sSt]
    refine ⟨by omega, ?_, by omega, fun j => ?_⟩
    · unfold sTrn
      (repeat' split) <;> omega
    · unfold upn
      split
      · omega
      · exact h4 j
theorem ab_eq {x : Int} (h1 : -1000000 ≤ x) (h2 : x ≤ 1000000) : ab x = max x (-x) := by
  unfold ab
  rw [wr_id (by omega) (by omega)]
  split <;> omega
theorem L_offC {F : FS} (hF : FOK F) {g : Nat} (hg : g ≤ 5) {M0 : Mem} (hM0 : RCf F M0 1) {K : Int → Mem → Prop}
    (h : ∀ M', (∀ i, i ≠ 46 → M' i = M0 i) → (∀ j, j < (yd F).toNat → M' 46 j = (sSt g (yd F).toNat).2.2.2 j) → K (sSt g (yd F).toNat).2.2.1 M') : ∀ (k n : Nat) (M : Mem), n + k = (yd F).toNat → (∀ i, i ≠ 46 → M i = M0 i) → (∀ j, j < n → M 46 j = (sSt g n).2.2.2 j) →
    TA i9_farthestOff 10 [some (vr 0), some (vi (g : Int)), some (vi (sSt g n).1), some (vi (sSt g n).2.1), some (vi (sSt g n).2.2.1), some (vi (n : Int)), none] [] (LC, M) (fun rv G' => ∃ r M', rv = some (vi r) ∧ G' = (LC, M') ∧ K r M')
  | 0, n, M, hn, hf, ho => by
    obtain ⟨hy1, hy2⟩ := hF.1
    have e : n = (yd F).toNat := by omega
    subst e
    refine W9_farthestOff_10 ⟨fun z => ?_, fun _ => ⟨_, M, rfl, rfl, h M hf ho⟩⟩
    rw [hf 1 (by omega), hM0.1, wlt (by omega) (by omega) (by omega) (by omega)] at z; omega
  | k + 1, n, M, hn, hf, ho => by
    obtain ⟨hy1, hy2⟩ := hF.1
    obtain ⟨b1, b2, b3, b4⟩ := sSt_le g n (by omega)
    refine W9_farthestOff_10 ⟨fun _ => ?_, fun z => ?_⟩
    · have ey : ((n : Int)).toNat = n := by omega
      rw [wt_in (i := (n : Int)) (by omega) (by omega) (by omega), ey]
      obtain ⟨off, hoff⟩ : ∃ off, off = (sSt g n).1 + (sSt g n).2.1 := ⟨_, rfl⟩
      rw [← hoff]
      have hrow : ∀ j, j < n + 1 → up M 46 n off 46 j = upn (sSt g n).2.2.2 n off j := fun j hj => by
        unfold upn
        by_cases e : j = n
        · rw [if_pos e, e, up_eq]
        · rw [if_neg e, up_sl e]; exact ho j (by omega)
      have es : (if wr (n : Int) < wr (g : Int) then 0 else rd (up M 46 n off) 46 20 ((n : Int) - (g : Int))) = sSee g n (upn (sSt g n).2.2.2 n off) := by
        unfold sSee
        rw [wr_id (by omega) (by omega), wr_id (by omega) (by omega)]
        by_cases e : n < g
        · rw [if_pos (by omega), if_pos e]
        · rw [if_neg (by omega), if_neg e, rd_in (by omega) (by omega) (by omega), show ((n : Int) - (g : Int)).toNat = n - g by omega]
          exact hrow _ (by omega)
      have bs : -420 ≤ sSee g n (upn (sSt g n).2.2.2 n off) ∧ sSee g n (upn (sSt g n).2.2.2 n off) ≤ 420 := by
        unfold sSee upn
        split
        · omega
        · split
          · omega
          · exact b4 _
      have em : mx (sSt g n).2.2.1 (ab off) = max (sSt g n).2.2.1 (max off (-off)) := by
        rw [ab_eq (by omega) (by omega), mx_eq (by omega) (by omega) (by omega) (by omega)]
      rw [es, em]
      have ih := L_offC hF hg hM0 h k (n + 1) (up M 46 n off) (by omega) (fun i hi => by rw [up_fr hi]; exact hf i hi) (fun j hj => by rw [hrow j hj, hoff]; rfl)
      have e1 : ((n + 1 : Nat) : Int) = (n : Int) + 1 := by omega
      simp only [sSt, ← hoff] at ih
      rw [e1] at ih
      unfold sTrn at ih
      refine W9_farthestOff_68 ⟨fun z => ?_, fun z => ⟨fun z2 => ?_, fun z2 => ?_⟩⟩
      · rw [wr_id (by omega) (by omega)] at z
        rw [if_pos z] at ih
        exact ih
      · rw [wr_id (by omega) (by omega)] at z z2
        rw [if_neg z, if_pos z2] at ih
        exact ih
      · rw [wr_id (by omega) (by omega)] at z z2
        rw [if_neg z, if_neg z2] at ih
        exact ih
    · rw [hf 1 (by omega), hM0.1, wlt (by omega) (by omega) (by omega) (by omega)] at z; omega
theorem T_farC {F : FS} (hF : FOK F) {g : Nat} (hg : g ≤ 5) {M : Mem} (hM : RCf F M 1) {K : Int → Mem → Prop}
    (h : ∀ M', (∀ i, i ≠ 46 → M' i = M i) → (∀ j, j < (yd F).toNat → M' 46 j = (sSt g (yd F).toNat).2.2.2 j) → K (sSt g (yd F).toNat).2.2.1 M') : TI i9_farthestOff 7 [vr 0, vi (g : Int)] (LC, M) K :=
  W9_farthestOff_0 (L_offC hF hg hM h (yd F).toNat 0 M (by omega) (fun _ _ => rfl) (fun j hj => absurd hj (by omega)))
theorem L_offM {F : FS} (hF : FOK F) {g : Nat} (hg : g ≤ 5) {q : Option Nat} {M0 : Mem} (hM0 : RMf F M0) {K : Mem → Prop}
    (h : ∀ M', FrQ M0 M' → M' 0 44 = (sSt g (yd F).toNat).2.2.1 → M' 0 45 = (sSt g (yd F).toNat).1 → K M') : ∀ (k n : Nat) (M : Mem), n + k = (yd F).toNat → FrQ M0 M → M 0 44 = (sSt g n).2.2.1 → (∀ j, j < n → M 23 j = (sSt g n).2.2.2 j) →
    TA i10_steer 12 [some (vr 0), some (vi (g : Int)), some (vi (sSt g n).1), some (vi (sSt g n).2.1), some (vi (n : Int)), none] [] (LM q, M) (fun rv G' => rv = none ∧ ∃ M', G' = (LM q, M') ∧ K M')
  | 0, n, M, hn, hf, h44, ho => by
    obtain ⟨hy1, hy2⟩ := hF.1
    have e : n = (yd F).toNat := by omega
    subst e
    refine W10_steer_12 ⟨fun z => ?_, fun _ => ⟨rfl, _, rfl, h _ (hf.tr ⟨fun i a b => up_fr (by omega), fun j hj => up_sl (by omega)⟩) (by rw [up_sl (by omega)]; exact h44) up_eq⟩⟩
    rw [hf.2 2 (by omega), hM0.1, wlt (by omega) (by omega) (by omega) (by omega)] at z; omega
  | k + 1, n, M, hn, hf, h44, ho => by
    obtain ⟨hy1, hy2⟩ := hF.1
    obtain ⟨b1, b2, b3, b4⟩ := sSt_le g n (by omega)
    refine W10_steer_12 ⟨fun _ => ?_, fun z => ?_⟩
    · have ey : ((n : Int)).toNat = n := by omega
      have ew : wr (n : Int) = (n : Int) := wr_id (by omega) (by omega)
      have eg : wr ((n : Int) - (g : Int)) = (n : Int) - (g : Int) := wr_id (by omega) (by omega)
      rw [ew, ey, eg]
      obtain ⟨off, hoff⟩ : ∃ off, off = (sSt g n).1 + (sSt g n).2.1 := ⟨_, rfl⟩
      rw [← hoff]
      have hrow : ∀ j, j < n + 1 → up M 23 n off 23 j = upn (sSt g n).2.2.2 n off j := fun j hj => by
        unfold upn
        by_cases e : j = n
        · rw [if_pos e, e, up_eq]
        · rw [if_neg e, up_sl e]; exact ho j (by omega)
      have ih := L_offM hF hg (q := q) hM0 h k (n + 1) (up (up M 23 n off) 0 44 (max (sSt g n).2.2.1 (max off (-off)))) (by omega) (hf.tr ⟨fun i a b => by rw [up_fr (by omega), up_fr (by omega)], fun j hj => by rw [up_sl (by omega), up_fr (by omega)]⟩) (by rw [up_eq, hoff]; rfl) (fun j hj => by rw [up_fr (by omega), hrow j hj, hoff]; rfl)
      have e1 : ((n + 1 : Nat) : Int) = (n : Int) + 1 := by omega
      simp only [sSt, ← hoff] at ih
      rw [e1] at ih
      -- from the turn on
      have fin : ∀ s : Int, s + (sSt g n).2.1 = s + (sSt g n).2.1 → (sSt g n).2.1 + s = sTrn (sSt g n).2.1 (sSee g n (upn (sSt g n).2.2.2 n off)) → TA i10_steer 75 [some (vr 0), some (vi (g : Int)), some (vi off), none, some (vi (n : Int)), none] [vi s, vi (sSt g n).2.1] (LM q, up M 23 n off) (fun rv G' => rv = none ∧ ∃ M', G' = (LM q, M') ∧ K M') := by
        intro s _ hs
        refine W10_steer_75 (W10_steer_100 ?_)
        have e44 : up M 23 n off 0 44 = (sSt g n).2.2.1 := by rw [up_fr (by omega)]; exact h44
        have ep : f10_plainly off = max off (-off) := by
          unfold f10_plainly
          rw [wr_id (by omega) (by omega)]
          split <;> omega
        have em : (if wr (up M 23 n off 0 44) < wr (f10_plainly off) then f10_plainly off else up M 23 n off 0 44) = max (sSt g n).2.2.1 (max off (-off)) := by
          rw [e44, ep, wr_id (by omega) (by omega), wr_id (by omega) (by omega)]
          split <;> omega
        rw [em, hs]
        exact ih
      refine ⟨by omega, fun z => ?_, fun z => ⟨by omega, ?_⟩⟩
      · refine fin _ rfl ?_
        unfold sSee sTrn
        rw [if_pos (show n < g by omega), wr0, if_neg (by omega), if_neg (by omega), if_neg (by omega), if_neg (by omega)]
        omega
      · refine fin _ rfl ?_
        have es : up M 23 n off 23 ((n : Int) - (g : Int)).toNat = sSee g n (upn (sSt g n).2.2.2 n off) := by
          unfold sSee
          rw [if_neg (show ¬ n < g by omega), show ((n : Int) - (g : Int)).toNat = n - g by omega]
          exact hrow _ (by omega)
        have bs : -420 ≤ sSee g n (upn (sSt g n).2.2.2 n off) ∧ sSee g n (upn (sSt g n).2.2.2 n off) ≤ 420 := by
          unfold sSee upn
          split
          · omega
          · split
            · omega
            · exact b4 _
        rw [es, wr_id (by omega) (by omega)]
        unfold sTrn
        (repeat' split) <;> omega
    · rw [hf.2 2 (by omega), hM0.1, wlt (by omega) (by omega) (by omega) (by omega)] at z; omega

/-! changed over: raceOver, bestChange -/
def chg2 (F : FS) (c : Int) (o : Nat) (e : Int) (p : Nat) : Nat → Option PT := fun y => if (y : Int) = c then some (PW F o) else if (y : Int) = e then some (PW F p) else none
theorem taken_ok {F : FS} (hF : FOK F) {M : Mem} (hR : RCf F M 1) {o : Nat} (ho : o < 6) {s : RS} {j : Int} (hW : WR M 41 s j) (hj : j < 90000) :
    (∀ i, i ≠ 41 → g8_isTakenOver M 41 1 (o : Int) i = M i) ∧ g8_isTakenOver M 41 1 (o : Int) 41 0 = ar F o ∧ g8_isTakenOver M 41 1 (o : Int) 41 1 = hv F o ∧ g8_isTakenOver M 41 1 (o : Int) 41 2 = hd F o ∧ WR (g8_isTakenOver M 41 1 (o : Int)) 41 (sTake (PW F o) s) (j + 1) := by
  obtain ⟨pa, ph, pd⟩ := hF.P ho
  have f : ∀ (M2 : Mem), (∀ i, i ≠ 41 → M2 i = M i) → RCf F M2 1 := fun M2 f => hR.fr (fun i hi => f i (by omega))
  have e0 := (ofP_eq hR ho).1
  have e1 := (ofP_eq (f (up M 41 0 (ar F o)) (fun i hi => up_fr hi)) ho).2.1
  have e2 := (ofP_eq (f (up (up M 41 0 (ar F o)) 41 1 (hv F o)) (fun i hi => by rw [up_fr hi, up_fr hi])) ho).2.2
  unfold g8_isTakenOver
  rw [e0, e1, e2]
  refine ⟨fun i hi => by rw [up_fr hi, up_fr hi, up_fr hi, up_fr hi, up_fr hi], by simp [up], by simp [up], by simp [up], ?_⟩
  obtain ⟨-, hjj, hs⟩ := hW
  refine ⟨by simp [up]; omega, by omega, ?_⟩
  revert hs
  cases s with
  | none => intro hs; have h7 : M 41 7 = 1 := hs; show _ = (1 : Int); simp [up]; exact h7
  | some z =>
    obtain ⟨l, t, a, b⟩ := z
    intro hs
    obtain ⟨s7, s3, s4, s5, s6, b1, b2, b3, b4⟩ := hs
    have q0 : ar F o = (PW F o).1 := rfl
    refine ⟨by simp [up]; exact s7, by simp [up]; exact q0, by simp [up]; omega, by simp [up]; exact s5, by simp [up]; exact s6, ?_, by omega, by omega, by omega⟩
    simp [up]
    show 0 ≤ ar F o ∧ ar F o ≤ ar F o
    omega
theorem L_tOver {F : FS} (hF : FOK F) {lane : Nat} (hlane : lane < 2) {hold pace : Int} (hb : BOK hold pace) {c e : Int} (hc : -100 ≤ c ∧ c ≤ 100) (he : -100 ≤ e ∧ e ≤ 100) {o p : Nat} (ho : o < 6) (hp : p < 6) {M0 : Mem} (hR : RCf F M0 1) (hC : CO M0 36 (yd F).toNat (lk F lane) (lf F lane)) {w0 : PT} {s0 : RS} {K : Int → Mem → Prop}
    (h : ∀ M', (∀ i, i ≠ 41 → M' i = M0 i) → WR M' 41 (sAll (lk F lane) (lf F lane) hold pace (chg2 F c o e p) w0 s0 (yd F).toNat).2.1 (2 * yd F) → K (tvC (sAll (lk F lane) (lf F lane) hold pace (chg2 F c o e p) w0 s0 (yd F).toNat).2.1) M') :
    ∀ (k y : Nat) (M : Mem), y + k = (yd F).toNat → (∀ i, i ≠ 41 → M i = M0 i) → M 41 0 = (sAll (lk F lane) (lf F lane) hold pace (chg2 F c o e p) w0 s0 y).1.1 → M 41 1 = (sAll (lk F lane) (lf F lane) hold pace (chg2 F c o e p) w0 s0 y).1.2.1 → M 41 2 = (sAll (lk F lane) (lf F lane) hold pace (chg2 F c o e p) w0 s0 y).1.2.2 →
      WR M 41 (sAll (lk F lane) (lf F lane) hold pace (chg2 F c o e p) w0 s0 y).2.1 (2 * (y : Int)) →
      TA i9_timeOver 15 [some (vr 0), some (vi (o : Int)), some (vi (p : Int)), some (vi hold), some (vi pace), some (vi c), some (vi e), some (vi (y : Int))] [] (LC, M) (fun rv G' => ∃ r M', rv = some (vi r) ∧ G' = (LC, M') ∧ K r M')
  | 0, y, M, hy, hf, h0, h1, h2, hW => by
    obtain ⟨hy1, hy2⟩ := hF.1
    have hyn : y = (yd F).toNat := by omega
    subst hyn
    refine W9_timeOver_15 ⟨fun q => ?_, fun q => ?_⟩
    · rw [hf 36 (by omega), hC.1, wlt (by omega) (by omega) (by omega) (by omega)] at q
      omega
    · refine ⟨_, M, rfl, rfl, ?_⟩
      have e5 : f8_time M 41 = tvC (sAll (lk F lane) (lf F lane) hold pace (chg2 F c o e p) w0 s0 (yd F).toNat).2.1 := by
        obtain ⟨-, -, hs⟩ := hW
        unfold f8_time
        revert hs
        cases (sAll (lk F lane) (lf F lane) hold pace (chg2 F c o e p) w0 s0 (yd F).toNat).2.1 with
        | none => intro hs; rw [show M 41 7 = 1 from hs, wr_id (by omega) (by omega)]; rfl
        | some z => intro hs; rw [show M 41 7 = 0 from hs.1, wr_id (by omega) (by omega)]; exact hs.2.2.1
      rw [e5]
      have e6 : 2 * (((yd F).toNat : Nat) : Int) = 2 * yd F := by omega
      rw [e6] at hW
      exact h M hf hW
  | k + 1, y, M, hy, hf, h0, h1, h2, hW => by
    obtain ⟨hy1, hy2⟩ := hF.1
    obtain ⟨k1, k2, k3⟩ := hC.2.2 y (by omega)
    have hRM : RCf F M 1 := hR.fr (fun i hi => hf i (by omega))
    have ey : ((y : Int)).toNat = y := by omega
    have e2 : 2 * ((y + 1 : Nat) : Int) = 2 * (y : Int) + 1 + 1 := by omega
    have e1 : ((y + 1 : Nat) : Int) = (y : Int) + 1 := by omega
    -- one changes over
    have change : ∀ x : Nat, x < 6 → chg2 F c o e p y = some (PW F x) → TV i8_goes 9 [vr 41, vr 36, vi (y : Int), vi hold, vi pace] (LC, g8_isTakenOver M 41 1 (x : Int)) (fun M1 => TA i9_timeOver 15 [some (vr 0), some (vi (o : Int)), some (vi (p : Int)), some (vi hold), some (vi pace), some (vi c), some (vi e), some (vi ((y : Int) + 1))] [] (LC, M1) (fun rv G' => ∃ r M', rv = some (vi r) ∧ G' = (LC, M') ∧ K r M')) := by
      intro x hx hch
      obtain ⟨t1, t2, t3, t4, t5⟩ := taken_ok hF hRM hx hW (by omega)
      refine T_goes_41_36 k3 hb (by omega) (by rw [t1 38 (by omega), hf 38 (by omega), ey]; exact k1) (by rw [t1 40 (by omega), hf 40 (by omega), ey]; exact k2) t5 (by omega) (fun M' f1 f2 f3 f4 f5 => ?_)
      rw [t2, t3, t4] at f5
      have eA1 : (sAll (lk F lane) (lf F lane) hold pace (chg2 F c o e p) w0 s0 (y + 1)).1 = PW F x := by simp only [sAll]; rw [hch]
      have eA2 : (sAll (lk F lane) (lf F lane) hold pace (chg2 F c o e p) w0 s0 (y + 1)).2.1 = sStep (lk F lane y) (lf F lane y) (ar F x) (hv F x) (hd F x) hold pace (sTake (PW F x) (sAll (lk F lane) (lf F lane) hold pace (chg2 F c o e p) w0 s0 y).2.1) := by simp only [sAll]; rw [hch]; rfl
      have ih := L_tOver hF hlane hb hc he ho hp hR hC h k (y + 1) M' (by omega) (fun i hi => by rw [f1 i hi, t1 i hi]; exact hf i hi) (by rw [f2, t2, eA1]; rfl) (by rw [f3, t3, eA1]; rfl) (by rw [f4, t4, eA1]; rfl) (by rw [eA2, e2]; exact f5)
      rw [e1] at ih
      exact ih
    refine W9_timeOver_15 ⟨fun _ => ⟨fun px => ?_, fun px => ⟨fun py => ?_, fun py => ?_⟩⟩, fun q => ?_⟩
    · rw [weq (by omega) (by omega) (by omega) (by omega)] at px
      exact change o ho (by unfold chg2; rw [if_pos px])
    · rw [weq (by omega) (by omega) (by omega) (by omega)] at px py
      exact change p hp (by unfold chg2; rw [if_neg px, if_pos py])
    · rw [weq (by omega) (by omega) (by omega) (by omega)] at px py
      have hch : chg2 F c o e p y = none := by unfold chg2; rw [if_neg px, if_neg py]
      refine T_goes_41_36 k3 hb (by omega) (by rw [hf 38 (by omega), ey]; exact k1) (by rw [hf 40 (by omega), ey]; exact k2) hW (by omega) (fun M' f1 f2 f3 f4 f5 => ?_)
      rw [h0, h1, h2] at f5
      have eA1 : (sAll (lk F lane) (lf F lane) hold pace (chg2 F c o e p) w0 s0 (y + 1)).1 = (sAll (lk F lane) (lf F lane) hold pace (chg2 F c o e p) w0 s0 y).1 := by simp only [sAll]; rw [hch]
      have eA2 : (sAll (lk F lane) (lf F lane) hold pace (chg2 F c o e p) w0 s0 (y + 1)).2.1 = sStep (lk F lane y) (lf F lane y) (sAll (lk F lane) (lf F lane) hold pace (chg2 F c o e p) w0 s0 y).1.1 (sAll (lk F lane) (lf F lane) hold pace (chg2 F c o e p) w0 s0 y).1.2.1 (sAll (lk F lane) (lf F lane) hold pace (chg2 F c o e p) w0 s0 y).1.2.2 hold pace (sAll (lk F lane) (lf F lane) hold pace (chg2 F c o e p) w0 s0 y).2.1 := by simp only [sAll]; rw [hch]
      have hW2 : WR M' 41 (sAll (lk F lane) (lf F lane) hold pace (chg2 F c o e p) w0 s0 (y + 1)).2.1 (2 * ((y + 1 : Nat) : Int)) := by
        rw [eA2, e2]
        obtain ⟨z1, z2, z3⟩ := f5
        refine ⟨z1, by omega, ?_⟩
        revert z3
        generalize sStep (lk F lane y) (lf F lane y) (sAll (lk F lane) (lf F lane) hold pace (chg2 F c o e p) w0 s0 y).1.1 (sAll (lk F lane) (lf F lane) hold pace (chg2 F c o e p) w0 s0 y).1.2.1 (sAll (lk F lane) (lf F lane) hold pace (chg2 F c o e p) w0 s0 y).1.2.2 hold pace (sAll (lk F lane) (lf F lane) hold pace (chg2 F c o e p) w0 s0 y).2.1 = g
        cases g with
        | none => exact fun z3 => z3
        | some z =>
          obtain ⟨l, t, a, b⟩ := z
          intro z3
          obtain ⟨s7, s3, s4, s5, s6, b1, b2, b3, b4⟩ := z3
          exact ⟨s7, s3, s4, s5, s6, b1, by omega, by omega, by omega⟩
      have ih := L_tOver hF hlane hb hc he ho hp hR hC h k (y + 1) M' (by omega) (fun i hi => by rw [f1 i hi]; exact hf i hi) (by rw [f2, eA1]; exact h0) (by rw [f3, eA1]; exact h1) (by rw [f4, eA1]; exact h2) hW2
      rw [e1] at ih
      exact ih
    · rw [hf 36 (by omega), hC.1, wlt (by omega) (by omega) (by omega) (by omega)] at q
      omega
def sOver (F : FS) (lane p : Nat) (hold pace : Int) (chg : Nat → Option PT) : RS := (sAll (lk F lane) (lf F lane) hold pace chg (PW F p) (some (ar F p, 0, 0, 0)) (yd F).toNat).2.1
theorem T_tOver {F : FS} (hF : FOK F) {lane : Nat} (hlane : lane < 2) {hold pace : Int} (hb : BOK hold pace) {c e : Int} (hc : -100 ≤ c ∧ c ≤ 100) (he : -100 ≤ e ∧ e ≤ 100) {o p : Nat} (ho : o < 6) (hp : p < 6) {M : Mem} (hR : RCf F M 1) (hC : CO M 36 (yd F).toNat (lk F lane) (lf F lane)) {K : Int → Mem → Prop}
    (h : ∀ M', (∀ i, i ≠ 41 → M' i = M i) → WR M' 41 (sOver F lane p hold pace (chg2 F c o e p)) (2 * yd F) → K (tvC (sOver F lane p hold pace (chg2 F c o e p))) M') : TI i9_timeOver 8 [vr 0, vi (o : Int), vi (p : Int), vi hold, vi pace, vi c, vi e] (LC, M) K := by
  refine W9_timeOver_0 ⟨wb0, ?_⟩
  rw [starts_eq hR hp]
  obtain ⟨pa, ph, pd⟩ := hF.P hp
  obtain ⟨g1, g2, g3, g4, g5⟩ := startsAs_ok (M := M) (w := 41) pa ph pd
  refine L_tOver hF hlane hb hc he ho hp (hR.fr (fun i hi => g1 i (by omega))) ?_ (fun M' f hW => h M' (fun i hi => by rw [f i hi, g1 i hi]) hW) (yd F).toNat 0 _ (by omega) (fun _ _ => rfl) g2 g3 g4 g5
  obtain ⟨c0, c1, c2⟩ := hC
  exact ⟨by rw [g1 36 (by omega)]; exact c0, c1, fun y hy => by rw [g1 (36 + 2) (by omega), g1 (36 + 4) (by omega)]; exact c2 y hy⟩
theorem sAll_le {F : FS} (hF : FOK F) {lane : Nat} (hlane : lane < 2) {hold pace : Int} (hb : BOK hold pace) {chg : Nat → Option PT} (hc : ∀ y w, chg y = some w → ∃ o, o < 6 ∧ w = PW F o) {p : Nat} (hp : p < 6) :
    ∀ n : Nat, n ≤ 20 → ∃ o, o < 6 ∧ (sAll (lk F lane) (lf F lane) hold pace chg (PW F p) (some (ar F p, 0, 0, 0)) n).1 = PW F o ∧ ∀ l t a b, (sAll (lk F lane) (lf F lane) hold pace chg (PW F p) (some (ar F p, 0, 0, 0)) n).2.1 = some (l, t, a, b) → (0 ≤ l ∧ l ≤ ar F o) ∧ 0 ≤ t ∧ t ≤ 400 * (n : Int)
  | 0, _ => by
    obtain ⟨pa, ph, pd⟩ := hF.P hp
    refine ⟨p, hp, rfl, fun l t a b e => ?_⟩
    have e2 : (some (ar F p, (0 : Int), (0 : Int), (0 : Int)) : RS) = some (l, t, a, b) := e
    injection e2 with e2
    obtain ⟨rfl, rfl, rfl, rfl⟩ := by simpa only [Prod.mk.injEq] using e2
    omega
  | n + 1, hn => by
    obtain ⟨o, ho, i1, i2⟩ := sAll_le hF hlane hb hc hp n (by omega)
    have en : ((n + 1 : Nat) : Int) = (n : Int) + 1 := by omega
    rw [en]
    revert i1 i2
    simp only [sAll]
    generalize sAll (lk F lane) (lf F lane) hold pace chg (PW F p) (some (ar F p, 0, 0, 0)) n = g
    obtain ⟨w, s, fr⟩ := g
    intro i1 i2
    dsimp only at i1 i2
    subst i1
    cases hch : chg n with
    | none =>
      dsimp only
      obtain ⟨pa, ph, pd⟩ := hF.P ho
      refine ⟨o, ho, rfl, fun l t a b e => ?_⟩
      cases s with
      | none => exact absurd e (by simp [sStep])
      | some z =>
        obtain ⟨l0, t0, a0, b0⟩ := z
        obtain ⟨j1, j2, j3⟩ := i2 _ _ _ _ rfl
        have := sStep_le (hF.K hlane (by omega)) hb (show (PW F o).1 ≤ 60 from pa.2) ph pd j1 e
        have q : (PW F o).1 = ar F o := rfl
        omega
    | some w =>
      dsimp only
      obtain ⟨x, hx, rfl⟩ := hc n w hch
      obtain ⟨pa, ph, pd⟩ := hF.P hx
      refine ⟨x, hx, rfl, fun l t a b e => ?_⟩
      cases s with
      | none => exact absurd e (by simp [sStep, sTake])
      | some z =>
        obtain ⟨l0, t0, a0, b0⟩ := z
        obtain ⟨j1, j2, j3⟩ := i2 _ _ _ _ rfl
        have q : (PW F x).1 = ar F x := rfl
        have := sStep_le (l := (PW F x).1) (t := t0 + 40) (hF.K hlane (by omega)) hb (show (PW F x).1 ≤ 60 from pa.2) ph pd (by omega) e
        omega
theorem TB_over {F : FS} (hF : FOK F) {lane : Nat} (hlane : lane < 2) {hold pace : Int} (hb : BOK hold pace) {chg : Nat → Option PT} (hc : ∀ y w, chg y = some w → ∃ o, o < 6 ∧ w = PW F o) {p : Nat} (hp : p < 6) : TB (sOver F lane p hold pace chg) := by
  have hy := hF.1
  obtain ⟨o, ho, -, h⟩ := sAll_le hF hlane hb hc hp (yd F).toNat (by omega)
  unfold sOver
  revert h
  generalize (sAll (lk F lane) (lf F lane) hold pace chg (PW F p) (some (ar F p, 0, 0, 0)) (yd F).toNat).2.1 = s
  cases s with
  | none => exact fun _ => True.intro
  | some z => obtain ⟨l, t, a, b⟩ := z; intro h; have := h _ _ _ _ rfl; show 0 ≤ t ∧ t ≤ 9000; omega
theorem chg2_ok {F : FS} {c e : Int} {o p : Nat} (ho : o < 6) (hp : p < 6) : ∀ y w, chg2 F c o e p y = some w → ∃ x, x < 6 ∧ w = PW F x := by
  intro y w h
  unfold chg2 at h
  split at h
  · injection h with h; exact ⟨o, ho, h.symm⟩
  · split at h
    · injection h with h; exact ⟨p, hp, h.symm⟩
    · exact absurd h (by simp)
theorem chg2_over {F : FS} {c : Int} {o p : Nat} {y : Nat} (hy : y < 20) : chg2 F c o 20 p y = overC F c o y := by
  unfold chg2 overC
  split
  · rfl
  · rw [if_neg (by omega)]
theorem sOver_over {F : FS} (hF : FOK F) {lane p o : Nat} {hold pace c : Int} : sOver F lane p hold pace (chg2 F c o 20 p) = sOver F lane p hold pace (overC F c o) := by
  have hy := hF.1
  unfold sOver
  rw [sAll_ext (yd F).toNat (fun y hy2 => chg2_over (by omega))]
theorem toldC {s : RS} (h : TB s) : f9_toldTime (tvC s) = sTold s := by
  have h1 := tvC_le h
  unfold f9_toldTime
  rw [wr_id (by omega) (by omega), wr_id (by omega) (by omega)]
  cases s with
  | none => rfl
  | some z => obtain ⟨l, t, a, b⟩ := z; have h2 : 0 ≤ t ∧ t ≤ 9000 := h; show (if t < (10000000 : Int) then t else -9) = t; rw [if_pos (by omega)]
theorem toldM {s : RS} (h : TB s) : f10_told0 (tvM s) = sTold s := by
  have h1 := tvM_le h
  unfold f10_told0
  rw [wr_id (by omega) (by omega), wr_id (by omega) (by omega)]
  cases s with
  | none => rfl
  | some z => obtain ⟨l, t, a, b⟩ := z; have h2 : 0 ≤ t ∧ t ≤ 9000 := h; show (if t < (9999999 : Int) then t else -9) = t; rw [if_pos (by omega)]

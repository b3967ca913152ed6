/-! the reference's run from its beginning; its plain run -/
theorem T_run {q : Option Nat} {F : FS} (hF : FOK F) {hold pace : Int} (hb : BOK hold pace) {c : Int} (hc : -100 ≤ c ∧ c ≤ 100) {o : Nat} (ho : o < 6) {p : Nat} (hp : p < 6) {M : Mem} (hR : RMf F M) {K : Int → Mem → Prop}
    (h : ∀ M', RanM F M M' (ln F).toNat hold pace (overC F c o) (PW F p) (some (ar F p, 0, 0, 0)) (yd F).toNat → K (tvM (sAll (lk F (ln F).toNat) (lf F (ln F).toNat) hold pace (overC F c o) (PW F p) (some (ar F p, 0, 0, 0)) (yd F).toNat).2.1) M') :
    TI i10_run 7 [vr 0, vi (p : Int), vi hold, vi pace, vi c, vi (o : Int)] (LM q, M) K := by
  refine W10_run_0 ⟨by rw [wr_id (by omega) (by omega)]; omega, by rw [wr_id (by omega) (by omega)]; omega, ?_⟩
  obtain ⟨g1, g2, g3, g4, g5, g6⟩ := walkAs_ok hF hR hp
  obtain ⟨pa, ph, pd⟩ := hF.P hp
  obtain ⟨s1, s2, s3⟩ := start_ok (M := g10_walkAs M (p : Int)) (by rw [g2]; exact pa) (by rw [g3]; exact ph) (by rw [g4]; exact pd)
  rw [g2] at s2
  refine L_run hF hb hc ho hR h (yd F).toNat 0 _ (by omega) (g1.s s1) ?_ ?_ ?_ ?_ ?_ (fun z hz => absurd hz (by omega))
  · rw [s1.2 10 (by omega)]; exact g2
  · rw [s1.2 11 (by omega)]; exact g3
  · rw [s1.2 12 (by omega)]; exact g4
  · exact s2
  · exact s3
/-- no change of who walks -/
theorem sAll_ext {kf ff : Nat → Int} {hold pace : Int} {chg chg' : Nat → Option PT} {w0 : PT} {s0 : RS} : ∀ n : Nat, (∀ y, y < n → chg y = chg' y) → sAll kf ff hold pace chg w0 s0 n = sAll kf ff hold pace chg' w0 s0 n
  | 0, _ => rfl
  | n + 1, h => by
    have h1 := sAll_ext (kf := kf) (ff := ff) (hold := hold) (pace := pace) (w0 := w0) (s0 := s0) n (fun y hy => h y (by omega))
    simp only [sAll]
    rw [h1, h n (by omega)]
theorem overC_neg {F : FS} {c : Int} (hc : c < 0) (o : Nat) : overC F c o = fun _ => none := by
  funext y
  unfold overC
  rw [if_neg (by omega)]
def sFirst (F : FS) (lane p : Nat) (hold pace : Int) (n : Nat) : Int := (sAll (lk F lane) (lf F lane) hold pace (fun _ => none) (PW F p) (some (ar F p, 0, 0, 0)) n).2.2
/-- what is known behind a plain race in the reference -/
def RanP (F : FS) (M0 M : Mem) (lane p : Nat) (hold pace : Int) : Prop :=
  FrR M0 M ∧ (∀ l t a b, sRace F lane p hold pace = some (l, t, a, b) → M 0 16 = l ∧ M 0 13 = t ∧ M 0 14 = a ∧ M 0 15 = b) ∧ M 0 18 = sFirst F lane p hold pace (yd F).toNat ∧
  (∀ y, y < (yd F).toNat → ∀ l t a b, sRaceN F lane p hold pace (y + 1) = some (l, t, a, b) → M 7 y = t)
theorem T_plainRun {q : Option Nat} {F : FS} (hF : FOK F) {hold pace : Int} (hb : BOK hold pace) {p : Nat} (hp : p < 6) {M : Mem} (hR : RMf F M) {K : Int → Mem → Prop}
    (h : ∀ M', RanP F M M' (ln F).toNat p hold pace → K (tvM (sRace F (ln F).toNat p hold pace)) M') :
    TI i10_plainRun 4 [vr 0, vi (p : Int), vi hold, vi pace] (LM q, M) K := by
  have e0 : vi (0 : Int) = vi ((0 : Nat) : Int) := rfl
  refine W10_plainRun_0 ?_
  rw [e0]
  refine T_run hF hb (c := -9) (by omega) (o := 0) (by omega) hp hR (fun M' hM => ?_)
  rw [overC_neg (by omega)] at hM ⊢
  have e1 : ∀ n, (sAll (lk F (ln F).toNat) (lf F (ln F).toNat) hold pace (fun _ => none) (PW F p) (some (ar F p, 0, 0, 0)) n).2.1 = sRaceN F (ln F).toNat p hold pace n := fun n => (sAll_plain n).2
  obtain ⟨h1, h2, h3, h4⟩ := hM
  rw [e1] at h2 ⊢
  refine ⟨_, M', rfl, rfl, h M' ⟨h1, h2, h3, fun y hy l t a b e => h4 y hy l t a b ?_⟩⟩
  rw [e1]; exact e

/-! cup, bestCup, laughs, bestStop: both sides answer alike -/
def sCup (F : FS) (pace f : Int) : Nat → Int
  | 0 => f
  | n + 1 => sCup F pace f n - (if lk F (ln F).toNat n = 5 then min (2 * (pace * sCup F pace f n / 60)) (sCup F pace f n) else pace * sCup F pace f n / 60)
theorem mul9 {p t : Int} (hp : 1 ≤ p ∧ p ≤ 9) (ht : 0 ≤ t) : 0 ≤ p * t ∧ p * t ≤ 9 * t := ⟨Int.mul_nonneg (by omega) ht, Int.mul_le_mul_of_nonneg_right hp.2 ht⟩
theorem sCup_le {F : FS} {pace f : Int} (hp : 1 ≤ pace ∧ pace ≤ 9) (hf : 0 ≤ f ∧ f ≤ 60) : ∀ n, 0 ≤ sCup F pace f n ∧ sCup F pace f n ≤ 60
  | 0 => hf
  | n + 1 => by
    have ih := sCup_le (F := F) hp hf n
    have hz := mul9 hp ih.1
    show 0 ≤ sCup F pace f n - (if lk F (ln F).toNat n = 5 then min (2 * (pace * sCup F pace f n / 60)) (sCup F pace f n) else pace * sCup F pace f n / 60) ∧ sCup F pace f n - (if lk F (ln F).toNat n = 5 then min (2 * (pace * sCup F pace f n / 60)) (sCup F pace f n) else pace * sCup F pace f n / 60) ≤ 60
    generalize pace * sCup F pace f n = z at *
    generalize sCup F pace f n = t at *
    split <;> omega
theorem L_cupC {F : FS} (hF : FOK F) {M : Mem} (hR : RCf F M 1) {pace f : Int} (hp : 1 ≤ pace ∧ pace ≤ 9) (hf : 0 ≤ f ∧ f ≤ 60) {K : Int → Mem → Prop} (h : K (sCup F pace f (yd F).toNat) M) : ∀ (k n : Nat), n + k = (yd F).toNat →
    TA i9_leftInCup 5 [some (vr 0), none, some (vi pace), some (vi (sCup F pace f n)), some (vi (n : Int)), none] [] (LC, M) (fun rv G' => ∃ r M', rv = some (vi r) ∧ G' = (LC, M') ∧ K r M')
  | 0, n, hn => by
    have hy := hF.1
    have e : n = (yd F).toNat := by omega
    subst e
    refine W9_leftInCup_5 ⟨fun z => ?_, fun _ => ⟨_, M, rfl, rfl, h⟩⟩
    rw [hR.1, wlt (by omega) (by omega) (by omega) (by omega)] at z; omega
  | k + 1, n, hn => by
    have hy := hF.1
    have hl := hF.2.1
    have ht := sCup_le (F := F) hp hf n
    have hz := mul9 hp ht.1
    have hk := (hF.K (lane := (ln F).toNat) (y := n) (by omega) (by omega)).1
    have e1 : ((n + 1 : Nat) : Int) = (n : Int) + 1 := by omega
    have ek : f3_kindOf M 1 (M 1 1) (n : Int) = lk F (ln F).toNat n := by rw [hR.2.1, kindOf_eq hR hl (by omega), show ((n : Int)).toNat = n by omega]
    have ih := L_cupC hF hR hp hf h k (n + 1) (by omega)
    have es : sCup F pace f (n + 1) = sCup F pace f n - (if lk F (ln F).toNat n = 5 then min (2 * (pace * sCup F pace f n / 60)) (sCup F pace f n) else pace * sCup F pace f n / 60) := rfl
    rw [es, e1] at ih
    refine W9_leftInCup_5 ⟨fun _ => ⟨by decide, ?_⟩, fun z => ?_⟩
    · rw [ek, wr_id (x := lk F (ln F).toNat n) (by omega) (by omega), wr_id (x := 5) (by omega) (by omega), dv_nat (x := pace * sCup F pace f n) (by omega) (by omega) (by omega) (by omega), mn_eq (by omega) (by omega) (by omega) (by omega)]
      refine ⟨fun z => ?_, fun z => ?_⟩
      · rw [if_pos z] at ih; exact ih
      · rw [if_neg z] at ih; exact ih
    · rw [hR.1, wlt (by omega) (by omega) (by omega) (by omega)] at z; omega
theorem T_cupC {F : FS} (hF : FOK F) {M : Mem} (hR : RCf F M 1) {pace f : Int} (hp : 1 ≤ pace ∧ pace ≤ 9) (hf : 0 ≤ f ∧ f ≤ 60) {K : Int → Mem → Prop} (h : K (sCup F pace f (yd F).toNat) M) : TI i9_leftInCup 6 [vr 0, vi f, vi pace] (LC, M) K := W9_leftInCup_0 (L_cupC hF hR hp hf h (yd F).toNat 0 (by omega))
theorem L_cupM {q : Option Nat} {F : FS} (hF : FOK F) {M : Mem} (hR : RMf F M) {pace f : Int} (hp : 1 ≤ pace ∧ pace ≤ 9) (hf : 0 ≤ f ∧ f ≤ 60) {K : Int → Mem → Prop} (h : K (sCup F pace f (yd F).toNat) M) : ∀ (k n : Nat), n + k = (yd F).toNat →
    TA i10_cupLeft 5 [some (vr 0), none, some (vi pace), some (vi (sCup F pace f n)), some (vi (n : Int)), none] [] (LM q, M) (fun rv G' => ∃ r M', rv = some (vi r) ∧ G' = (LM q, M') ∧ K r M')
  | 0, n, hn => by
    have hy := hF.1
    have e : n = (yd F).toNat := by omega
    subst e
    refine W10_cupLeft_5 ⟨fun z => ?_, fun _ => ⟨_, M, rfl, rfl, h⟩⟩
    rw [hR.1, wlt (by omega) (by omega) (by omega) (by omega)] at z; omega
  | k + 1, n, hn => by
    have hy := hF.1
    have hl := hF.2.1
    have ht := sCup_le (F := F) hp hf n
    have hz := mul9 hp ht.1
    have hk := (hF.K (lane := (ln F).toNat) (y := n) (by omega) (by omega)).1
    have e1 : ((n + 1 : Nat) : Int) = (n : Int) + 1 := by omega
    have e20 : wr (20 * ln F + (n : Int)) = 20 * ln F + (n : Int) := wr_id (by omega) (by omega)
    have ek : M 1 (20 * ln F + (n : Int)).toNat = lk F (ln F).toNat n := by
      rw [hR.2.2.2.1 _ (by omega), show (20 * ln F + (n : Int)).toNat = 20 * (ln F).toNat + n by omega]; rfl
    have ih := L_cupM (q := q) hF hR hp hf h k (n + 1) (by omega)
    have es : sCup F pace f (n + 1) = sCup F pace f n - (if lk F (ln F).toNat n = 5 then min (2 * (pace * sCup F pace f n / 60)) (sCup F pace f n) else pace * sCup F pace f n / 60) := rfl
    rw [es, e1] at ih
    refine W10_cupLeft_5 ⟨fun _ => ⟨by decide, ?_⟩, fun z => ?_⟩
    · rw [hR.2.1, e20]
      refine ⟨by omega, W10_cupLeft_50 ?_⟩
      rw [ek, wr_id (x := lk F (ln F).toNat n) (by omega) (by omega), wr_id (x := 5) (by omega) (by omega), dv_nat (x := pace * sCup F pace f n) (by omega) (by omega) (by omega) (by omega), les (by omega) (by omega) (by split <;> omega) (by split <;> omega)]
      by_cases z : lk F (ln F).toNat n = 5
      · rw [if_pos z] at ih ⊢
        rw [Int.min_comm]; exact ih
      · rw [if_neg z] at ih ⊢
        have : min (sCup F pace f n) (pace * sCup F pace f n / 60) = pace * sCup F pace f n / 60 := by omega
        rw [this]; exact ih
    · rw [hR.1, wlt (by omega) (by omega) (by omega) (by omega)] at z; omega
theorem T_cupM {q : Option Nat} {F : FS} (hF : FOK F) {M : Mem} (hR : RMf F M) {pace f : Int} (hp : 1 ≤ pace ∧ pace ≤ 9) (hf : 0 ≤ f ∧ f ≤ 60) {K : Int → Mem → Prop} (h : K (sCup F pace f (yd F).toNat) M) : TI i10_cupLeft 6 [vr 0, vi f, vi pace] (LM q, M) K := W10_cupLeft_0 (L_cupM hF hR hp hf h (yd F).toNat 0 (by omega))
theorem SIM_cup {f p : Int} (ig : IR f) (ip : IR p) : SIM i9_cup 4 i10_cup 4 [vi f, vi p] := by
  intro S hS
  have hF := hS.1
  have i0 : IR 0 := by unfold IR; omega
  obtain ⟨W, hW⟩ : ∃ W : Int, W = s3w False (f < 0 ∨ p < 1) (60 < f ∨ 9 < p) := ⟨_, rfl⟩
  have hWb : -6 ≤ W ∧ W ≤ 0 := by rw [hW]; unfold s3w; (repeat' split) <;> omega
  have e2 := first_eq (a := False) (b := f < 0 ∨ p < 1) (c := 60 < f ∨ 9 < p)
  rw [if_neg (c := False) (fun z => z), ← hW] at e2
  have kC : ∀ M Post, ((W = 0 → TI i9_leftInCup 6 [vr 0, vi f, vi p] (LC, M) (fun r1 M1 => Post (some (vi r1)) (LC, M1))) ∧ (W ≠ 0 → Post (some (vi (f9_refuse W))) (LC, g9_refuse M W))) → TC i9_cup 4 [vr 0, vi f, vi p] (LC, M) Post := by
    intro M Post hAB
    refine W9_cup_0 (W9_cup_18 (W9_cup_37 ?_))
    have e3 : (if wr (f9_low 0 p) = 0 then (if wr f < 0 then (1 : Int) else 0) else 1) = if f < 0 ∨ p < 1 then 1 else 0 := by
      rw [low_eq i0 ip, ig.w]
      by_cases g : p < 1
      · rw [if_pos (Or.inr g), if_neg (by rw [wr1]; omega), if_pos (Or.inr g)]
      · rw [if_neg (c := (0 : Int) < 0 ∨ p < 1) (by omega), if_pos wr0]
        (repeat' split) <;> omega
    have e4 : (if wr (f9_high 0 p) = 0 then (if wr 60 < wr f then (1 : Int) else 0) else 1) = if 60 < f ∨ 9 < p then 1 else 0 := by
      rw [high_eq i0 ip, ig.w, wr_id (x := 60) (by omega) (by omega)]
      by_cases g : 9 < p
      · rw [if_pos (Or.inr g), if_neg (by rw [wr1]; omega), if_pos (Or.inr g)]
      · rw [if_neg (c := (2 : Int) < 0 ∨ 9 < p) (by omega), if_pos wr0]
        (repeat' split) <;> omega
    rw [e3, e4, e2, wr_id (by omega) (by omega)]
    exact hAB
  have kM : ∀ q M Post, TA i10_cup 37 [some (vr 0), some (vi f), some (vi p), none] [vi W] (LM q, up M 0 8 0) Post → TC i10_cup 4 [vr 0, vi f, vi p] (LM q, M) Post := by
    intro q M Post h
    refine W10_cup_0 ?_
    have e3 : (if wr f < 0 then (-4) else if wr p < wr 1 then (-4) else if wr 60 < wr f then (-6) else if wr 9 < wr p then (-6) else 0) = W := by
      rw [hW, ig.w, ip.w, wr1, wr_id (x := 60) (by omega) (by omega), wr_id (x := 9) (by omega) (by omega)]
      unfold s3w
      rw [if_neg (c := False) (fun z => z)]
      (repeat' split) <;> omega
    rw [e3]; exact h
  by_cases e : W = 0
  · have hx : (0 ≤ f ∧ f ≤ 60) ∧ (1 ≤ p ∧ p ≤ 9) := by
      rw [hW] at e; unfold s3w at e; (repeat' split at e) <;> omega
    have hle := sCup_le (F := sF S) hx.2 hx.1 (yd (sF S)).toNat
    refine ⟨sCup (sF S) p f (yd (sF S)).toNat, S, hS, fun M hM => kC M _ ⟨fun _ => T_cupC hF hM.1 hx.2 hx.1 ⟨M, rfl, rfl, hM⟩, fun z => absurd e z⟩, fun q M hM => kM q M _ (W10_cup_37 ⟨fun z => ?_, fun _ => T_cupM hF hM.thr.1 hx.2 hx.1 ⟨q, _, rfl, rfl, hM.thr⟩⟩)⟩
    rw [e, wr0] at z; omega
  · refine ⟨W, sRef S W, hS.ref _, fun M hM => kC M _ ⟨fun z => absurd z e, fun _ => C_ref hM (by omega)⟩, fun q M hM => kM q M _ (W10_cup_37 ⟨fun _ => ⟨by rw [wr_id (by omega) (by omega)]; omega, M_ref hM.thr (by omega)⟩, fun z => ?_⟩)⟩
    rw [wr_id (by omega) (by omega)] at z; omega
/-- the best f up to n -/
def bC (F : FS) (p : Int) : Nat → Nat
  | 0 => 0
  | n + 1 => if sCup F p ((bC F p n : Nat) : Int) (yd F).toNat < sCup F p ((n + 1 : Nat) : Int) (yd F).toNat then n + 1 else bC F p n
theorem bC_le {F : FS} {p : Int} : ∀ n, bC F p n ≤ n
  | 0 => Nat.le_refl _
  | n + 1 => by
    have := bC_le (F := F) (p := p) n
    unfold bC
    split <;> omega
theorem L_bcC {S : ST} (hF : FOK (sF S)) {p : Int} (hp : 1 ≤ p ∧ p ≤ 9) {M : Mem} (hM : RC S M) : ∀ (k n : Nat), n + k = 60 →
    TA i9_bestCup 38 [some (vr 0), some (vi p), none, some (vi ((bC (sF S) p n : Nat) : Int)), some (vi (sCup (sF S) p ((bC (sF S) p n : Nat) : Int) (yd (sF S)).toNat)), some (vi ((n : Int) + 1)), none] [] (LC, M) (CP S ((bC (sF S) p 60 : Nat) : Int))
  | 0, n, hn => by
    have e : n = 60 := by omega
    subst e
    exact W9_bestCup_38 ⟨fun _ => ⟨M, rfl, rfl, hM⟩, fun z => absurd (by decide) z⟩
  | k + 1, n, hn => by
    have e1 : ((n + 1 : Nat) : Int) = (n : Int) + 1 := by omega
    have hb := bC_le (F := sF S) (p := p) n
    have l1 := sCup_le (F := sF S) (f := (n : Int) + 1) hp (by omega) (yd (sF S)).toNat
    have l2 := sCup_le (F := sF S) (f := ((bC (sF S) p n : Nat) : Int)) hp (by omega) (yd (sF S)).toNat
    have ih := L_bcC hF hp hM k (n + 1) (by omega)
    have es : bC (sF S) p (n + 1) = if sCup (sF S) p ((bC (sF S) p n : Nat) : Int) (yd (sF S)).toNat < sCup (sF S) p ((n + 1 : Nat) : Int) (yd (sF S)).toNat then n + 1 else bC (sF S) p n := rfl
    rw [e1] at es
    refine W9_bestCup_38 ⟨fun z => ?_, fun _ => T_cupC hF hM.1 hp (by omega) ⟨fun z => ?_, fun z => ?_⟩⟩
    · rw [wlt (by omega) (by omega) (by omega) (by omega)] at z; omega
    · rw [wlt (by omega) (by omega) (by omega) (by omega)] at z
      rw [if_pos z] at es
      rw [es, e1] at ih; exact ih
    · rw [wlt (by omega) (by omega) (by omega) (by omega)] at z
      rw [if_neg z] at es
      rw [es, e1] at ih; exact ih
theorem L_bcM {S : ST} (hF : FOK (sF S)) {p : Int} (hp : 1 ≤ p ∧ p ≤ 9) {q : Option Nat} {M : Mem} (hM : RM S M) : ∀ (k n : Nat), n + k = 60 →
    TA i10_bestCup 31 [some (vr 0), some (vi p), some (vi ((bC (sF S) p n : Nat) : Int)), some (vi ((n : Int) + 1))] [] (LM q, M) (MP S ((bC (sF S) p 60 : Nat) : Int))
  | 0, n, hn => by
    have e : n = 60 := by omega
    subst e
    exact W10_bestCup_31 ⟨fun _ => ⟨q, M, rfl, rfl, hM⟩, fun z => absurd (by decide) z⟩
  | k + 1, n, hn => by
    have e1 : ((n + 1 : Nat) : Int) = (n : Int) + 1 := by omega
    have hb := bC_le (F := sF S) (p := p) n
    have l1 := sCup_le (F := sF S) (f := (n : Int) + 1) hp (by omega) (yd (sF S)).toNat
    have l2 := sCup_le (F := sF S) (f := ((bC (sF S) p n : Nat) : Int)) hp (by omega) (yd (sF S)).toNat
    have ih := L_bcM hF hp (q := q) hM k (n + 1) (by omega)
    have es : bC (sF S) p (n + 1) = if sCup (sF S) p ((bC (sF S) p n : Nat) : Int) (yd (sF S)).toNat < sCup (sF S) p ((n + 1 : Nat) : Int) (yd (sF S)).toNat then n + 1 else bC (sF S) p n := rfl
    rw [e1] at es
    refine W10_bestCup_31 ⟨fun z => ?_, fun _ => T_cupM hF hM.1 hp (by omega) (T_cupM hF hM.1 hp (by omega) (W10_bestCup_57 ?_))⟩
    · rw [wlt (by omega) (by omega) (by omega) (by omega)] at z; omega
    · rw [wr_id (x := sCup (sF S) p ((n : Int) + 1) (yd (sF S)).toNat) (by omega) (by omega), wr_id (x := sCup (sF S) p ((bC (sF S) p n : Nat) : Int) (yd (sF S)).toNat) (by omega) (by omega)]
      by_cases z : sCup (sF S) p ((bC (sF S) p n : Nat) : Int) (yd (sF S)).toNat < sCup (sF S) p ((n : Int) + 1) (yd (sF S)).toNat
      · rw [if_pos z] at es ⊢
        rw [es, e1] at ih; exact ih
      · rw [if_neg z] at es ⊢
        rw [es, e1] at ih; exact ih
theorem wrongN_le {x a b : Int} : -6 ≤ s3w False (x < a) (b < x) ∧ s3w False (x < a) (b < x) ≤ 0 := by unfold s3w; (repeat' split) <;> omega
theorem SIM_bestCup {p : Int} (ip : IR p) : SIM i9_bestCup 7 i10_bestCup 4 [vi p] := by
  intro S hS
  have hF := hS.1
  have i0 : IR 0 := by unfold IR; omega
  have i1 : IR 1 := by unfold IR; omega
  have i9 : IR 9 := by unfold IR; omega
  have k1 : f9_firstOf 0 (f9_low 0 p) (f9_high 0 p) = s3w False (p < 1) (9 < p) := by
    have e2 := first_eq (a := False) (b := (0 : Int) < 0 ∨ p < 1) (c := (2 : Int) < 0 ∨ 9 < p)
    rw [if_neg (c := False) (fun z => z)] at e2
    rw [low_eq i0 ip, high_eq i0 ip, e2]
    unfold s3w
    (repeat' split) <;> omega
  have k2 := wrongNumber_eq ip i1 i9
  obtain ⟨W, hW⟩ : ∃ W : Int, W = s3w False (p < 1) (9 < p) := ⟨_, rfl⟩
  have hWb : -6 ≤ W ∧ W ≤ 0 := by rw [hW]; exact wrongN_le
  rw [← hW] at k1 k2
  by_cases e : W = 0
  · have hx : 1 ≤ p ∧ p ≤ 9 := by
      rw [hW] at e; unfold s3w at e; (repeat' split at e) <;> omega
    refine ⟨((bC (sF S) p 60 : Nat) : Int), S, hS, fun M hM => W9_bestCup_0 ⟨fun _ => T_cupC hF hM.1 hx (by omega) (L_bcC hF hx hM 60 0 rfl), fun z => ?_⟩, fun q M hM => W10_bestCup_0 ⟨fun z => ?_, fun _ => L_bcM hF hx hM.thr 60 0 rfl⟩⟩
    · rw [k1, e] at z; exact absurd wr0 z
    · rw [k2, e, wr0] at z; omega
  · refine ⟨W, sRef S W, hS.ref _, fun M hM => W9_bestCup_0 ⟨fun z => ?_, fun _ => ?_⟩, fun q M hM => W10_bestCup_0 ⟨fun z => ?_, fun z => ?_⟩⟩
    · rw [k1, wr_id (by omega) (by omega)] at z; exact absurd z e
    · rw [k1]; exact C_ref hM (by omega)
    · rw [k2, wr_id (x := -W) (by omega) (by omega)]; exact ⟨by omega, M_ref hM.thr (by omega)⟩
    · rw [k2, wr_id (by omega) (by omega)] at z; omega
/-- laughing -/
def sLau (k : Int) : Nat → Int × Int
  | 0 => (0, 0)
  | n + 1 => if 0 < (n : Int) ∧ (n : Int) % k = 0 then (0 + 1, (sLau k n).2 + 12 + (0 + 1)) else ((sLau k n).1 + 1, (sLau k n).2 + ((sLau k n).1 + 1))
theorem sLau_le {k : Int} : ∀ n : Nat, n ≤ 20 → (0 ≤ (sLau k n).1 ∧ (sLau k n).1 ≤ n) ∧ (0 ≤ (sLau k n).2 ∧ (sLau k n).2 ≤ 30 * n)
  | 0, _ => ⟨⟨Int.le_refl _, Int.le_refl _⟩, Int.le_refl _, Int.le_refl _⟩
  | n + 1, hn => by
    have ih := sLau_le (k := k) n (by omega)
    unfold sLau
    split
    · dsimp only; omega
    · dsimp only; omega
theorem L_lauC {F : FS} (hF : FOK F) {M : Mem} (hR : RCf F M 1) {c : Int} (hc : 1 ≤ c ∧ c ≤ 20) {K : Int → Mem → Prop} (h : K (sLau c (yd F).toNat).2 M) : ∀ (k n : Nat), n + k = (yd F).toNat →
    TA i9_laughedTenths 7 [some (vr 0), some (vi c), some (vi (sLau c n).1), some (vi (sLau c n).2), some (vi (n : Int))] [] (LC, M) (fun rv G' => ∃ r M', rv = some (vi r) ∧ G' = (LC, M') ∧ K r M')
  | 0, n, hn => by
    have hy := hF.1
    have e : n = (yd F).toNat := by omega
    subst e
    refine W9_laughedTenths_7 ⟨fun z => ?_, fun _ => ⟨_, M, rfl, rfl, h⟩⟩
    rw [hR.1, wlt (by omega) (by omega) (by omega) (by omega)] at z; omega
  | k + 1, n, hn => by
    have hy := hF.1
    have e1 : ((n + 1 : Nat) : Int) = (n : Int) + 1 := by omega
    have ih := L_lauC hF hR hc h k (n + 1) (by omega)
    have m1 := Int.emod_nonneg (n : Int) (b := c) (by omega)
    have m2 := Int.emod_lt_of_pos (n : Int) (b := c) (by omega)
    rw [e1] at ih
    unfold sLau at ih
    refine W9_laughedTenths_7 ?_
    rw [hR.1, wr_id (x := (n : Int)) (by omega) (by omega), wr_id (x := yd F) (by omega) (by omega), wr_id (x := c) (by omega) (by omega), rmd_nat (x := (n : Int)) (by omega) (by omega) (by omega) (by omega), wr_id (x := (n : Int) % c) (by omega) (by omega)]
    refine ⟨fun _ => ⟨fun _ => ⟨fun z1 => ⟨by omega, fun z2 => ?_, fun z2 => ?_⟩, fun z1 => ?_⟩, fun z => absurd (by omega) z⟩, fun z => absurd (by omega) z⟩
    · rw [if_pos ⟨z1, z2⟩] at ih; exact ih
    · rw [if_neg (fun z => z2 z.2)] at ih; exact ih
    · rw [if_neg (fun z => z1 z.1)] at ih; exact ih
theorem T_lauC {F : FS} (hF : FOK F) {M : Mem} (hR : RCf F M 1) {c : Int} (hc : 1 ≤ c ∧ c ≤ 20) {K : Int → Mem → Prop} (h : K (sLau c (yd F).toNat).2 M) : TI i9_laughedTenths 5 [vr 0, vi c] (LC, M) K := W9_laughedTenths_0 (L_lauC hF hR hc h (yd F).toNat 0 (by omega))
theorem L_lauM {q : Option Nat} {F : FS} (hF : FOK F) {M : Mem} (hR : RMf F M) {c : Int} (hc : 1 ≤ c ∧ c ≤ 20) {K : Int → Mem → Prop} (h : K (sLau c (yd F).toNat).2 M) : ∀ (k n : Nat), n + k = (yd F).toNat →
    TA i10_laughed 7 [some (vr 0), some (vi c), some (vi (sLau c n).1), some (vi (sLau c n).2), some (vi (n : Int))] [] (LM q, M) (fun rv G' => ∃ r M', rv = some (vi r) ∧ G' = (LM q, M') ∧ K r M')
  | 0, n, hn => by
    have hy := hF.1
    have e : n = (yd F).toNat := by omega
    subst e
    refine W10_laughed_7 ⟨fun z => ?_, fun _ => ⟨_, M, rfl, rfl, h⟩⟩
    rw [hR.1, wlt (by omega) (by omega) (by omega) (by omega)] at z; omega
  | k + 1, n, hn => by
    have hy := hF.1
    have e1 : ((n + 1 : Nat) : Int) = (n : Int) + 1 := by omega
    have ih := L_lauM (q := q) hF hR hc h k (n + 1) (by omega)
    have m1 := Int.emod_nonneg (n : Int) (b := c) (by omega)
    have m2 := Int.emod_lt_of_pos (n : Int) (b := c) (by omega)
    rw [e1] at ih
    unfold sLau at ih
    refine W10_laughed_7 ?_
    rw [hR.1, wr_id (x := (n : Int)) (by omega) (by omega), wr_id (x := yd F) (by omega) (by omega), wr_id (x := c) (by omega) (by omega), rmd_nat (x := (n : Int)) (by omega) (by omega) (by omega) (by omega), wr_id (x := (n : Int) % c) (by omega) (by omega)]
    refine ⟨fun _ => ⟨fun z1 => ⟨by omega, fun z2 => ?_, fun z2 => ?_⟩, fun z1 => ?_⟩, fun z => absurd (by omega) z⟩
    · rw [if_pos ⟨z1, z2⟩] at ih; exact ih
    · rw [if_neg (fun z => z2 z.2)] at ih; exact ih
    · rw [if_neg (fun z => z1 z.1)] at ih; exact ih
theorem T_lauM {q : Option Nat} {F : FS} (hF : FOK F) {M : Mem} (hR : RMf F M) {c : Int} (hc : 1 ≤ c ∧ c ≤ 20) {K : Int → Mem → Prop} (h : K (sLau c (yd F).toNat).2 M) : TI i10_laughed 5 [vr 0, vi c] (LM q, M) K := W10_laughed_0 (L_lauM hF hR hc h (yd F).toNat 0 (by omega))
theorem SIM_laughs {c : Int} (ic : IR c) : SIM i9_laughs 3 i10_laughs 2 [vi c] := by
  intro S hS
  have hF := hS.1
  have i1 : IR 1 := by unfold IR; omega
  have i20 : IR 20 := by unfold IR; omega
  have k2 := wrongNumber_eq ic i1 i20
  have e2 := first_eq (a := False) (b := c < 1) (c := 20 < c)
  rw [if_neg (c := False) (fun z => z)] at e2
  obtain ⟨W, hW⟩ : ∃ W : Int, W = s3w False (c < 1) (20 < c) := ⟨_, rfl⟩
  have hWb : -6 ≤ W ∧ W ≤ 0 := by rw [hW]; exact wrongN_le
  rw [← hW] at k2 e2
  have kC : ∀ M Post, ((W = 0 → TI i9_laughedTenths 5 [vr 0, vi c] (LC, M) (fun r1 M1 => Post (some (vi r1)) (LC, M1))) ∧ (W ≠ 0 → Post (some (vi (f9_refuse W))) (LC, g9_refuse M W))) → TC i9_laughs 3 [vr 0, vi c] (LC, M) Post := by
    intro M Post hAB
    refine W9_laughs_0 (W9_laughs_11 (W9_laughs_22 ?_))
    rw [ic.w, wr1, wr_id (x := 20) (by omega) (by omega), e2, wr_id (by omega) (by omega)]
    exact hAB
  by_cases e : W = 0
  · have hx : 1 ≤ c ∧ c ≤ 20 := by
      rw [hW] at e; unfold s3w at e; (repeat' split at e) <;> omega
    refine ⟨(sLau c (yd (sF S)).toNat).2, S, hS, fun M hM => kC M _ ⟨fun _ => T_lauC hF hM.1 hx ⟨M, rfl, rfl, hM⟩, fun z => absurd e z⟩, fun q M hM => W10_laughs_0 ⟨fun z => ?_, fun _ => T_lauM hF hM.thr.1 hx ⟨q, _, rfl, rfl, hM.thr⟩⟩⟩
    rw [k2, e, wr0] at z; omega
  · refine ⟨W, sRef S W, hS.ref _, fun M hM => kC M _ ⟨fun z => absurd z e, fun _ => C_ref hM (by omega)⟩, fun q M hM => W10_laughs_0 ⟨fun _ => ?_, fun z => ?_⟩⟩
    · rw [k2, wr_id (x := -W) (by omega) (by omega)]; exact ⟨by omega, M_ref hM.thr (by omega)⟩
    · rw [k2, wr_id (by omega) (by omega)] at z; omega
def bS (F : FS) : Nat → Nat
  | 0 => 1
  | n + 1 => if (sLau ((n : Int) + 2) (yd F).toNat).2 < (sLau ((bS F n : Nat) : Int) (yd F).toNat).2 then n + 2 else bS F n
theorem bS_le {F : FS} : ∀ n, 1 ≤ bS F n ∧ bS F n ≤ n + 1
  | 0 => ⟨Nat.le_refl _, Nat.le_refl _⟩
  | n + 1 => by
    have := bS_le (F := F) n
    unfold bS
    split <;> omega
theorem L_bsC {S : ST} (hF : FOK (sF S)) {M : Mem} (hM : RC S M) : ∀ (k n : Nat), n + k = 19 →
    TA i9_bestStop 10 [some (vr 0), some (vi ((bS (sF S) n : Nat) : Int)), some (vi (sLau ((bS (sF S) n : Nat) : Int) (yd (sF S)).toNat).2), some (vi ((n : Int) + 2)), none] [] (LC, M) (CP S ((bS (sF S) 19 : Nat) : Int))
  | 0, n, hn => by
    have e : n = 19 := by omega
    subst e
    exact W9_bestStop_10 ⟨fun _ => ⟨M, rfl, rfl, hM⟩, fun z => absurd (by decide) z⟩
  | k + 1, n, hn => by
    have hy := hF.1
    have e1 : ((n + 1 : Nat) : Int) + 2 = (n : Int) + 2 + 1 := by omega
    have e3 : ((n + 2 : Nat) : Int) = (n : Int) + 2 := by omega
    have hb := bS_le (F := sF S) n
    have l1 := sLau_le (k := (n : Int) + 2) (yd (sF S)).toNat (by omega)
    have l2 := sLau_le (k := ((bS (sF S) n : Nat) : Int)) (yd (sF S)).toNat (by omega)
    have ih := L_bsC hF hM k (n + 1) (by omega)
    have es : bS (sF S) (n + 1) = if (sLau ((n : Int) + 2) (yd (sF S)).toNat).2 < (sLau ((bS (sF S) n : Nat) : Int) (yd (sF S)).toNat).2 then n + 2 else bS (sF S) n := rfl
    rw [e1] at ih
    refine W9_bestStop_10 ⟨fun z => ?_, fun _ => T_lauC hF hM.1 (by omega) ⟨fun z => ?_, fun z => ?_⟩⟩
    · rw [wlt (by omega) (by omega) (by omega) (by omega)] at z; omega
    · rw [wlt (by omega) (by omega) (by omega) (by omega)] at z
      rw [if_pos z] at es
      rw [es, e3] at ih; exact ih
    · rw [wlt (by omega) (by omega) (by omega) (by omega)] at z
      rw [if_neg z] at es
      rw [es] at ih; exact ih
theorem L_bsM {S : ST} (hF : FOK (sF S)) {q : Option Nat} {M : Mem} (hM : RM S M) : ∀ (k n : Nat), n + k = 19 →
    TA i10_bestStop 9 [some (vr 0), some (vi ((bS (sF S) n : Nat) : Int)), some (vi ((n : Int) + 2))] [] (LM q, M) (MP S ((bS (sF S) 19 : Nat) : Int))
  | 0, n, hn => by
    have e : n = 19 := by omega
    subst e
    exact W10_bestStop_9 ⟨fun _ => ⟨q, M, rfl, rfl, hM⟩, fun z => absurd (by decide) z⟩
  | k + 1, n, hn => by
    have hy := hF.1
    have e1 : ((n + 1 : Nat) : Int) + 2 = (n : Int) + 2 + 1 := by omega
    have e3 : ((n + 2 : Nat) : Int) = (n : Int) + 2 := by omega
    have hb := bS_le (F := sF S) n
    have l1 := sLau_le (k := (n : Int) + 2) (yd (sF S)).toNat (by omega)
    have l2 := sLau_le (k := ((bS (sF S) n : Nat) : Int)) (yd (sF S)).toNat (by omega)
    have ih := L_bsM hF (q := q) hM k (n + 1) (by omega)
    have es : bS (sF S) (n + 1) = if (sLau ((n : Int) + 2) (yd (sF S)).toNat).2 < (sLau ((bS (sF S) n : Nat) : Int) (yd (sF S)).toNat).2 then n + 2 else bS (sF S) n := rfl
    rw [e1] at ih
    refine W10_bestStop_9 ⟨fun z => ?_, fun _ => T_lauM hF hM.1 (by omega) (T_lauM hF hM.1 (by omega) (W10_bestStop_33 ?_))⟩
    · rw [wlt (by omega) (by omega) (by omega) (by omega)] at z; omega
    · rw [wr_id (x := (sLau ((n : Int) + 2) (yd (sF S)).toNat).2) (by omega) (by omega), wr_id (x := (sLau ((bS (sF S) n : Nat) : Int) (yd (sF S)).toNat).2) (by omega) (by omega)]
      by_cases z : (sLau ((n : Int) + 2) (yd (sF S)).toNat).2 < (sLau ((bS (sF S) n : Nat) : Int) (yd (sF S)).toNat).2
      · rw [if_pos z] at es ⊢
        rw [es, e3] at ih; exact ih
      · rw [if_neg z] at es ⊢
        rw [es] at ih; exact ih
theorem SIM_bestStop : SIM i9_bestStop 5 i10_bestStop 3 [] := by
  intro S hS
  have hF := hS.1
  exact ⟨((bS (sF S) 19 : Nat) : Int), S, hS, fun M hM => W9_bestStop_0 (T_lauC hF hM.1 (by omega) (L_bsC hF hM 19 0 rfl)), fun q M hM => W10_bestStop_0 (L_bsM hF hM.thr 19 0 rfl)⟩

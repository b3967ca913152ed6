/-! the soonest way, in whole numbers: both tables hold the same -/
abbrev YD : Type := (Int → Int) × (Int → Int) × (Int → Int → Int)
def YOK (Y : YD) (a : Int) : Prop := ∀ p, 1 ≤ p → p ≤ 9 → (0 ≤ Y.1 p ∧ Y.1 p ≤ 100) ∧ Y.1 p < Y.1 (p + 1) ∧ (1 ≤ Y.2.1 p ∧ Y.2.1 p ≤ 100) ∧ ∀ L, Y.1 p ≤ L → L ≤ a → 0 ≤ Y.2.2 L p ∧ Y.2.2 L p ≤ a
def VB (b v : Int) : Prop := (0 ≤ v ∧ v ≤ b) ∨ v = 9999999
theorem VB.mono {b c v : Int} (h : VB b v) (hc : b ≤ c) : VB c v := by unfold VB at *; omega
theorem VB.le {b v : Int} (h : VB b v) (hb : b ≤ 9999999) : 0 ≤ v ∧ v ≤ 9999999 := by unfold VB at *; omega
def adN (c v : Int) : Int := if v = 9999999 then 9999999 else c + v
theorem adN_n {c : Int} : adN c 9999999 = 9999999 := if_pos rfl
theorem adN_f {c v : Int} (h : v ≠ 9999999) : adN c v = c + v := if_neg h
theorem VB_ad {b c d v : Int} (h : VB b v) (hc : 0 ≤ c ∧ c ≤ d) : VB (b + d) (adN c v) := by
  by_cases e : v = 9999999
  · rw [e, adN_n]; exact Or.inr rfl
  · rw [adN_f e]; unfold VB at *; omega
theorem VB_min {b v w : Int} (h : VB b v) (h2 : VB b w) : VB b (min v w) := by unfold VB at *; omega
def tvl (Y : YD) (X : Int → Int) (L p : Int) : Int := if L < Y.1 p then 9999999 else adN (Y.2.1 p) (X (Y.2.2 L p))
theorem tvl_n {Y : YD} {X : Int → Int} {L p : Int} (h : L < Y.1 p) : tvl Y X L p = 9999999 := if_pos h
theorem tvl_f {Y : YD} {X : Int → Int} {L p : Int} (h : ¬ L < Y.1 p) : tvl Y X L p = adN (Y.2.1 p) (X (Y.2.2 L p)) := if_neg h
def gvF (Y : YD) (X : Int → Int) (L : Int) : Nat → Int → Int
  | 0, _ => 9999999
  | n + 1, p => min (tvl Y X L p) (gvF Y X L n (p + 1))
abbrev gvl (Y : YD) (X : Int → Int) (L : Int) : Int := gvF Y X L 9 1
def pmF (Y : YD) (X : Int → Int) (L : Int) : Nat → Int → Int
  | 0, p => p
  | n + 1, p => if tvl Y X L p ≤ gvF Y X L n (p + 1) then p else pmF Y X L n (p + 1)
theorem pm_y {Y : YD} {X : Int → Int} {L p : Int} {n : Nat} (h : tvl Y X L p ≤ gvF Y X L n (p + 1)) : pmF Y X L (n + 1) p = p := if_pos h
theorem pm_n {Y : YD} {X : Int → Int} {L p : Int} {n : Nat} (h : ¬ tvl Y X L p ≤ gvF Y X L n (p + 1)) : pmF Y X L (n + 1) p = pmF Y X L n (p + 1) := if_neg h
theorem gv_s {Y : YD} {X : Int → Int} {L p : Int} {n : Nat} : gvF Y X L (n + 1) p = min (tvl Y X L p) (gvF Y X L n (p + 1)) := rfl
def wvF (Y : YD) (X : Int → Int) (a : Int) : Nat → Int → Int
  | 0, L => gvl Y X L
  | n + 1, L => if L < a then min (gvl Y X L) (adN 15 (wvF Y X a n (min (L + 10) a))) else gvl Y X L
theorem wv_y {Y : YD} {X : Int → Int} {a L : Int} {n : Nat} (h : L < a) : wvF Y X a (n + 1) L = min (gvl Y X L) (adN 15 (wvF Y X a n (min (L + 10) a))) := if_pos h
theorem wv_n {Y : YD} {X : Int → Int} {a L : Int} {n : Nat} (h : ¬ L < a) : wvF Y X a (n + 1) L = gvl Y X L := if_neg h
theorem wv_a {Y : YD} {X : Int → Int} {a L : Int} (h : ¬ L < a) : ∀ n : Nat, wvF Y X a n L = gvl Y X L
  | 0 => rfl
  | n + 1 => wv_n h
theorem wv_le {Y : YD} {X : Int → Int} {a L : Int} : ∀ n : Nat, wvF Y X a n L ≤ gvl Y X L
  | 0 => Int.le_refl _
  | n + 1 => by
    by_cases h : L < a
    · rw [wv_y h]; omega
    · rw [wv_n h]; omega
theorem wv_stab {Y : YD} {X : Int → Int} {a : Int} (ha : a ≤ 60) : ∀ (n : Nat) (L : Int), L ≤ a → (60 - 10 * (n : Int) ≤ L ∨ L = a) → wvF Y X a (n + 1) L = wvF Y X a n L
  | 0, L, h1, h2 => by
    have : ¬ L < a := by omega
    rw [wv_n this]; rfl
  | n + 1, L, h1, h2 => by
    by_cases h : L < a
    · rw [wv_y h, wv_y h, wv_stab ha n (min (L + 10) a) (by omega) (by omega)]
    · rw [wv_n h, wv_n h]
theorem wv_six {Y : YD} {X : Int → Int} {a : Int} (ha : a ≤ 60) {L : Int} (hL : L ≤ a) : ∀ (k n : Nat), n + k = 6 → (60 - 10 * (n : Int) ≤ L ∨ L = a) → wvF Y X a n L = wvF Y X a 6 L
  | 0, n, h, _ => by rw [show n = 6 by omega]
  | k + 1, n, h, h2 => by
    rw [← wv_stab ha n L hL h2]
    exact wv_six ha hL k (n + 1) (by omega) (by omega)
def crF (Y : YD) (X : Int → Int) (a : Int) : Nat → Int → Int
  | 0, _ => 0
  | n + 1, L => if wvF Y X a (n + 1) L < gvl Y X L then 1 + crF Y X a n (min (L + 10) a) else 0
def lrF (Y : YD) (X : Int → Int) (a : Int) : Nat → Int → Int
  | 0, L => L
  | n + 1, L => if wvF Y X a (n + 1) L < gvl Y X L then lrF Y X a n (min (L + 10) a) else L
theorem cr_y {Y : YD} {X : Int → Int} {a L : Int} {n : Nat} (h : wvF Y X a (n + 1) L < gvl Y X L) : crF Y X a (n + 1) L = 1 + crF Y X a n (min (L + 10) a) := if_pos h
theorem cr_n {Y : YD} {X : Int → Int} {a L : Int} {n : Nat} (h : ¬ wvF Y X a (n + 1) L < gvl Y X L) : crF Y X a (n + 1) L = 0 := if_neg h
theorem lr_y {Y : YD} {X : Int → Int} {a L : Int} {n : Nat} (h : wvF Y X a (n + 1) L < gvl Y X L) : lrF Y X a (n + 1) L = lrF Y X a n (min (L + 10) a) := if_pos h
theorem lr_n {Y : YD} {X : Int → Int} {a L : Int} {n : Nat} (h : ¬ wvF Y X a (n + 1) L < gvl Y X L) : lrF Y X a (n + 1) L = L := if_neg h
theorem lr_ok {Y : YD} {X : Int → Int} {a : Int} : ∀ (n : Nat) (L : Int), L ≤ a → 0 ≤ crF Y X a n L ∧ crF Y X a n L ≤ (n : Int) ∧ lrF Y X a n L = min (L + 10 * crF Y X a n L) a
  | 0, L, h => by
    show 0 ≤ (0 : Int) ∧ (0 : Int) ≤ ((0 : Nat) : Int) ∧ L = min (L + 10 * 0) a
    omega
  | n + 1, L, h => by
    by_cases g : wvF Y X a (n + 1) L < gvl Y X L
    · rw [cr_y g, lr_y g]
      have := lr_ok (Y := Y) (X := X) (a := a) n (min (L + 10) a) (by omega)
      omega
    · rw [cr_n g, lr_n g]; omega
/-- a finite way goes on -/
theorem lr_fin {Y : YD} {X : Int → Int} {a : Int} : ∀ (n : Nat) (L : Int), wvF Y X a n L < 9999999 → gvl Y X (lrF Y X a n L) < 9999999
  | 0, L, h => h
  | n + 1, L, h => by
    by_cases g : wvF Y X a (n + 1) L < gvl Y X L
    · rw [lr_y g]
      refine lr_fin n _ ?_
      by_cases e : L < a
      · rw [wv_y e] at g h
        by_cases e2 : wvF Y X a n (min (L + 10) a) = 9999999
        · rw [e2, adN_n] at g h; omega
        · rw [adN_f e2] at g h
          omega
      · rw [wv_n e] at g; omega
    · rw [lr_n g]
      have := wv_le (Y := Y) (X := X) (a := a) (L := L) (n + 1)
      omega
theorem pm_fin {Y : YD} {X : Int → Int} {L : Int} : ∀ (n : Nat) (p : Int), gvF Y X L n p < 9999999 → tvl Y X L (pmF Y X L n p) = gvF Y X L n p
  | 0, p, h => absurd h (by show ¬ (9999999 : Int) < 9999999; omega)
  | n + 1, p, h => by
    rw [gv_s] at h ⊢
    by_cases g : tvl Y X L p ≤ gvF Y X L n (p + 1)
    · rw [pm_y g]; omega
    · rw [pm_n g, pm_fin n (p + 1) (by omega)]; omega
theorem pm_bd {Y : YD} {X : Int → Int} {L : Int} : ∀ (n : Nat) (p : Int), p ≤ pmF Y X L n p ∧ pmF Y X L n p ≤ p + (n : Int)
  | 0, p => by
    show p ≤ p ∧ p ≤ p + ((0 : Nat) : Int)
    omega
  | n + 1, p => by
    by_cases g : tvl Y X L p ≤ gvF Y X L n (p + 1)
    · rw [pm_y g]; omega
    · rw [pm_n g]; have := pm_bd (Y := Y) (X := X) (L := L) n (p + 1); omega
theorem pm_nine {Y : YD} {X : Int → Int} {L : Int} (h : tvl Y X L 9 ≤ 9999999) : ∀ (n : Nat) (p : Int), p + (n : Int) = 9 → pmF Y X L (n + 1) p ≤ 9
  | 0, p, hp => by
    rw [pm_y (show tvl Y X L p ≤ gvF Y X L 0 (p + 1) from by rw [show p = 9 by omega]; exact h)]; omega
  | n + 1, p, hp => by
    by_cases g : tvl Y X L p ≤ gvF Y X L (n + 1) (p + 1)
    · rw [pm_y g]; omega
    · rw [pm_n g]; exact pm_nine h n (p + 1) (by omega)
/-- bounds -/
theorem VB_tv {Y : YD} {X : Int → Int} {a b : Int} (hY : YOK Y a) (hX : ∀ L, 0 ≤ L → L ≤ a → VB b (X L)) {L p : Int} (hL : L ≤ a) (h1 : 1 ≤ p) (h9 : p ≤ 9) : VB (b + 100) (tvl Y X L p) := by
  obtain ⟨y1, y2, y3, y4⟩ := hY p h1 h9
  by_cases g : L < Y.1 p
  · rw [tvl_n g]; exact Or.inr rfl
  · rw [tvl_f g]
    have := y4 L (by omega) hL
    exact VB_ad (hX _ this.1 this.2) (by omega)
theorem VB_gv {Y : YD} {X : Int → Int} {a b : Int} (hY : YOK Y a) (hX : ∀ L, 0 ≤ L → L ≤ a → VB b (X L)) {L : Int} (hL : L ≤ a) : ∀ (n : Nat) (p : Int), 1 ≤ p → p + (n : Int) ≤ 10 → VB (b + 100) (gvF Y X L n p)
  | 0, _, _, _ => Or.inr rfl
  | n + 1, p, h1, h2 => VB_min (VB_tv hY hX hL h1 (by omega)) (VB_gv hY hX hL n (p + 1) (by omega) (by omega))
theorem VB_wv {Y : YD} {X : Int → Int} {a b : Int} (hY : YOK Y a) (hX : ∀ L, 0 ≤ L → L ≤ a → VB b (X L)) : ∀ (n : Nat) (L : Int), L ≤ a → VB (b + 100 + 15 * (n : Int)) (wvF Y X a n L)
  | 0, L, h => VB.mono (VB_gv hY hX h 9 1 (by omega) (by omega)) (by omega)
  | n + 1, L, h => by
    have g := VB.mono (c := b + 100 + 15 * ((n + 1 : Nat) : Int)) (VB_gv hY hX h 9 1 (by omega) (by omega)) (by omega)
    by_cases e : L < a
    · rw [wv_y e]
      exact VB_min g (VB.mono (VB_ad (d := 15) (VB_wv hY hX n (min (L + 10) a) (by omega)) (by omega)) (by omega))
    · rw [wv_n e]; exact g
/-- the reference's table: rests, then paces -/
abbrev T3 : Type := Int × Int × Int
def foP (Y : YD) (X : Int → Int) (had c r : Int) : Nat → Int → T3 → T3
  | 0, _, s => s
  | n + 1, p, s => if had < Y.1 p then s else foP Y X had c r n (p + 1) (if c + Y.2.1 p + X (Y.2.2 had p) < s.1 then (c + Y.2.1 p + X (Y.2.2 had p), r, p) else s)
theorem foP_b {Y : YD} {X : Int → Int} {had c r p : Int} {n : Nat} {s : T3} (h : had < Y.1 p) : foP Y X had c r (n + 1) p s = s := if_pos h
theorem foP_y {Y : YD} {X : Int → Int} {had c r p : Int} {n : Nat} {s : T3} (h : ¬ had < Y.1 p) (g : c + Y.2.1 p + X (Y.2.2 had p) < s.1) : foP Y X had c r (n + 1) p s = foP Y X had c r n (p + 1) (c + Y.2.1 p + X (Y.2.2 had p), r, p) := by
  show (if had < Y.1 p then s else foP Y X had c r n (p + 1) (if c + Y.2.1 p + X (Y.2.2 had p) < s.1 then (c + Y.2.1 p + X (Y.2.2 had p), r, p) else s)) = _
  rw [if_neg h, if_pos g]
theorem foP_n {Y : YD} {X : Int → Int} {had c r p : Int} {n : Nat} {s : T3} (h : ¬ had < Y.1 p) (g : ¬ c + Y.2.1 p + X (Y.2.2 had p) < s.1) : foP Y X had c r (n + 1) p s = foP Y X had c r n (p + 1) s := by
  show (if had < Y.1 p then s else foP Y X had c r n (p + 1) (if c + Y.2.1 p + X (Y.2.2 had p) < s.1 then (c + Y.2.1 p + X (Y.2.2 had p), r, p) else s)) = _
  rw [if_neg h, if_neg g]
theorem gv_none {Y : YD} {X : Int → Int} {a L : Int} (hY : YOK Y a) : ∀ (n : Nat) (p : Int), 1 ≤ p → p + (n : Int) ≤ 10 → (n ≠ 0 → L < Y.1 p) → gvF Y X L n p = 9999999
  | 0, _, _, _, _ => rfl
  | n + 1, p, h1, h2, h => by
    have e := h (by omega)
    rw [gv_s, tvl_n e, gv_none hY n (p + 1) (by omega) (by omega) (fun _ => by have := (hY p h1 (by omega)).2.1; omega)]
    omega
theorem foP_eq {Y : YD} {X : Int → Int} {a b : Int} (hb : b + 100 ≤ 9000) (hY : YOK Y a) (hX : ∀ L, 0 ≤ L → L ≤ a → VB b (X L)) {had c r : Int} (hL : had ≤ a) (hc : 0 ≤ c ∧ c ≤ 1000) : ∀ (n : Nat) (p : Int) (s : T3), 1 ≤ p → p + (n : Int) = 10 → s.1 ≤ 9999999 →
    foP Y X had c r n p s = if adN c (gvF Y X had n p) < s.1 then (c + gvF Y X had n p, r, pmF Y X had n p) else s
  | 0, p, s, h1, h2, hs => by
    show s = if adN c 9999999 < s.1 then (c + 9999999, r, p) else s
    rw [adN_n, if_neg (by omega)]
  | n + 1, p, s, h1, h2, hs => by
    by_cases g : had < Y.1 p
    · rw [foP_b g, gv_none hY (n + 1) p h1 (by omega) (fun _ => g), adN_n, if_neg (by omega)]
    · have y3 := (hY p h1 (by omega)).2.2.1
      have y4 := (hY p h1 (by omega)).2.2.2 had (by omega) hL
      have hx := hX _ y4.1 y4.2
      have hg := VB_gv hY hX hL n (p + 1) (by omega) (by omega)
      have et : tvl Y X had p = adN (Y.2.1 p) (X (Y.2.2 had p)) := tvl_f g
      obtain ⟨x, ex⟩ : ∃ x, x = X (Y.2.2 had p) := ⟨_, rfl⟩
      obtain ⟨t, et'⟩ : ∃ t, t = Y.2.1 p := ⟨_, rfl⟩
      obtain ⟨G, eG⟩ : ∃ G, G = gvF Y X had n (p + 1) := ⟨_, rfl⟩
      obtain ⟨v, ev⟩ : ∃ v, v = tvl Y X had p := ⟨_, rfl⟩
      rw [← ex] at hx
      rw [← eG] at hg
      rw [← et'] at y3
      rw [← ev, ← et', ← ex] at et
      have hv : (x = 9999999 ∧ v = 9999999) ∨ (x ≠ 9999999 ∧ v = t + x) := by
        rw [et]
        by_cases e : x = 9999999
        · rw [e, adN_n]; exact Or.inl ⟨rfl, rfl⟩
        · rw [adN_f e]; exact Or.inr ⟨e, rfl⟩
      unfold VB at hx hg
      have egs : gvF Y X had (n + 1) p = min v G := by rw [gv_s, ← ev, ← eG]
      have epm : pmF Y X had (n + 1) p = if v ≤ G then p else pmF Y X had n (p + 1) := by rw [ev, eG]; rfl
      have hA : ∀ u : Int, (u = 9999999 ∧ adN c u = 9999999) ∨ (u ≠ 9999999 ∧ adN c u = c + u) := by
        intro u
        by_cases e : u = 9999999
        · rw [e, adN_n]; exact Or.inl ⟨rfl, rfl⟩
        · rw [adN_f e]; exact Or.inr ⟨e, rfl⟩
      rw [egs, epm]
      have a1 := hA (min v G)
      have a2 := hA G
      by_cases g2 : c + Y.2.1 p + X (Y.2.2 had p) < s.1
      · rw [foP_y g g2, foP_eq hb hY hX hL hc n (p + 1) _ (by omega) (by omega) (by omega), ← ex, ← et', ← eG]
        rw [← ex, ← et'] at g2
        by_cases g3 : adN c G < c + t + x
        · rw [if_pos (c := adN c G < (c + t + x, r, p).1) g3, if_pos (by omega), if_neg (c := v ≤ G) (by omega)]
          have : min v G = G := by omega
          rw [this]
        · rw [if_neg (c := adN c G < (c + t + x, r, p).1) g3, if_pos (by omega), if_pos (c := v ≤ G) (by omega)]
          have : c + min v G = c + t + x := by omega
          rw [this]
      · rw [foP_n g g2, foP_eq hb hY hX hL hc n (p + 1) s (by omega) (by omega) hs, ← eG]
        rw [← ex, ← et'] at g2
        by_cases g3 : adN c G < s.1
        · rw [if_pos g3, if_pos (by omega), if_neg (c := v ≤ G) (by omega)]
          have : min v G = G := by omega
          rw [this]
        · rw [if_neg g3, if_neg (by omega)]
def foR (Y : YD) (X : Int → Int) (a : Int) : Nat → Int → Int → T3 → T3
  | 0, _, _, s => s
  | n + 1, r, L, s => foR Y X a n (r + 1) (min (L + 10) a) (foP Y X L (15 * r) r 9 1 s)
theorem foR_eq {Y : YD} {X : Int → Int} {a b : Int} (hb : b + 300 ≤ 9000) (hY : YOK Y a) (hX : ∀ L, 0 ≤ L → L ≤ a → VB b (X L)) : ∀ (n : Nat) (r L : Int) (s : T3), 0 ≤ r → r + (n : Int) ≤ 6 → L ≤ a → s.1 ≤ 9999999 →
    foR Y X a (n + 1) r L s = if adN (15 * r) (wvF Y X a n L) < s.1 then (15 * r + wvF Y X a n L, r + crF Y X a n L, pmF Y X (lrF Y X a n L) 9 1) else s
  | 0, r, L, s, hr, hn, hL, hs => by
    show foP Y X L (15 * r) r 9 1 s = if adN (15 * r) (gvF Y X L 9 1) < s.1 then (15 * r + gvF Y X L 9 1, r + 0, pmF Y X L 9 1) else s
    rw [foP_eq (by omega) hY hX hL (by omega) 9 1 s (by omega) (by omega) hs, Int.add_zero]
  | n + 1, r, L, s, hr, hn, hL, hs => by
    show foR Y X a (n + 1) (r + 1) (min (L + 10) a) (foP Y X L (15 * r) r 9 1 s) = _
    have hg := VB_gv hY hX hL 9 1 (by omega) (by omega)
    have hw := VB_wv hY hX n (min (L + 10) a) (by omega)
    have eP := foP_eq (c := 15 * r) (r := r) (show b + 100 ≤ 9000 by omega) hY hX hL (by omega) 9 1 s (by omega) (by omega) hs
    obtain ⟨s1, e1⟩ : ∃ s1, s1 = foP Y X L (15 * r) r 9 1 s := ⟨_, rfl⟩
    rw [← e1] at eP ⊢
    have hs1 : s1.1 ≤ 9999999 := by
      rw [eP]; unfold VB at hg
      by_cases g : adN (15 * r) (gvF Y X L 9 1) < s.1
      · rw [if_pos g]
        show 15 * r + gvF Y X L 9 1 ≤ 9999999
        by_cases e : gvF Y X L 9 1 = 9999999
        · rw [e, adN_n] at g; omega
        · omega
      · rw [if_neg g]; exact hs
    rw [foR_eq hb hY hX n (r + 1) (min (L + 10) a) s1 (by omega) (by omega) (by omega) hs1]
    have hA : ∀ c u : Int, (u = 9999999 ∧ adN c u = 9999999) ∨ (u ≠ 9999999 ∧ adN c u = c + u) := by
      intro c u
      by_cases e : u = 9999999
      · rw [e, adN_n]; exact Or.inl ⟨rfl, rfl⟩
      · rw [adN_f e]; exact Or.inr ⟨e, rfl⟩
    have key : wvF Y X a (n + 1) L = min (gvl Y X L) (adN 15 (wvF Y X a n (min (L + 10) a))) := by
      by_cases e : L < a
      · exact wv_y e
      · rw [wv_n e, show min (L + 10) a = L by omega, wv_a e n]
        have := hA 15 (gvl Y X L)
        unfold VB at hg
        omega
    obtain ⟨w', ew⟩ : ∃ w', w' = wvF Y X a n (min (L + 10) a) := ⟨_, rfl⟩
    obtain ⟨G, eG⟩ : ∃ G, G = gvl Y X L := ⟨_, rfl⟩
    rw [show gvF Y X L 9 1 = G from eG.symm] at eP hg
    rw [← ew] at hw key ⊢
    rw [← eG] at key
    have b1 := hA 15 w'
    have b2 := hA (15 * r) (min G (adN 15 w'))
    have b3 := hA (15 * r) G
    have b4 := hA (15 * (r + 1)) w'
    unfold VB at hg hw
    by_cases g : adN 15 w' < G
    · have g' : wvF Y X a (n + 1) L < gvl Y X L := by rw [key, ← eG]; omega
      rw [cr_y g', lr_y g', key]
      by_cases g2 : adN (15 * r) G < s.1
      · rw [if_pos g2] at eP
        rw [eP, if_pos (show adN (15 * (r + 1)) w' < (15 * r + G, r, pmF Y X L 9 1).1 from by show adN (15 * (r + 1)) w' < 15 * r + G; omega), if_pos (by omega)]
        rw [show 15 * (r + 1) + w' = 15 * r + min G (adN 15 w') by omega, show r + 1 + crF Y X a n (min (L + 10) a) = r + (1 + crF Y X a n (min (L + 10) a)) by omega]
      · rw [if_neg g2] at eP
        rw [eP]
        by_cases g3 : adN (15 * (r + 1)) w' < s.1
        · rw [if_pos g3, if_pos (by omega)]
          rw [show 15 * (r + 1) + w' = 15 * r + min G (adN 15 w') by omega, show r + 1 + crF Y X a n (min (L + 10) a) = r + (1 + crF Y X a n (min (L + 10) a)) by omega]
        · rw [if_neg g3, if_neg (by omega)]
    · have g' : ¬ wvF Y X a (n + 1) L < gvl Y X L := by rw [key, ← eG]; omega
      rw [cr_n g', lr_n g', key]
      by_cases g2 : adN (15 * r) G < s.1
      · rw [if_pos g2] at eP
        rw [eP, if_neg (show ¬ adN (15 * (r + 1)) w' < (15 * r + G, r, pmF Y X L 9 1).1 from by show ¬ adN (15 * (r + 1)) w' < 15 * r + G; omega), if_pos (by omega)]
        rw [show 15 * r + G = 15 * r + min G (adN 15 w') by omega, Int.add_zero]
      · rw [if_neg g2] at eP
        rw [eP, if_neg (by omega), if_neg (by omega)]
/-- the table, from the last yard back -/
def WW (yd : Nat → YD) (a : Int) (n : Nat) : Nat → Int → Int
  | 0, _ => 0
  | k + 1, L => wvF (yd (n - (k + 1))) (WW yd a n k) a 6 L
theorem WW_b {yd : Nat → YD} {a : Int} {n : Nat} (hY : ∀ y, y < n → YOK (yd y) a) : ∀ (k : Nat), k ≤ n → ∀ L, L ≤ a → VB (200 * (k : Int)) (WW yd a n k L)
  | 0, _, L, _ => Or.inl (by show 0 ≤ (0 : Int) ∧ (0 : Int) ≤ 200 * ((0 : Nat) : Int); omega)
  | k + 1, h, L, hL => VB.mono (VB_wv (hY (n - (k + 1)) (by omega)) (fun L' _ h2 => WW_b hY k (by omega) L' h2) 6 L hL) (by omega)
theorem WW_s {yd : Nat → YD} {a : Int} {n y : Nat} (hy : y < n) (L : Int) : WW yd a n (n - y) L = wvF (yd y) (WW yd a n (n - (y + 1))) a 6 L := by
  have : n - y = (n - (y + 1)) + 1 := by omega
  rw [this]
  show wvF (yd (n - ((n - (y + 1)) + 1))) (WW yd a n (n - (y + 1))) a 6 L = _
  rw [show n - ((n - (y + 1)) + 1) = y by omega]
/-- the first of the soonest ways: what is left ahead of a yard -/
abbrev paC (yd : Nat → YD) (a : Int) (n y : Nat) (L : Int) : Int := crF (yd y) (WW yd a n (n - (y + 1))) a 6 L
abbrev paR (yd : Nat → YD) (a : Int) (n y : Nat) (L : Int) : Int := lrF (yd y) (WW yd a n (n - (y + 1))) a 6 L
abbrev paP (yd : Nat → YD) (a : Int) (n y : Nat) (L : Int) : Int := pmF (yd y) (WW yd a n (n - (y + 1))) (paR yd a n y L) 9 1
def paL (yd : Nat → YD) (a : Int) (n : Nat) : Nat → Int
  | 0 => a
  | y + 1 => (yd y).2.2 (paR yd a n y (paL yd a n y)) (paP yd a n y (paL yd a n y))
theorem pa_step {yd : Nat → YD} {a : Int} {n y : Nat} (hn : n ≤ 20) (ha : 0 ≤ a) (hY : ∀ y, y < n → YOK (yd y) a) (hy : y < n) {L : Int} (hL : 0 ≤ L ∧ L ≤ a) (hf : WW yd a n (n - y) L < 9999999) :
    (yd y).1 (paP yd a n y L) ≤ paR yd a n y L ∧ (1 ≤ paP yd a n y L ∧ paP yd a n y L ≤ 9) ∧ (0 ≤ paR yd a n y L ∧ paR yd a n y L ≤ a) ∧ (0 ≤ (yd y).2.2 (paR yd a n y L) (paP yd a n y L) ∧ (yd y).2.2 (paR yd a n y L) (paP yd a n y L) ≤ a) ∧ WW yd a n (n - (y + 1)) ((yd y).2.2 (paR yd a n y L) (paP yd a n y L)) < 9999999 := by
  rw [WW_s hy] at hf
  have hX : ∀ L', 0 ≤ L' → L' ≤ a → VB 4000 (WW yd a n (n - (y + 1)) L') := fun L' _ h2 => VB.mono (WW_b hY (n - (y + 1)) (by omega) L' h2) (by omega)
  have l1 := lr_ok (Y := yd y) (X := WW yd a n (n - (y + 1))) (a := a) 6 L hL.2
  have f1 := lr_fin 6 L hf
  have f2 := pm_fin 9 1 f1
  have hR : 0 ≤ paR yd a n y L ∧ paR yd a n y L ≤ a := by
    show 0 ≤ lrF (yd y) (WW yd a n (n - (y + 1))) a 6 L ∧ lrF (yd y) (WW yd a n (n - (y + 1))) a 6 L ≤ a
    omega
  have hT : ∀ p, 1 ≤ p → p ≤ 9 → tvl (yd y) (WW yd a n (n - (y + 1))) (paR yd a n y L) p ≤ 9999999 := fun p h1 h9 => ((VB_tv (hY y hy) hX hR.2 h1 h9).le (by omega)).2
  have hp : 1 ≤ paP yd a n y L ∧ paP yd a n y L ≤ 9 := ⟨(pm_bd (Y := yd y) (X := WW yd a n (n - (y + 1))) (L := paR yd a n y L) 9 1).1, pm_nine (hT 9 (by omega) (by omega)) 8 1 (by omega)⟩
  have e2 : tvl (yd y) (WW yd a n (n - (y + 1))) (paR yd a n y L) (paP yd a n y L) < 9999999 := by
    show tvl (yd y) (WW yd a n (n - (y + 1))) (lrF (yd y) (WW yd a n (n - (y + 1))) a 6 L) (pmF (yd y) (WW yd a n (n - (y + 1))) (lrF (yd y) (WW yd a n (n - (y + 1))) a 6 L) 9 1) < 9999999
    rw [f2]; exact f1
  have g : ¬ paR yd a n y L < (yd y).1 (paP yd a n y L) := by
    intro c; rw [tvl_n c] at e2; omega
  have y4 := (hY y hy _ hp.1 hp.2).2.2.2 (paR yd a n y L) (by omega) hR.2
  refine ⟨by omega, hp, hR, y4, ?_⟩
  rw [tvl_f g] at e2
  have hv := (hX _ y4.1 y4.2).le (by omega)
  by_cases c : WW yd a n (n - (y + 1)) ((yd y).2.2 (paR yd a n y L) (paP yd a n y L)) = 9999999
  · rw [c, adN_n] at e2; omega
  · omega
theorem pa_ok {yd : Nat → YD} {a : Int} {n : Nat} (hn : n ≤ 20) (ha : 0 ≤ a) (hY : ∀ y, y < n → YOK (yd y) a) (hf : WW yd a n n a < 9999999) : ∀ y, y ≤ n → (0 ≤ paL yd a n y ∧ paL yd a n y ≤ a) ∧ WW yd a n (n - y) (paL yd a n y) < 9999999
  | 0, _ => ⟨⟨ha, Int.le_refl _⟩, hf⟩
  | y + 1, h => by
    obtain ⟨h1, h2⟩ := pa_ok hn ha hY hf y (by omega)
    have := pa_step hn ha hY (show y < n by omega) h1 h2
    exact ⟨this.2.2.2.1, this.2.2.2.2⟩

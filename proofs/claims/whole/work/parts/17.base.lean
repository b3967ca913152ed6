/-! reading what has been written; the spec: a field, a step, a race -/
theorem up_fr {M : Mem} {a k i : Nat} {v : Int} (h : i ≠ a) : up M a k v i = M i := by
  funext j
  simp only [up, h, false_and, if_false]
theorem up_eq {M : Mem} {a k : Nat} {v : Int} : up M a k v a k = v := by simp [up]
theorem up_sl {M : Mem} {a k j : Nat} {v : Int} (h : j ≠ k) : up M a k v a j = M a j := by simp [up, h]
theorem up_ap (M : Mem) (a k i j : Nat) (v : Int) : up M a k v i j = if i = a ∧ j = k then v else M i j := rfl
/-- a field: yards, lane, people; kinds and figures by 20 lane + yard; arms, heavy, hands -/
abbrev FS : Type := Int × Int × Int × (Nat → Int) × (Nat → Int) × (Nat → Int) × (Nat → Int) × (Nat → Int)
def yd (F : FS) : Int := F.1
def ln (F : FS) : Int := F.2.1
def pn (F : FS) : Int := F.2.2.1
def kd (F : FS) : Nat → Int := F.2.2.2.1
def fg (F : FS) : Nat → Int := F.2.2.2.2.1
def ar (F : FS) : Nat → Int := F.2.2.2.2.2.1
def hv (F : FS) : Nat → Int := F.2.2.2.2.2.2.1
def hd (F : FS) : Nat → Int := F.2.2.2.2.2.2.2
def FOK (F : FS) : Prop := (1 ≤ yd F ∧ yd F ≤ 20) ∧ (0 ≤ ln F ∧ ln F ≤ 1) ∧ (0 ≤ pn F ∧ pn F ≤ 6) ∧ (∀ i, i < 40 → 0 ≤ kd F i ∧ kd F i ≤ 5) ∧ (∀ i, i < 40 → 0 ≤ fg F i ∧ fg F i ≤ 9) ∧
  (∀ p, p < 6 → 0 ≤ ar F p ∧ ar F p ≤ 60 ∧ 0 ≤ hv F p ∧ hv F p ≤ 9 ∧ 0 ≤ hd F p ∧ hd F p ≤ 9) ∧ (∀ p : Nat, (p : Int) < pn F → 1 ≤ ar F p ∧ 1 ≤ hv F p ∧ 1 ≤ hd F p)
/-- a field in the class's memory, at the cell b; in the reference's -/
def RCf (F : FS) (M : Mem) (b : Nat) : Prop := M b 0 = yd F ∧ M b 1 = ln F ∧ M b 2 = pn F ∧ (∀ i, i < 40 → M (b + 2) i = kd F i) ∧ (∀ i, i < 40 → M (b + 4) i = fg F i) ∧ (∀ p, p < 6 → M (b + 6) (3 * p) = ar F p ∧ M (b + 6) (3 * p + 1) = hv F p ∧ M (b + 6) (3 * p + 2) = hd F p)
def RMf (F : FS) (M : Mem) : Prop := M 0 2 = yd F ∧ M 0 3 = ln F ∧ M 0 4 = pn F ∧ (∀ i, i < 40 → M 1 i = kd F i) ∧ (∀ i, i < 40 → M 2 i = fg F i) ∧ (∀ p, p < 6 → M 3 p = ar F p ∧ M 4 p = hv F p ∧ M 5 p = hd F p)
def sLoad (k f h hold : Int) : Int := if k = 1 then max (h * (4 - hold) / 2 - f / 2) 1 else if k = 2 then h * (4 - hold) / 2 + f else if k = 3 then h * (4 - hold) / 2 + 2 else if k = 4 then h * (4 - hold) / 2 + 3 else if k = 5 then 2 * (h * (4 - hold) / 2 + f) else h * (4 - hold) / 2
def sTen (k f hold pace : Int) : Int := if k = 1 then max (30 - 3 * pace + 2 * hold - 2) 1 else if k = 2 then 30 - 3 * pace + 2 * hold + f else if k = 3 then 30 - 3 * pace + 2 * hold + 3 else if k = 4 then 30 - 3 * pace + 2 * hold + 3 + f else if k = 5 then 30 - 3 * pace + 2 * hold + f + 5 else 30 - 3 * pace + 2 * hold
def sLim (k h : Int) : Int := if k = 1 then h + 2 else if k = 2 then max (h - 1) 1 else if k = 3 then max (h - 1) 1 else if k = 4 then max (h - 1) 1 else if k = 5 then max (h - 2) 1 else h
theorem mx_eq {x y : Int} (h1 : -2147483648 ≤ x) (h2 : x < 2147483648) (h3 : -2147483648 ≤ y) (h4 : y < 2147483648) : mx x y = max x y := by
  unfold mx; rw [wr_id h1 h2, wr_id h3 h4]; split <;> omega
theorem mn_eq {x y : Int} (h1 : -2147483648 ≤ x) (h2 : x < 2147483648) (h3 : -2147483648 ≤ y) (h4 : y < 2147483648) : mn x y = min x y := by
  unfold mn; rw [wr_id h1 h2, wr_id h3 h4]; split <;> omega
theorem dv_nat {x y : Int} (h1 : 0 ≤ x) (h2 : x < 2147483648) (h3 : 0 ≤ y) (h4 : y < 2147483648) : dv x y = x / y := by
  unfold dv; rw [wr_id (by omega) h2, wr_id (by omega) h4, Int.tdiv_eq_ediv_of_nonneg h1]
theorem rmd_nat {x y : Int} (h1 : 0 ≤ x) (h2 : x < 2147483648) (h3 : 0 ≤ y) (h4 : y < 2147483648) : rmd x y = x % y := by
  unfold rmd; rw [wr_id (by omega) h2, wr_id (by omega) h4, Int.tmod_eq_emod_of_nonneg h1]
/-- numbers of a yard, of one who walks, of a hold and a pace -/
def KOK (k f : Int) : Prop := (0 ≤ k ∧ k ≤ 5) ∧ (0 ≤ f ∧ f ≤ 9)
def BOK (hold pace : Int) : Prop := (0 ≤ hold ∧ hold ≤ 2) ∧ (1 ≤ pace ∧ pace ≤ 9)
theorem hv_half {h hold : Int} (h1 : 0 ≤ h) (h2 : h ≤ 9) (h3 : 0 ≤ hold) (h4 : hold ≤ 2) : 0 ≤ h * (4 - hold) ∧ h * (4 - hold) ≤ 36 := by
  have e : hold = 0 ∨ hold = 1 ∨ hold = 2 := by omega
  rcases e with rfl | rfl | rfl <;> omega
theorem sLoad_le {k f h hold : Int} (hk : KOK k f) (h1 : 0 ≤ h) (h2 : h ≤ 9) (h3 : 0 ≤ hold) (h4 : hold ≤ 2) : 0 ≤ sLoad k f h hold ∧ sLoad k f h hold ≤ 54 := by
  obtain ⟨⟨a, b⟩, c, d⟩ := hk
  have := hv_half h1 h2 h3 h4
  unfold sLoad
  generalize h * (4 - hold) = z at *
  (repeat' split) <;> omega
theorem f4_load {k f h hold : Int} (hk : KOK k f) (h1 : 0 ≤ h) (h2 : h ≤ 9) (h3 : 0 ≤ hold) (h4 : hold ≤ 2) : f4_loadOn k f h hold = sLoad k f h hold := by
  obtain ⟨⟨a, b⟩, c, d⟩ := hk
  have := hv_half h1 h2 h3 h4
  unfold f4_loadOn sLoad
  generalize h * (4 - hold) = z at *
  rw [wr_id (by omega) (by omega), dv_nat (x := z) (by omega) (by omega) (by omega) (by omega), dv_nat (x := f) (by omega) (by omega) (by omega) (by omega), mx_eq (by omega) (by omega) (by omega) (by omega)]
  (repeat' split) <;> omega
theorem f4_ten {k f hold pace : Int} (hk : KOK k f) (hb : BOK hold pace) : f4_tenthsOf k f hold pace = sTen k f hold pace := by
  obtain ⟨⟨a, b⟩, c, d⟩ := hk
  obtain ⟨⟨b1, b2⟩, b3, b4⟩ := hb
  unfold f4_tenthsOf sTen
  rw [wr_id (by omega) (by omega), mx_eq (by omega) (by omega) (by omega) (by omega)]
theorem sTen_le {k f hold pace : Int} (hk : KOK k f) (hb : BOK hold pace) : 1 ≤ sTen k f hold pace ∧ sTen k f hold pace ≤ 60 := by
  obtain ⟨⟨a, b⟩, c, d⟩ := hk
  obtain ⟨⟨b1, b2⟩, b3, b4⟩ := hb
  unfold sTen
  (repeat' split) <;> omega
theorem f4_lim {k h : Int} (h1 : 0 ≤ k) (h2 : k ≤ 5) (h3 : 0 ≤ h) (h4 : h ≤ 9) : f4_limitOn k h = sLim k h := by
  unfold f4_limitOn sLim
  rw [wr_id (by omega) (by omega), mx_eq (x := h - 1) (by omega) (by omega) (by omega) (by omega), mx_eq (x := h - 2) (by omega) (by omega) (by omega) (by omega)]
theorem sLim_le {k h : Int} (h3 : 0 ≤ h) (h4 : h ≤ 9) : 0 ≤ sLim k h ∧ sLim k h ≤ 11 := by
  unfold sLim
  (repeat' split) <;> omega
/-- rests ahead of a yard: what is left then, how many they were -/
def sRest (a t : Int) : Nat → Int → Int × Int
  | 0, l => (l, 0)
  | n + 1, l => if l < t then ((sRest a t n (min (l + 10) a)).1, (sRest a t n (min (l + 10) a)).2 + 1) else (l, 0)
/-- a race under way: left, tenths, noses, rests; none: never over -/
abbrev RS : Type := Option (Int × Int × Int × Int)
def sStep (k f a h d hold pace : Int) (s : RS) : RS := match s with
  | none => none
  | some (l, t, n, r) => if a < sLoad k f h hold + pace then none else
    if sLim k d < pace then some (min ((sRest a (sLoad k f h hold + pace) 6 l).1 - (sLoad k f h hold + pace) + 5) a, t + 15 * (sRest a (sLoad k f h hold + pace) 6 l).2 + sTen k f hold pace + 40, n + 1, r + (sRest a (sLoad k f h hold + pace) 6 l).2)
    else some ((sRest a (sLoad k f h hold + pace) 6 l).1 - (sLoad k f h hold + pace), t + 15 * (sRest a (sLoad k f h hold + pace) 6 l).2 + sTen k f hold pace, n, r + (sRest a (sLoad k f h hold + pace) 6 l).2)
theorem sRest_ok {a t : Int} (hta : t ≤ a) (ha : a ≤ 60) : ∀ (n : Nat) (l : Int), 0 ≤ l → l ≤ a → 60 - 10 * (n : Int) ≤ l → (t ≤ (sRest a t n l).1 ∧ (sRest a t n l).1 ≤ a ∧ 0 ≤ (sRest a t n l).2 ∧ (sRest a t n l).2 ≤ (n : Int))
  | 0, l, h0, h1, h2 => by
    simp only [sRest]
    omega
  | n + 1, l, h0, h1, h2 => by
    simp only [sRest]
    split
    · have h3 : 60 - 10 * (n : Int) ≤ min (l + 10) a ∨ a < 60 - 10 * (n : Int) := by omega
      rcases h3 with h3 | h3
      · have := sRest_ok hta ha n (min (l + 10) a) (by omega) (by omega) h3
        dsimp only
        omega
      · -- the arms are full already
        have h4 : l + 10 ≥ a := by omega
        have h5 : min (l + 10) a = a := by omega
        rw [h5]
        have h6 : sRest a t n a = (a, 0) := by
          cases n with
          | zero => rfl
          | succ n => simp only [sRest]; rw [if_neg (by omega)]
        rw [h6]
        dsimp only
        omega
    · dsimp only
      omega

/-! THE SMALL MACHINE'S RUNS ARE THE MACHINE'S -/
def cv (ad : Nat → Nat) (v : AV) : Value := match v with
  | .inl x => .int (Int32.ofInt x)
  | .inr (.inl x) => .long (Int64.ofInt x)
  | .inr (.inr none) => .null
  | .inr (.inr (some r)) => .ref (ad r)
def cvs (ad : Nat → Nat) (M : Mem) (i k : Nat) (s : Option (Option Nat)) : Value := match s with
  | none => .int (Int32.ofInt (M i k))
  | some r => cv ad (.inr (.inr r))
def wce (cA : ClassId) (ad : Nat → Nat) (M : Mem) (i : Nat) (d : Nat ⊕ (Nat × List (Option (Option Nat)))) : va_E := match d with
  | .inl n => .inl (cA, n, .inl (fun j => Int32.ofInt (M i j)))
  | .inr o => .inr (o.1, o.2.mapIdx (cvs ad M i))
def wd (cA : ClassId) (ad : Nat → Nat) (G : GM) : va_W := G.1.mapIdx (fun i d => (ad i, wce cA ad G.2 i d))
theorem wd_at {cA : ClassId} {ad : Nat → Nat} {G : GM} {i : Nat} {d : Nat ⊕ (Nat × List (Option (Option Nat)))} (h : G.1[i]? = some d) : (wd cA ad G)[i]? = some (ad i, wce cA ad G.2 i d) := by
  unfold wd
  rw [List.getElem?_mapIdx, h]
  rfl
theorem wd_get {cA : ClassId} {ad : Nat → Nat} {G : GM} {i : Nat} {q : Nat × va_E} (h : (wd cA ad G)[i]? = some q) : ∃ d, G.1[i]? = some d ∧ q = (ad i, wce cA ad G.2 i d) := by
  unfold wd at h
  rw [List.getElem?_mapIdx] at h
  cases hd : G.1[i]? with
  | none => rw [hd] at h; cases h
  | some d => rw [hd] at h; exact ⟨d, rfl, (Option.some.inj h).symm⟩
theorem wd_len (cA : ClassId) (ad : Nat → Nat) (G : GM) : (wd cA ad G).length = G.1.length := by
  unfold wd; simp
theorem up_self (M : Mem) (a k : Nat) (x : Int) : up M a k x a k = x := by simp [up]
theorem up_ne {M : Mem} {a k i j : Nat} {x : Int} (h : ¬ (i = a ∧ j = k)) : up M a k x i j = M i j := by simp only [up, h, if_false]
theorem wce_up_ne {cA : ClassId} {ad : Nat → Nat} {M : Mem} {a k i : Nat} {x : Int} (h : i ≠ a) (d : Nat ⊕ (Nat × List (Option (Option Nat)))) : wce cA ad (up M a k x) i d = wce cA ad M i d := by
  have e : ∀ j, up M a k x i j = M i j := fun j => up_ne (fun q => h q.1)
  cases d with
  | inl n => simp only [wce, e]
  | inr o => 
    have e2 : cvs ad (up M a k x) i = cvs ad M i := by
      funext k s
      cases s with
      | none => simp only [cvs, e]
      | some r => rfl
    simp only [wce, e2]
/-- storing into a slot of a whole number -/
theorem wd_putI {cA : ClassId} {ad : Nat → Nat} {G : GM} {a ci B : Nat} {sl : List (Option (Option Nat))} {x : Int} (ha : G.1[a]? = some (.inr (ci, sl))) (hB : sl[B]? = some none) :
    (wd cA ad G).set a (ad a, .inr (ci, (sl.mapIdx (cvs ad G.2 a)).set B (.int (Int32.ofInt x)))) = wd cA ad (G.1, up G.2 a B x) := by
  apply List.ext_getElem?
  intro i
  by_cases hi : a = i
  · subst hi
    have hlt : a < (wd cA ad G).length := by rw [wd_len]; exact (List.getElem?_eq_some_iff.mp ha).1
    rw [List.getElem?_set_self hlt, wd_at (G := (G.1, up G.2 a B x)) ha]
    congr 3
    show (ci, (List.mapIdx (cvs ad G.2 a) sl).set B (Value.int (Int32.ofInt x))) = (ci, sl.mapIdx (cvs ad (up G.2 a B x) a))
    congr 1
    apply List.ext_getElem?
    intro k
    by_cases hk : B = k
    · subst hk
      rw [List.getElem?_set_self (by simp; exact (List.getElem?_eq_some_iff.mp hB).1), List.getElem?_mapIdx, hB]
      simp [cvs, up_self]
    · rw [List.getElem?_set_ne hk, List.getElem?_mapIdx, List.getElem?_mapIdx]
      cases sl[k]? with
      | none => rfl
      | some s =>
        cases s with
        | none => simp only [Option.map_some, cvs]; rw [up_ne (fun q => hk q.2.symm)]
        | some r => rfl
  · rw [List.getElem?_set_ne hi]
    unfold wd
    rw [List.getElem?_mapIdx, List.getElem?_mapIdx]
    cases G.1[i]? with
    | none => rfl
    | some d => simp only [Option.map_some]; rw [wce_up_ne (fun q => hi q.symm)]
/-- storing into a slot of a reference -/
theorem wd_putR {cA : ClassId} {ad : Nat → Nat} {G : GM} {a ci B : Nat} {sl : List (Option (Option Nat))} {r0 q : Option Nat} (ha : G.1[a]? = some (.inr (ci, sl))) (hB : sl[B]? = some (some r0)) :
    (wd cA ad G).set a (ad a, .inr (ci, (sl.mapIdx (cvs ad G.2 a)).set B (cv ad (.inr (.inr q))))) = wd cA ad (G.1.set a (.inr (ci, sl.set B (some q))), G.2) := by
  have hl : a < G.1.length := (List.getElem?_eq_some_iff.mp ha).1
  have hb : B < sl.length := (List.getElem?_eq_some_iff.mp hB).1
  apply List.ext_getElem?
  intro i
  by_cases hi : a = i
  · subst hi
    have hlt : a < (wd cA ad G).length := by rw [wd_len]; exact hl
    rw [List.getElem?_set_self hlt, wd_at (G := (G.1.set a (.inr (ci, sl.set B (some q))), G.2)) (List.getElem?_set_self hl)]
    congr 3
    show (ci, (List.mapIdx (cvs ad G.2 a) sl).set B (cv ad (Sum.inr (Sum.inr q)))) = (ci, (sl.set B (some q)).mapIdx (cvs ad G.2 a))
    congr 1
    apply List.ext_getElem?
    intro k
    by_cases hk : B = k
    · subst hk
      rw [List.getElem?_set_self (by simp; exact hb), List.getElem?_mapIdx, List.getElem?_set_self hb]
      rfl
    · rw [List.getElem?_set_ne hk, List.getElem?_mapIdx, List.getElem?_mapIdx, List.getElem?_set_ne hk]
  · rw [List.getElem?_set_ne hi]
    unfold wd
    rw [List.getElem?_mapIdx, List.getElem?_mapIdx, List.getElem?_set_ne hi]
theorem ofInt_nat {k : Nat} (h : k < 2 ^ 31) : (Int32.ofInt (k : Int)).toNatClampNeg = k := by
  rw [Int32.toNatClampNeg_ofInt_of_le (by omega) (by omega)]; simp
theorem wr_nat (x : Int) : (Int32.ofInt x).toNatClampNeg = (wr x).toNat := rfl
/-- storing into an array -/
theorem wd_ast {cA : ClassId} {ad : Nat → Nat} {G : GM} {a n k : Nat} {x : Int} (ha : G.1[a]? = some (.inl n)) :
    (wd cA ad G).set a (ad a, .inl (cA, n, .inl (upd (fun j => Int32.ofInt (G.2 a j)) k (Int32.ofInt x)))) = wd cA ad (G.1, up G.2 a k x) := by
  apply List.ext_getElem?
  intro i
  by_cases hi : a = i
  · subst hi
    have hlt : a < (wd cA ad G).length := by rw [wd_len]; exact (List.getElem?_eq_some_iff.mp ha).1
    rw [List.getElem?_set_self hlt, wd_at (G := (G.1, up G.2 a k x)) ha]
    congr 3
    show (cA, n, Sum.inl (upd (fun j => Int32.ofInt (G.2 a j)) k (Int32.ofInt x))) = (cA, n, Sum.inl (fun j => Int32.ofInt (up G.2 a k x a j)))
    congr 3
    funext j
    by_cases hj : j = k
    · subst hj; simp [upd, up_self]
    · simp only [upd, hj, if_false]; rw [up_ne (fun q => hj q.2)]
  · rw [List.getElem?_set_ne hi]
    unfold wd
    rw [List.getElem?_mapIdx, List.getElem?_mapIdx]
    cases G.1[i]? with
    | none => rfl
    | some d => simp only [Option.map_some]; rw [wce_up_ne (fun q => hi q.symm)]
theorem wce_clr_ne {cA : ClassId} {ad : Nat → Nat} {M : Mem} {a i : Nat} (h : i ≠ a) (d : Nat ⊕ (Nat × List (Option (Option Nat)))) : wce cA ad (clr M a) i d = wce cA ad M i d := by
  have e : ∀ j, clr M a i j = M i j := fun j => by simp only [clr, h, if_false]
  cases d with
  | inl n => simp only [wce, e]
  | inr o => 
    have e2 : cvs ad (clr M a) i = cvs ad M i := by
      funext k s
      cases s with
      | none => simp only [cvs, e]
      | some r => rfl
    simp only [wce, e2]
/-- a new cell -/
theorem wd_new {cA : ClassId} {ad : Nat → Nat} {G : GM} (d : Nat ⊕ (Nat × List (Option (Option Nat)))) :
    wd cA ad G ++ [(ad G.1.length, wce cA ad (clr G.2 G.1.length) G.1.length d)] = wd cA ad (G.1 ++ [d], clr G.2 G.1.length) := by
  apply List.ext_getElem?
  intro i
  rcases Nat.lt_trichotomy i G.1.length with h | h | h
  · rw [List.getElem?_append_left (by rw [wd_len]; exact h)]
    unfold wd
    rw [List.getElem?_mapIdx, List.getElem?_mapIdx, List.getElem?_append_left h]
    cases G.1[i]? with
    | none => rfl
    | some d => simp only [Option.map_some]; rw [wce_clr_ne (by omega)]
  · subst h
    rw [List.getElem?_append_right (by rw [wd_len]; omega), wd_len, Nat.sub_self]
    unfold wd
    rw [List.getElem?_mapIdx, List.getElem?_append_right (Nat.le_refl _), Nat.sub_self]
    rfl
  · rw [List.getElem?_eq_none (by simp [wd_len]; omega), List.getElem?_eq_none (by rw [wd_len]; simp; omega)]
/-! numbers -/
theorem c_eq (x y : Int) : Int32.ofInt x = Int32.ofInt y ↔ wr x = wr y := Int32.toInt_inj.symm
theorem c_lt (x y : Int) : Int32.ofInt x < Int32.ofInt y ↔ wr x < wr y := Int32.lt_iff_toInt_lt
theorem c_le (x y : Int) : Int32.ofInt x ≤ Int32.ofInt y ↔ wr x ≤ wr y := Int32.le_iff_toInt_le
theorem z_eq (x : Int) : Int32.ofInt x = 0 ↔ wr x = 0 := by rw [← Int32.toInt_inj]; rfl
theorem z_lt (x : Int) : Int32.ofInt x < 0 ↔ wr x < 0 := by rw [Int32.lt_iff_toInt_lt]; rfl
theorem z_gt (x : Int) : 0 < Int32.ofInt x ↔ 0 < wr x := by rw [Int32.lt_iff_toInt_lt]; rfl
theorem z_le (x : Int) : Int32.ofInt x ≤ 0 ↔ wr x ≤ 0 := by rw [Int32.le_iff_toInt_le]; rfl
theorem z_ge (x : Int) : 0 ≤ Int32.ofInt x ↔ 0 ≤ wr x := by rw [Int32.le_iff_toInt_le]; rfl
theorem o_one (x : Int) : Int32.ofInt x = 1 ↔ wr x = 1 := by rw [← Int32.toInt_inj]; rfl
theorem wr_of (x : Int) : Int32.ofInt (wr x) = Int32.ofInt x := Int32.ofInt_toInt _
theorem c_dv (x y : Int) : Int32.ofInt x / Int32.ofInt y = Int32.ofInt (dv x y) := by
  have e : (Int32.ofInt (dv x y)).toInt = (dv x y).bmod (2 ^ 32) := Int32.toInt_ofInt
  rw [← Int32.toInt_inj, Int32.toInt_div, e]
  rfl
theorem c_rm (x y : Int) : Int32.ofInt x - Int32.ofInt x / Int32.ofInt y * Int32.ofInt y = Int32.ofInt (rmd x y) := by
  rw [c_dv, ← Int32.ofInt_mul]
  unfold rmd
  rw [Int.tmod_def, Int32.ofInt_sub, wr_of, Int32.ofInt_mul, Int32.ofInt_mul, wr_of, Int32.mul_comm]
  rfl
theorem c_bool {x : Int} (h : wr x = 0 ∨ wr x = 1) : (Int32.ofInt x = 0 ∨ Int32.ofInt x = 1) := by
  rcases h with h | h
  · exact Or.inl ((z_eq x).mpr h)
  · exact Or.inr ((o_one x).mpr h)
theorem c_nar {x : Int} (h : wr x = 0 ∨ wr x = 1) : narrow .boolean (.int (Int32.ofInt x)) = .int (Int32.ofInt x) := by
  rcases c_bool h with e | e <;> rw [e] <;> rfl
theorem c_fit {x : Int} (h : wr x = 0 ∨ wr x = 1) : fits .boolean (.int (Int32.ofInt x)) = true := by
  rcases c_bool h with e | e <;> rw [e] <;> rfl
theorem c_i2l (x : Int) : (Int32.ofInt x).toInt64 = Int64.ofInt (wr x) := by
  rw [← Int64.toInt_inj, Int32.toInt_toInt64]
  have h1 := Int32.toInt_lt (Int32.ofInt x)
  have h2 := Int32.le_toInt (Int32.ofInt x)
  rw [Int64.toInt_ofInt_of_le (by unfold wr; omega) (by unfold wr; omega)]
  rfl
theorem c_lcmp (x y : Int) : lg_cmp (Int64.ofInt x) (Int64.ofInt y) = Int32.ofInt (cmpl x y) := by
  unfold lg_cmp cmpl
  have e1 : (Int64.ofInt x > Int64.ofInt y) ↔ wl y < wl x := Int64.lt_iff_toInt_lt
  have e2 : (Int64.ofInt x = Int64.ofInt y) ↔ wl x = wl y := Int64.toInt_inj.symm
  by_cases h1 : wl y < wl x
  · rw [if_pos (e1.mpr h1), if_pos h1]; rfl
  · rw [if_neg (fun q => h1 (e1.mp q)), if_neg h1]
    by_cases h2 : wl x = wl y
    · rw [if_pos (e2.mpr h2), if_pos h2]; rfl
    · rw [if_neg (fun q => h2 (e2.mp q)), if_neg h2]; rfl
theorem c_in {i : Int} {n : Nat} (h : 0 ≤ wr i ∧ wr i < (n : Int)) : vp_in (Int32.ofInt i) n := by
  intro q
  rcases q with q | q
  · have := (z_lt i).mp q; omega
  · rw [wr_nat] at q; omega

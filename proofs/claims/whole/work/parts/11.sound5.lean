/-! THE THEOREM: what the small machine runs, the machine runs -/
section NEW
variable {l : Launch} {D : va_G} {m : Nat} {cA : ClassId} {ad : Nat → Nat} {A : Nat → Prop} {L0 : Nat} {G G' : GM} {al : ALs} {p : Program} {e : Env} {s : State} {mi : MethodId} {args : Array Value} {below : List Frame} {meth : Method} {c : Code} {R : Room} {H : Heap} {locs : List Loc} {cells slots : Nat} {ls : Array Slot} {Q : State → Prop}
theorem va_P_push {d : Nat ⊕ (Nat × List (Option (Option Nat)))} {H1 : Heap} (hP : va_P D kCls (wd cA ad G) H) (ho : ∀ q, q < H.size → H1[q]? = H[q]?) (hd : va_at D kCls (ad G.1.length, wce cA ad (clr G.2 G.1.length) G.1.length d) H1) : va_P D kCls (wd cA ad (G.1 ++ [d], clr G.2 G.1.length)) H1 := by
  rw [← wd_new]
  refine (hP.kept fun k x hx => ho x.1 ((hP k x hx).lt)).app (fun k x hx => ?_)
  have hz : k < 1 := (List.getElem?_eq_some_iff.mp hx).1
  rw [show k = 0 by omega] at hx
  cases hx
  exact hd
theorem va_S_push {H1 : Heap} (hS : va_S A s.heap H locs) (hz : H1.size = H.size + 1) (ho : ∀ q, q < H.size → H1[q]? = H[q]?) : va_S A s.heap H1 locs :=
  ⟨by have := hS.1; omega, fun x h1 h2 => (ho x (Nat.lt_of_lt_of_le h1 hS.1)).trans (hS.2.1 x h1 h2), hS.2.2⟩
/-- a new array -/
theorem e_newa {pc : Nat} {x : Int} {rest : List Value} (hC : Ctx D cA m p s mi args meth c R) (hI : Inv D cA ad A L0 (md m).2.2.1 G' s R G al H locs cells slots ls) (hx : 0 ≤ wr x ∧ wr x < 100000)
    (hg : Gr (G.1 ++ [.inl (wr x).toNat], clr G.2 G.1.length) G') (hdec : decode (md m).2.1 pc = .ok (.newarray .int, 2))
    (nxt : ∀ (H1 : Heap) (locs1 : List Loc) (cells1 slots1 : Nat), Inv D cA ad A L0 (md m).2.2.1 G' s R (G.1 ++ [.inl (wr x).toNat], clr G.2 G.1.length) al H1 locs1 cells1 slots1 ls → W p l e R s mi args below meth c H1 locs1 cells1 slots1 Q (F0 mi (pc + 2) ls (.ref (ad G.1.length) :: rest))) :
    W p l e R s mi args below meth c H locs cells slots Q (F0 mi pc ls (.int (Int32.ofInt x) :: rest)) := by
  have hlen : (G.1 ++ [(Sum.inl (wr x).toNat : Nat ⊕ (Nat × List (Option (Option Nat))))]).length = G.1.length + 1 := by simp
  have hsiz : siz (G.1 ++ [(Sum.inl (wr x).toNat : Nat ⊕ (Nat × List (Option (Option Nat))))]) = siz G.1 + (wr x).toNat := siz_app _ _
  obtain ⟨g1, g2⟩ := hg
  dsimp only at g1 g2
  rw [hlen] at g1
  rw [hsiz] at g2
  refine W_sz fun hu => ?_
  have hsz := hI.size (by omega) hu
  obtain ⟨hP, hS, hl, hn, hc, hRc, hRs, had⟩ := hI
  obtain ⟨hx0, hb, hml, hr, hown, hts, hlocks, hname, hN, hK, hRf, hRl⟩ := hC
  have harr := hts _ (List.mem_cons_of_mem _ (inT_ok arr_ok))
  have hlt5 : (wr x).toNat < 100000 := by omega
  have hb1 : (wr x).toNat * componentBytes (newarray.typeOf .int) ≤ 536870912 := Nat.le_trans (Nat.mul_le_mul_right 4 (Nat.le_of_lt hlt5)) (Nat.le_of_ble_eq_true rfl)
  have hng : ¬ (Int32.ofInt x < 0) := fun q => by have := (z_lt x).mp q; omega
  have hr1 : cells + 1 ≤ R.cells := by omega
  have hr2 : slots + (wr x).toNat ≤ R.slots := by omega
  refine va_newaK (atype := .int) (g := F0 mi pc ls (.int (Int32.ofInt x) :: rest)) hx0 hb harr rfl hdec rfl hng (wr_nat x) hb1 hr1 hr2 rfl fun H1 cA' e1 z1 o1 hAr hNm => ?_
  have hcA : cA' = cA := by
    have h1 := (hK.2 0 (cA, .int) rfl).2
    have h2 : s.vm.findClass ("[" ++ FieldType.int.toString) = some cA := h1
    exact Option.some.inj (hNm.symm.trans h2)
  subst hcA
  have hq : ad G.1.length = H.size := by rw [had _ (by omega) (by omega), hsz]; omega
  have hcell : va_at D kCls (ad G.1.length, wce cA' ad (clr G.2 G.1.length) G.1.length (.inl (wr x).toNat)) H1 := by
    have e2 : (fun (_ : Nat) => defaultValue (newarray.typeOf .int)) = fun j => Value.int (Int32.ofInt (clr G.2 G.1.length G.1.length j)) := by
      funext j
      simp only [clr, if_true]
      rfl
    rw [e2] at e1
    show H1[ad G.1.length]? = some (arrV cA' (wr x).toNat (fun j => Value.int (Int32.ofInt (clr G.2 G.1.length G.1.length j))))
    rw [hq]
    exact e1
  have h9 := nxt H1 locs (cells + 1) (slots + (wr x).toNat) ⟨va_P_push hP o1 hcell, va_S_push hS z1 o1, hl, hn, by dsimp only; rw [hlen]; omega, by dsimp only; rw [hlen]; omega, by dsimp only; rw [hsiz]; omega, had⟩
  rw [hq] at h9
  exact h9
/-- a new object -/
theorem e_new {pc i k : Nat} {rest : List Value} (hC : Ctx D cA m p s mi args meth c R) (hI : Inv D cA ad A L0 (md m).2.2.1 G' s R G al H locs cells slots ls) (hk : k < 10)
    (h1 : Cond.classLink (md m).1.cls i (kNm k) ∈ tblG) (h2 : Cond.instantiable (kNm k) (kN k) ∈ tblG) (h3 : Cond.initialized (kNm k) ∈ tblG)
    (hg : Gr (G.1 ++ [.inr (k, kDef k)], clr G.2 G.1.length) G') (hdec : decode (md m).2.1 pc = .ok (.new i, 3))
    (nxt : ∀ (H1 : Heap) (locs1 : List Loc) (cells1 slots1 : Nat), Inv D cA ad A L0 (md m).2.2.1 G' s R (G.1 ++ [.inr (k, kDef k)], clr G.2 G.1.length) al H1 locs1 cells1 slots1 ls → W p l e R s mi args below meth c H1 locs1 cells1 slots1 Q (F0 mi (pc + 3) ls (.ref (ad G.1.length) :: rest))) :
    W p l e R s mi args below meth c H locs cells slots Q (F0 mi pc ls rest) := by
  have hdk := List.all_eq_true.mp kDef_ok k (List.mem_range.mpr hk)
  simp only [Bool.and_eq_true, decide_eq_true_eq] at hdk
  obtain ⟨hkl, hkd⟩ := hdk
  have hlen : (G.1 ++ [(Sum.inr (k, kDef k) : Nat ⊕ (Nat × List (Option (Option Nat))))]).length = G.1.length + 1 := by simp
  have hsiz : siz (G.1 ++ [(Sum.inr (k, kDef k) : Nat ⊕ (Nat × List (Option (Option Nat))))]) = siz G.1 + kN k := by rw [siz_app, ← hkl]
  obtain ⟨g1, g2⟩ := hg
  dsimp only at g1 g2
  rw [hlen] at g1
  rw [hsiz] at g2
  refine W_sz fun hu => ?_
  have hsz := hI.size (by omega) hu
  obtain ⟨hP, hS, hl, hn, hc, hRc, hRs, had⟩ := hI
  obtain ⟨hx0, hb, hml, hr, hown, hts, hlocks, hname, hN, hK, hRf, hRl⟩ := hC
  have hts' : ∀ w ∈ tblG, w.before args s = true := fun w hw => hts w (List.mem_cons_of_mem _ hw)
  have hKn := hK.1 k _ (kCls_at k hk)
  refine W.newcK (g := F0 mi pc ls rest) hx0 hb hown (hts' _ h1) (hts' _ h2) (hts' _ h3) rfl hdec (by omega) (by omega) hKn.2.1 rfl fun H1 kC hkC e1 z1 o1 => ?_
  have hq : ad G.1.length = H.size := by rw [had _ (by omega) (by omega), hsz]; omega
  have h9 := nxt H1 locs (cells + 1) (slots + kN k) ⟨va_P_push hP o1 (by
      refine ⟨_, kCls_at k hk, ?_⟩
      show t_OB (ad G.1.length) (D.1 k) (kN k) (D.2 k) H1 _
      rw [hq]
      refine (u_born (kTy k) hts' (cls_in k hk) hKn hkC e1 (kTys k hk)).to fun j hj => ?_
      have h4 := List.all_eq_true.mp hkd j (List.mem_range.mpr hj)
      show defaultValue (kTy k j) = ((kDef k).mapIdx (cvs ad (clr G.2 G.1.length) G.1.length)).getD j .null
      rw [List.getD_eq_getElem?_getD, List.getElem?_mapIdx]
      revert h4
      cases hd : (kDef k)[j]? with
      | none => intro h4; cases h4
      | some o =>
        match o with
        | none =>
          intro h4
          rw [of_decide_eq_true h4]
          show Value.int 0 = Value.int (Int32.ofInt (clr G.2 G.1.length G.1.length j))
          simp only [clr, if_true]
          rfl
        | some none =>
          intro h4
          rw [of_decide_eq_true h4]
          rfl
        | some (some r) => intro h4; cases h4), va_S_push hS z1 o1, hl, hn, by dsimp only; rw [hlen]; omega, by dsimp only; rw [hlen]; omega, by dsimp only; rw [hsiz]; omega, had⟩
  rw [hq] at h9
  exact h9
end NEW

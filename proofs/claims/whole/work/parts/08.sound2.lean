/-! locals -/
def prs (ad : Nat → Nat) (al : ALs) : List (Nat × Value) := (List.range al.length).filterMap (fun i => match al[i]? with
  | some (some v) => some (i, cv ad v)
  | _ => none)
theorem prs_mem {ad : Nat → Nat} {al : ALs} {i : Nat} {v : AV} (h : al[i]? = some (some v)) : (i, cv ad v) ∈ prs ad al := by
  refine List.mem_filterMap.mpr ⟨i, List.mem_range.mpr (List.getElem?_eq_some_iff.mp h).1, ?_⟩
  rw [h]
theorem mem_prs {ad : Nat → Nat} {al : ALs} {q : Nat × Value} (h : q ∈ prs ad al) : ∃ v, al[q.1]? = some (some v) ∧ q.2 = cv ad v := by
  obtain ⟨i, hi, h2⟩ := List.mem_filterMap.mp h
  cases ho : al[i]? with
  | none => rw [ho] at h2; cases h2
  | some o =>
    cases o with
    | none => rw [ho] at h2; cases h2
    | some v =>
      rw [ho] at h2
      have h3 := Option.some.inj h2
      subst h3
      exact ⟨v, ho, rfl⟩
theorem prs_at {ad : Nat → Nat} {al : ALs} {ls : Array Slot} {nL i : Nat} {v : AV} (hl : lv_has ls nL (prs ad al)) (h : al[i]? = some (some v)) : ls[i]? = some (.val (cv ad v)) := hl.2.2 _ (prs_mem h)
theorem cat_cv (ad : Nat → Nat) (v : AV) : (cv ad v).category = cat v := by
  match v with
  | .inl x => rfl
  | .inr (.inl x) => rfl
  | .inr (.inr none) => rfl
  | .inr (.inr (some x)) => rfl
theorem okst_lt {al : ALs} {i : Nat} (h : okst al i = true) : i < al.length := by
  unfold okst at h
  rw [Bool.and_eq_true] at h
  exact Nat.le_of_ble_eq_true h.1
theorem okst_cat {al : ALs} {i : Nat} (h : okst al (i + 1) = true) {v : AV} (hv : al[i]? = some (some v)) : cat v = 1 := by
  unfold okst at h
  rw [Bool.and_eq_true] at h
  have h2 := h.2
  dsimp only at h2
  rw [hv] at h2
  match v, h2 with
  | .inl x, _ => rfl
  | .inr (.inr x), _ => rfl
theorem prs_set {ad : Nat → Nat} {al : ALs} {ls' : Array Slot} {nL i : Nat} {v : AV} (hk : okst al i = true)
    (h : lv_has ls' nL ((i, cv ad v) :: (prs ad al).filter (fun q => !(q.1 == i) && !(q.1 + 1 == i && q.2.category == 2)))) : lv_has ls' nL (prs ad (al.set i (some v))) := by
  refine ⟨h.1, h.2.1, fun q hq => h.2.2 q ?_⟩
  obtain ⟨w, h1, h2⟩ := mem_prs hq
  obtain ⟨j, x⟩ := q
  dsimp only at h1 h2
  subst h2
  by_cases hj : i = j
  · subst hj
    rw [List.getElem?_set_self (okst_lt hk)] at h1
    have e := Option.some.inj (Option.some.inj h1)
    rw [e]
    exact List.mem_cons_self
  · rw [List.getElem?_set_ne hj] at h1
    refine List.mem_cons_of_mem _ (List.mem_filter.mpr ⟨prs_mem h1, ?_⟩)
    have e1 : (j == i) = false := by simp; omega
    show (!(j == i) && !(j + 1 == i && (cv ad w).category == 2)) = true
    rw [e1, cat_cv]
    by_cases hji : j + 1 = i
    · subst hji
      rw [okst_cat hk h1]
      simp
    · have e2 : (j + 1 == i) = false := by simp; exact hji
      rw [e2]
      rfl
theorem alocs_len : ∀ (as : List AV) (n : Nat), cats as ≤ n → (alocs n as).length = n
  | [], n, _ => by simp [alocs]
  | .inr (.inl x) :: r, n, h => by
    have h1 : 2 + cats r ≤ n := h
    have := alocs_len r (n - 2) (by omega)
    simp only [alocs, List.length_cons]
    omega
  | .inl x :: r, n, h => by
    have h1 : 1 + cats r ≤ n := h
    have := alocs_len r (n - 1) (by omega)
    simp only [alocs, List.length_cons]
    omega
  | .inr (.inr x) :: r, n, h => by
    have h1 : 1 + cats r ≤ n := h
    have := alocs_len r (n - 1) (by omega)
    simp only [alocs, List.length_cons]
    omega
theorem alocs_args (ad : Nat → Nat) : ∀ (as : List AV) (n k i : Nat) (v : AV), (alocs n as)[i]? = some (some v) → (k + i, cv ad v) ∈ lv_args k (as.map (cv ad))
  | [], n, k, i, v, h => by
    simp only [alocs] at h
    rw [List.getElem?_replicate] at h
    split at h <;> cases h
  | .inr (.inl x) :: r, n, k, i, v, h => by
    simp only [alocs] at h
    match i, h with
    | 0, h =>
      have e := Option.some.inj (Option.some.inj h)
      subst e
      exact List.mem_cons_self
    | 1, h => cases h
    | i + 2, h =>
      have := alocs_args ad r (n - 2) (k + 2) i v h
      rw [show k + (i + 2) = k + 2 + i by omega]
      exact List.mem_cons_of_mem _ this
  | .inl x :: r, n, k, i, v, h => by
    simp only [alocs] at h
    match i, h with
    | 0, h =>
      have e := Option.some.inj (Option.some.inj h)
      subst e
      exact List.mem_cons_self
    | i + 1, h =>
      have := alocs_args ad r (n - 1) (k + 1) i v h
      rw [show k + (i + 1) = k + 1 + i by omega]
      exact List.mem_cons_of_mem _ this
  | .inr (.inr x) :: r, n, k, i, v, h => by
    simp only [alocs] at h
    match i, h with
    | 0, h =>
      have e := Option.some.inj (Option.some.inj h)
      subst e
      exact List.mem_cons_self
    | i + 1, h =>
      have := alocs_args ad r (n - 1) (k + 1) i v h
      have e : (cv ad (.inr (.inr x))).category = 1 := cat_cv ad _
      have h2 : lv_args k ((.inr (.inr x) :: r).map (cv ad)) = (k, cv ad (.inr (.inr x))) :: lv_args (k + 1) (r.map (cv ad)) := by
        show (k, cv ad (.inr (.inr x))) :: lv_args (if (cv ad (.inr (.inr x))).category = 2 then k + 2 else k + 1) _ = _
        rw [e]
        rfl
      rw [show k + (i + 1) = k + 1 + i by omega, h2]
      exact List.mem_cons_of_mem _ this
theorem lg_len (ad : Nat → Nat) : ∀ as : List AV, (lg_sl (as.map (cv ad))).length = cats as
  | [] => rfl
  | v :: r => by
    have ih := lg_len ad r
    have e := cat_cv ad v
    show (((if (cv ad v).category = 2 then [Slot.val (cv ad v), Slot.second] else [Slot.val (cv ad v)]) ++ lg_sl (r.map (cv ad)))).length = cat v + cats r
    rw [List.length_append, ih, e]
    match v with
    | .inl x => rfl
    | .inr (.inl x) => rfl
    | .inr (.inr x) => rfl
theorem cats_map (ad : Nat → Nat) : ∀ st : List AV, ((st.map (cv ad)).map fun v => v.category).sum = cats st
  | [] => rfl
  | v :: r => by
    have ih := cats_map ad r
    show (cv ad v).category + ((r.map (cv ad)).map fun v => v.category).sum = cat v + cats r
    rw [ih, cat_cv]
/-! what stands on the stack -/
section INV
variable {α : Type} {v : α}
theorem q1_inv {st : List AV} {k : Int → List AV → Option α} (h : q1 st k none = some v) : ∃ x r, st = .inl x :: r ∧ k x r = some v := by
  match st, h with
  | .inl x :: r, h => exact ⟨x, r, rfl, h⟩
theorem q2_inv {st : List AV} {k : Int → Int → List AV → Option α} (h : q2 st k none = some v) : ∃ x y r, st = .inl y :: .inl x :: r ∧ k x y r = some v := by
  match st, h with
  | .inl y :: .inl x :: r, h => exact ⟨x, y, r, rfl, h⟩
theorem ql2_inv {st : List AV} {k : Int → Int → List AV → Option α} (h : ql2 st k none = some v) : ∃ x y r, st = .inr (.inl y) :: .inr (.inl x) :: r ∧ k x y r = some v := by
  match st, h with
  | .inr (.inl y) :: .inr (.inl x) :: r, h => exact ⟨x, y, r, rfl, h⟩
theorem qr_inv {st : List AV} {k : Nat → List AV → Option α} (h : qr st k none = some v) : ∃ a r, st = .inr (.inr (some a)) :: r ∧ k a r = some v := by
  match st, h with
  | .inr (.inr (some a)) :: r, h => exact ⟨a, r, rfl, h⟩
theorem qv_inv {st : List AV} {k : AV → List AV → Option α} (h : qv st k none = some v) : ∃ a r, st = a :: r ∧ k a r = some v := by
  match st, h with
  | a :: r, h => exact ⟨a, r, rfl, h⟩
theorem qe_inv {st : List AV} {k : Option α} (h : qe st k none = some v) : st = [] ∧ k = some v := by
  match st, h with
  | [], h => exact ⟨rfl, h⟩
theorem li_inv {ls : ALs} {i : Nat} {k : Int → Option α} (h : li ls i k none = some v) : ∃ x, ls[i]? = some (some (.inl x)) ∧ k x = some v := by
  unfold li at h
  split at h
  · rename_i x e; exact ⟨x, e, h⟩
  · cases h
theorem ll_inv {ls : ALs} {i : Nat} {k : Int → Option α} (h : ll ls i k none = some v) : ∃ x, ls[i]? = some (some (.inr (.inl x))) ∧ k x = some v := by
  unfold ll at h
  split at h
  · rename_i x e; exact ⟨x, e, h⟩
  · cases h
theorem lr_inv {ls : ALs} {i : Nat} {k : Nat → Option α} (h : lr ls i k none = some v) : ∃ x, ls[i]? = some (some (.inr (.inr (some x)))) ∧ k x = some v := by
  unfold lr at h
  split at h
  · rename_i x e; exact ⟨x, e, h⟩
  · cases h
theorem qb_inv {b : Bool} {k : Option α} (h : qb b k none = some v) : b = true ∧ k = some v := by
  cases b
  · cases h
  · exact ⟨rfl, h⟩
theorem qo_inv {L : Lay} {a A : Nat} {k : List (Option (Option Nat)) → Option α} (h : qo L a A k none = some v) : ∃ sl, L[a]? = some (.inr (A, sl)) ∧ k sl = some v := by
  unfold qo at h
  split at h
  · rename_i ci sl e
    cases hb : Nat.beq ci A with
    | false => rw [hb] at h; cases h
    | true => rw [hb] at h; rw [Nat.eq_of_beq_eq_true hb] at e; exact ⟨sl, e, h⟩
  · cases h
theorem qa_inv {L : Lay} {a : Nat} {k : Nat → Option α} (h : qa L a k none = some v) : ∃ n, L[a]? = some (.inl n) ∧ k n = some v := by
  unfold qa at h
  split at h
  · rename_i n e; exact ⟨n, e, h⟩
  · cases h
theorem qs_inv {sl : List (Option (Option Nat))} {B : Nat} {ki : Option α} {kr : Option Nat → Option α} (h : qs sl B ki kr none = some v) : (sl[B]? = some none ∧ ki = some v) ∨ ∃ r, sl[B]? = some (some r) ∧ kr r = some v := by
  unfold qs at h
  split at h
  · rename_i e; exact Or.inl ⟨e, h⟩
  · rename_i r e; exact Or.inr ⟨r, e, h⟩
  · cases h
theorem pp_inv {n : Nat} {st acc : List AV} {k : List AV → List AV → Option α} (h : pp n st acc k none = some v) : ∃ l r, st = l.reverse ++ r ∧ l.length = n ∧ k (l ++ acc) r = some v := by
  induction n generalizing st acc with
  | zero => cases st <;> exact ⟨[], _, rfl, rfl, h⟩
  | succ n ih =>
    cases st with
    | nil => cases h
    | cons w r =>
      obtain ⟨l, r', e1, e2, e3⟩ := ih h
      refine ⟨l ++ [w], r', by simp [e1], by simp [e2], by simpa using e3⟩
theorem sv_inv {sw : List (Int × Nat)} {k : Int → Option α} (h : sv sw k none = some v) : ∃ x t l, sw = (x, t) :: l ∧ k x = some v := by
  match sw, h with
  | (x, t) :: l, h => exact ⟨x, t, l, rfl, h⟩
theorem sk_inv {sw : List (Int × Nat)} {k : Nat → Nat → Option α} (h : sk sw k none = some v) : ∃ x y a b l, sw = (x, a) :: (y, b) :: l ∧ k a b = some v := by
  match sw, h with
  | (x, a) :: (y, b) :: l, h => exact ⟨x, y, a, b, l, rfl, h⟩
theorem s3_inv {sw : List (Int × Nat)} {k : Option α} (h : s3 sw none none k = some v) : ∃ a b l, sw = a :: b :: l ∧ k = some v := by
  match sw, h with
  | a :: b :: l, h => exact ⟨a, b, l, rfl, h⟩
theorem ck_inv {c : Prop} [d : Decidable c] {x : Option α} (h : (@ite _ c d x none) = some v) : c ∧ x = some v := by
  by_cases hc : c
  · rw [if_pos hc] at h; exact ⟨hc, h⟩
  · rw [if_neg hc] at h; cases h
end INV
def swt (w : Int) : List (Int × Nat) → Nat → Nat
  | [], d => d
  | (v, t) :: r, d => if w = v then t else swt w r d
theorem sws_eq {α : Type} (w : Int) (f : Nat → α) (d : Nat) : ∀ sw : List (Int × Nat), sws (fun c d x y => @ite _ c d x y) w sw f (f d) = f (swt w sw d)
  | [] => rfl
  | (v, t) :: r => by
    have ih := sws_eq w f d r
    show (if w = v then f t else sws (fun c d x y => @ite _ c d x y) w r f (f d)) = f (if w = v then t else swt w r d)
    by_cases h : w = v
    · rw [if_pos h, if_pos h]
    · rw [if_neg h, if_neg h, ih]
/-! the cells only grow -/
def siz (L : Lay) : Nat := (L.map (fun d => match d with
  | .inl n => n
  | .inr o => o.2.length)).sum
theorem siz_app (L : Lay) (d : Nat ⊕ (Nat × List (Option (Option Nat)))) : siz (L ++ [d]) = siz L + (match d with
  | .inl n => n
  | .inr o => o.2.length) := by
  unfold siz; simp
theorem siz_set {L : Lay} {a ci B : Nat} {sl : List (Option (Option Nat))} {q : Option (Option Nat)} (h : L[a]? = some (.inr (ci, sl))) : siz (L.set a (.inr (ci, sl.set B q))) = siz L := by
  unfold siz
  congr 1
  apply List.ext_getElem?
  intro i
  rw [List.getElem?_map, List.getElem?_map]
  by_cases hi : a = i
  · subst hi
    rw [List.getElem?_set_self (List.getElem?_eq_some_iff.mp h).1, h]
    simp
  · rw [List.getElem?_set_ne hi]
def Gr (G G' : GM) : Prop := G.1.length ≤ G'.1.length ∧ siz G.1 ≤ siz G'.1
theorem Gr.rf (G : GM) : Gr G G := ⟨Nat.le_refl _, Nat.le_refl _⟩
theorem Gr.tr {G G1 G2 : GM} (h1 : Gr G G1) (h2 : Gr G1 G2) : Gr G G2 := ⟨Nat.le_trans h1.1 h2.1, Nat.le_trans h1.2 h2.2⟩
set_option maxHeartbeats 4000000 in
set_option maxRecDepth 100000 in
theorem exec_grow : ∀ (n m pc : Nat) (ls : ALs) (st : List AV) (G : GM) (v : Option AV × GM), exec n m pc ls st G = some v → Gr G v.2
  | 0, m, pc, ls, st, G, v, h => by cases h
  | n + 1, m, pc, ls, st, G, v, h => by
    have ih := exec_grow n
    have key : ∀ (pc : Nat) (ls : ALs) (st : List AV) (G0 : GM), Gr G G0 → exec n m pc ls st G0 = some v → Gr G v.2 := fun pc ls st G0 h1 h2 => h1.tr (ih _ _ _ _ _ _ h2)
    have kcl : ∀ (z mL : Nat) (as : List AV) (pc' : Nat) (ls : ALs) (rest : List AV), (match exec n z 0 (alocs mL as) [] G with
        | none => none
        | some (rv, G') => exec n m pc' ls (rv.toList ++ rest) G') = some v → Gr G v.2 := by
      intro z mL as pc' ls rest h
      cases hz : exec n z 0 (alocs mL as) [] G with
      | none => rw [hz] at h; cases h
      | some w =>
        rw [hz] at h
        exact (ih _ _ _ _ _ _ hz).tr (ih _ _ _ _ _ _ h)
    unfold exec at h
    cases htr : tr m pc with
    | none => rw [htr] at h; cases h
    | some e =>
      rw [htr] at h
      obtain ⟨ins, len, A, B, C, sw⟩ := e
      have key0 := fun pc ls st => key pc ls st G (Gr.rf G)
      cases ins with
      | iconst n => exact key0 _ _ _ h
      | bipush n => exact key0 _ _ _ h
      | sipush n => exact key0 _ _ _ h
      | lconst n => exact key0 _ _ _ h
      | ldc n => obtain ⟨x, t, l, -, h⟩ := sv_inv h; exact key0 _ _ _ h
      | ldc_w n => obtain ⟨x, t, l, -, h⟩ := sv_inv h; exact key0 _ _ _ h
      | ldc2_w n => obtain ⟨x, t, l, -, h⟩ := sv_inv h; exact key0 _ _ _ h
      | iload i => obtain ⟨x, -, h⟩ := li_inv h; exact key0 _ _ _ h
      | iload_n i => obtain ⟨x, -, h⟩ := li_inv h; exact key0 _ _ _ h
      | lload i => obtain ⟨x, -, h⟩ := ll_inv h; exact key0 _ _ _ h
      | lload_n i => obtain ⟨x, -, h⟩ := ll_inv h; exact key0 _ _ _ h
      | aload i => obtain ⟨x, -, h⟩ := lr_inv h; exact key0 _ _ _ h
      | aload_n i => obtain ⟨x, -, h⟩ := lr_inv h; exact key0 _ _ _ h
      | istore i => obtain ⟨x, r, -, h⟩ := q1_inv h; obtain ⟨-, h⟩ := qb_inv h; exact key0 _ _ _ h
      | istore_n i => obtain ⟨x, r, -, h⟩ := q1_inv h; obtain ⟨-, h⟩ := qb_inv h; exact key0 _ _ _ h
      | astore i => obtain ⟨x, r, -, h⟩ := qr_inv h; obtain ⟨-, h⟩ := qb_inv h; exact key0 _ _ _ h
      | astore_n i => obtain ⟨x, r, -, h⟩ := qr_inv h; obtain ⟨-, h⟩ := qb_inv h; exact key0 _ _ _ h
      | iinc i n => obtain ⟨x, -, h⟩ := li_inv h; obtain ⟨-, h⟩ := qb_inv h; exact key0 _ _ _ h
      | iadd => obtain ⟨x, y, r, -, h⟩ := q2_inv h; exact key0 _ _ _ h
      | isub => obtain ⟨x, y, r, -, h⟩ := q2_inv h; exact key0 _ _ _ h
      | imul => obtain ⟨x, y, r, -, h⟩ := q2_inv h; exact key0 _ _ _ h
      | iand => obtain ⟨x, y, r, -, h⟩ := q2_inv h; exact key0 _ _ _ h
      | ior => obtain ⟨x, y, r, -, h⟩ := q2_inv h; exact key0 _ _ _ h
      | ixor => obtain ⟨x, y, r, -, h⟩ := q2_inv h; exact key0 _ _ _ h
      | ishl => obtain ⟨x, y, r, -, h⟩ := q2_inv h; exact key0 _ _ _ h
      | ishr => obtain ⟨x, y, r, -, h⟩ := q2_inv h; exact key0 _ _ _ h
      | idiv => obtain ⟨x, y, r, -, h⟩ := q2_inv h; obtain ⟨-, h⟩ := ck_inv h; exact key0 _ _ _ h
      | irem => obtain ⟨x, y, r, -, h⟩ := q2_inv h; obtain ⟨-, h⟩ := ck_inv h; exact key0 _ _ _ h
      | ineg => obtain ⟨x, r, -, h⟩ := q1_inv h; exact key0 _ _ _ h
      | i2l => obtain ⟨x, r, -, h⟩ := q1_inv h; exact key0 _ _ _ h
      | lcmp => obtain ⟨x, y, r, -, h⟩ := ql2_inv h; exact key0 _ _ _ h
      | dup => obtain ⟨x, r, -, h⟩ := qv_inv h; obtain ⟨-, h⟩ := qb_inv h; exact key0 _ _ _ h
      | pop => obtain ⟨x, r, -, h⟩ := qv_inv h; obtain ⟨-, h⟩ := qb_inv h; exact key0 _ _ _ h
      | dup2 => obtain ⟨x, r, -, h⟩ := qv_inv h; obtain ⟨y, r2, -, h⟩ := qv_inv h; obtain ⟨-, h⟩ := qb_inv h; exact key0 _ _ _ h
      | goto o => exact key0 _ _ _ h
      | if_icmp c o =>
        obtain ⟨x, y, r, -, h⟩ := q2_inv h
        cases c <;> (dsimp only at h; split at h <;> exact key0 _ _ _ h)
      | ifCond c o =>
        obtain ⟨x, r, -, h⟩ := q1_inv h
        cases c <;> (dsimp only at h; split at h <;> exact key0 _ _ _ h)
      | tableswitch a b c d =>
        obtain ⟨x, r, -, h⟩ := q1_inv h
        have h : sws (fun c d x y => @ite _ c d x y) (wr x) sw (fun t => exec n m t ls r G) (exec n m A ls r G) = some v := h
        rw [sws_eq (wr x) (fun t => exec n m t ls r G) A sw] at h
        exact key0 _ _ _ h
      | lookupswitch a b =>
        obtain ⟨x, r, -, h⟩ := q1_inv h
        have h : sws (fun c d x y => @ite _ c d x y) (wr x) sw (fun t => exec n m t ls r G) (exec n m A ls r G) = some v := h
        rw [sws_eq (wr x) (fun t => exec n m t ls r G) A sw] at h
        exact key0 _ _ _ h
      | getfield i =>
        obtain ⟨a, r, -, h⟩ := qr_inv h
        obtain ⟨sl, -, h⟩ := qo_inv h
        rcases qs_inv h with ⟨-, h⟩ | ⟨q, -, h⟩ <;> exact key0 _ _ _ h
      | putfield i =>
        obtain ⟨w, r, -, h⟩ := qv_inv h
        obtain ⟨a, t, -, h⟩ := qr_inv h
        obtain ⟨sl, ha, h⟩ := qo_inv h
        match w, h with
        | .inl x, h =>
          rcases qs_inv h with ⟨-, h⟩ | ⟨q, -, h⟩
          · match sw, h with
            | [], h => exact key _ _ _ (G.1, up G.2 a B x) (Gr.rf G) h
            | [_], h => obtain ⟨-, h⟩ := ck_inv h; exact key _ _ _ (G.1, up G.2 a B x) (Gr.rf G) h
          · cases h
        | .inr (.inr q), h =>
          obtain ⟨_, _, _, -, h⟩ := s3_inv h
          rcases qs_inv h with ⟨-, h⟩ | ⟨q2, -, h⟩
          · cases h
          · refine key _ _ _ _ ⟨by simp, ?_⟩ h
            dsimp only
            rw [siz_set ha]
            exact Nat.le_refl _
      | iaload => obtain ⟨x, r, -, h⟩ := q1_inv h; obtain ⟨a, t, -, h⟩ := qr_inv h; obtain ⟨n, -, h⟩ := qa_inv h; obtain ⟨-, h⟩ := ck_inv h; exact key0 _ _ _ h
      | iastore => obtain ⟨x, y, r, -, h⟩ := q2_inv h; obtain ⟨a, t, -, h⟩ := qr_inv h; obtain ⟨n, -, h⟩ := qa_inv h; obtain ⟨-, h⟩ := ck_inv h; exact key _ _ _ (G.1, up G.2 a (wr x).toNat y) ⟨Nat.le_refl _, Nat.le_refl _⟩ h
      | arraylength => obtain ⟨a, t, -, h⟩ := qr_inv h; obtain ⟨n, -, h⟩ := qa_inv h; exact key0 _ _ _ h
      | newarray t => obtain ⟨x, r, -, h⟩ := q1_inv h; obtain ⟨-, h⟩ := ck_inv h; refine key _ _ _ _ ⟨by simp, ?_⟩ h; dsimp only; rw [siz_app]; exact Nat.le_add_right _ _
      | new i => refine key _ _ _ _ ⟨by simp, ?_⟩ h; dsimp only; rw [siz_app]; exact Nat.le_add_right _ _
      | ireturn =>
        obtain ⟨x, r, -, h⟩ := q1_inv h
        obtain ⟨-, h⟩ := qe_inv h
        cases A with
        | zero => cases h; exact Gr.rf G
        | succ A => obtain ⟨-, h⟩ := ck_inv h; cases h; exact Gr.rf G
      | areturn => obtain ⟨x, r, -, h⟩ := qr_inv h; obtain ⟨-, h⟩ := qe_inv h; cases h; exact Gr.rf G
      | return_ => obtain ⟨-, h⟩ := qe_inv h; cases h; exact Gr.rf G
      | invokevirtual i =>
        obtain ⟨_, _, kd, k, _, -, h⟩ := sk_inv h
        obtain ⟨l, r, -, -, h⟩ := pp_inv h
        obtain ⟨-, h⟩ := qb_inv h
        obtain ⟨a, t, -, h⟩ := qr_inv h
        obtain ⟨sl, -, h⟩ := qo_inv h
        exact kcl _ _ _ _ _ _ h
      | invokestatic i =>
        obtain ⟨_, _, kd, k, _, -, h⟩ := sk_inv h
        match kd, h with
        | 1, h =>
          obtain ⟨l, r, -, -, h⟩ := pp_inv h
          obtain ⟨-, h⟩ := qb_inv h
          exact kcl _ _ _ _ _ _ h
        | 5, h => obtain ⟨x, r, -, h⟩ := q1_inv h; obtain ⟨-, h⟩ := qb_inv h; exact key0 _ _ _ h
        | 6, h => obtain ⟨x, y, r, -, h⟩ := q2_inv h; obtain ⟨-, h⟩ := qb_inv h; exact key0 _ _ _ h
        | 7, h => obtain ⟨x, y, r, -, h⟩ := q2_inv h; obtain ⟨-, h⟩ := qb_inv h; exact key0 _ _ _ h
      | invokespecial i =>
        obtain ⟨_, _, kd, k, _, -, h⟩ := sk_inv h
        match kd, h with
        | 2, h =>
          obtain ⟨l, r, -, -, h⟩ := pp_inv h
          obtain ⟨-, h⟩ := qb_inv h
          obtain ⟨a, t, -, h⟩ := qr_inv h
          exact kcl _ _ _ _ _ _ h
        | 3, h =>
          obtain ⟨l, r, -, -, h⟩ := pp_inv h
          obtain ⟨-, h⟩ := qb_inv h
          obtain ⟨a, t, -, h⟩ := qr_inv h
          exact kcl _ _ _ _ _ _ h
        | 4, h => obtain ⟨x, r, -, h⟩ := qr_inv h; obtain ⟨-, h⟩ := qb_inv h; exact key0 _ _ _ h
      | _ => cases h

/-! more locals do no harm -/
def Wk : ALs → ALs → Prop
  | [], [] => True
  | none :: l, none :: l' => Wk l l'
  | none :: l, some v :: l' => cat v = 1 ∧ Wk l l'
  | some v :: l, some w :: l' => v = w ∧ cat v = 1 ∧ Wk l l'
  | [], _ :: _ => False
  | _ :: _, [] => False
  | some _ :: _, none :: _ => False
theorem Wk_len : ∀ {l l' : ALs}, Wk l l' → l.length = l'.length
  | [], [], _ => rfl
  | none :: l, none :: l', h => congrArg (· + 1) (Wk_len (l := l) (l' := l') h)
  | none :: l, some v :: l', h => congrArg (· + 1) (Wk_len (l := l) (l' := l') h.2)
  | some v :: l, some w :: l', h => congrArg (· + 1) (Wk_len (l := l) (l' := l') h.2.2)
theorem Wk_get : ∀ {l l' : ALs} {i : Nat} {v : AV}, Wk l l' → l[i]? = some (some v) → l'[i]? = some (some v) ∧ cat v = 1
  | none :: l, none :: l', 0, v, h, e => by cases e
  | none :: l, none :: l', i + 1, v, h, e => Wk_get (l := l) (l' := l') (i := i) h e
  | none :: l, some w :: l', 0, v, h, e => by cases e
  | none :: l, some w :: l', i + 1, v, h, e => Wk_get (l := l) (l' := l') (i := i) h.2 e
  | some u :: l, some w :: l', 0, v, h, e => by
    obtain ⟨rfl, h2, -⟩ := h
    have e1 := Option.some.inj (Option.some.inj e)
    subst e1
    exact ⟨rfl, h2⟩
  | some u :: l, some w :: l', i + 1, v, h, e => Wk_get (l := l) (l' := l') (i := i) h.2.2 e
  | [], [], i, v, h, e => by cases e
theorem Wk_cat : ∀ {l l' : ALs} {i : Nat} {v : AV}, Wk l l' → l'[i]? = some (some v) → cat v = 1
  | none :: l, none :: l', 0, v, h, e => by cases e
  | none :: l, none :: l', i + 1, v, h, e => Wk_cat (l := l) (l' := l') (i := i) h e
  | none :: l, some w :: l', 0, v, h, e => by
    have e1 := Option.some.inj (Option.some.inj e)
    subst e1
    exact h.1
  | none :: l, some w :: l', i + 1, v, h, e => Wk_cat (l := l) (l' := l') (i := i) h.2 e
  | some u :: l, some w :: l', 0, v, h, e => by
    obtain ⟨rfl, h2, -⟩ := h
    have e1 := Option.some.inj (Option.some.inj e)
    subst e1
    exact h2
  | some u :: l, some w :: l', i + 1, v, h, e => Wk_cat (l := l) (l' := l') (i := i) h.2.2 e
  | [], [], i, v, h, e => by cases e
theorem Wk_set : ∀ {l l' : ALs} {i : Nat} {v : AV}, Wk l l' → cat v = 1 → Wk (l.set i (some v)) (l'.set i (some v))
  | none :: l, none :: l', 0, v, h, e => ⟨rfl, e, h⟩
  | none :: l, none :: l', i + 1, v, h, e => Wk_set (l := l) (l' := l') (i := i) h e
  | none :: l, some w :: l', 0, v, h, e => ⟨rfl, e, h.2⟩
  | none :: l, some w :: l', i + 1, v, h, e => ⟨h.1, Wk_set (l := l) (l' := l') (i := i) h.2 e⟩
  | some u :: l, some w :: l', 0, v, h, e => ⟨rfl, e, h.2.2⟩
  | some u :: l, some w :: l', i + 1, v, h, e => ⟨h.1, h.2.1, Wk_set (l := l) (l' := l') (i := i) h.2.2 e⟩
  | [], [], i, v, h, e => trivial
theorem Wk_okst {l l' : ALs} {i : Nat} (h : Wk l l') (hk : okst l i = true) : okst l' i = true := by
  have h1 := okst_lt hk
  unfold okst
  rw [Bool.and_eq_true]
  refine ⟨Nat.ble_eq_true_of_le (by rw [← Wk_len h]; exact h1), ?_⟩
  cases i with
  | zero => rfl
  | succ k =>
    dsimp only
    split
    · rename_i x e
      have := Wk_cat h e
      cases this
    · rfl
def isLoc (i : Instr) : Bool := match i with
  | .iload _ => true
  | .iload_n _ => true
  | .lload _ => true
  | .lload_n _ => true
  | .aload _ => true
  | .aload_n _ => true
  | .istore _ => true
  | .istore_n _ => true
  | .astore _ => true
  | .astore_n _ => true
  | .iinc _ _ => true
  | _ => false
set_option maxHeartbeats 4000000 in
theorem stp_const {α : Type} {e : Ent} (hloc : isLoc e.1 = false) (pc : Nat) (ls ls' : ALs) (st : List AV) (G : GM)
    (nx : Nat → ALs → List AV → GM → α) (br : (c : Prop) → Decidable c → α → α → α) (ck : (c : Prop) → Decidable c → α → α)
    (cl : Nat → Nat → List AV → Nat → ALs → List AV → GM → α) (rt : Option AV → GM → α) (fl : α) :
    stp e pc ls st G nx br ck cl rt fl = stp e pc ls' st G (fun pc _ st G => nx pc ls st G) br ck (fun z mL as pc' _ r G => cl z mL as pc' ls r G) rt fl := by
  obtain ⟨ins, len, A, B, C, sw⟩ := e
  cases ins <;> first | rfl | cases hloc
set_option maxHeartbeats 4000000 in
theorem exec_weak : ∀ (n m pc : Nat) (ls ls' : ALs) (st : List AV) (G : GM) (v : Option AV × GM), Wk ls ls' → exec n m pc ls st G = some v → exec n m pc ls' st G = some v
  | 0, m, pc, ls, ls', st, G, v, hw, h => by cases h
  | n + 1, m, pc, ls, ls', st, G, v, hw, h => by
    have ih := exec_weak n
    unfold exec at h ⊢
    cases htr : tr m pc with
    | none => rw [htr] at h; cases h
    | some e =>
      rw [htr] at h
      dsimp only at h ⊢
      cases hloc : isLoc e.1 with
      | false =>
        rw [stp_const hloc pc ls ls'] at h
        rw [stp_const hloc pc ls' ls']
        revert h
        refine stp_rel (fun (x y : Option (Option AV × GM)) => x = some v → y = some v) ?_ ?_ ?_ ?_ ?_ ?_
        · intro pc _ st G h
          exact ih _ _ _ _ _ _ _ hw h
        · intro c d x y x' y' hx hy h
          by_cases hc : c
          · simp only [hc, if_true] at h ⊢; exact hx h
          · simp only [hc, if_false] at h ⊢; exact hy h
        · intro c d x x' hx h
          by_cases hc : c
          · simp only [hc, if_true] at h ⊢; exact hx h
          · simp only [hc, if_false] at h; cases h
        · intro z mL as pc _ st G h
          cases hz : exec n z 0 (alocs mL as) [] G with
          | none => rw [hz] at h; cases h
          | some w =>
            rw [hz] at h
            exact ih _ _ _ _ _ _ _ hw h
        · intro r G h
          exact h
        · intro h
          exact h
      | true =>
        obtain ⟨ins, len, A, B, C, sw⟩ := e
        cases ins with
        | iload i => obtain ⟨x, hx, h⟩ := li_inv h; have h2 := ih _ _ _ _ _ _ _ hw h; show li ls' i _ none = _; unfold li; rw [(Wk_get hw hx).1]; exact h2
        | iload_n i => obtain ⟨x, hx, h⟩ := li_inv h; have h2 := ih _ _ _ _ _ _ _ hw h; show li ls' i _ none = _; unfold li; rw [(Wk_get hw hx).1]; exact h2
        | lload i => obtain ⟨x, hx, h⟩ := ll_inv h; exact absurd (Wk_get hw hx).2 (show ¬ (2 : Nat) = 1 by decide)
        | lload_n i => obtain ⟨x, hx, h⟩ := ll_inv h; exact absurd (Wk_get hw hx).2 (show ¬ (2 : Nat) = 1 by decide)
        | aload i => obtain ⟨x, hx, h⟩ := lr_inv h; have h2 := ih _ _ _ _ _ _ _ hw h; show lr ls' i _ none = _; unfold lr; rw [(Wk_get hw hx).1]; exact h2
        | aload_n i => obtain ⟨x, hx, h⟩ := lr_inv h; have h2 := ih _ _ _ _ _ _ _ hw h; show lr ls' i _ none = _; unfold lr; rw [(Wk_get hw hx).1]; exact h2
        | istore i =>
          obtain ⟨x, r, rfl, h⟩ := q1_inv h
          obtain ⟨hk, h⟩ := qb_inv h
          show qb (okst ls' i) _ none = _
          rw [Wk_okst hw hk]
          exact ih _ _ _ _ _ _ _ (Wk_set hw rfl) h
        | istore_n i =>
          obtain ⟨x, r, rfl, h⟩ := q1_inv h
          obtain ⟨hk, h⟩ := qb_inv h
          show qb (okst ls' i) _ none = _
          rw [Wk_okst hw hk]
          exact ih _ _ _ _ _ _ _ (Wk_set hw rfl) h
        | astore i =>
          obtain ⟨x, r, rfl, h⟩ := qr_inv h
          obtain ⟨hk, h⟩ := qb_inv h
          show qb (okst ls' i) _ none = _
          rw [Wk_okst hw hk]
          exact ih _ _ _ _ _ _ _ (Wk_set hw rfl) h
        | astore_n i =>
          obtain ⟨x, r, rfl, h⟩ := qr_inv h
          obtain ⟨hk, h⟩ := qb_inv h
          show qb (okst ls' i) _ none = _
          rw [Wk_okst hw hk]
          exact ih _ _ _ _ _ _ _ (Wk_set hw rfl) h
        | iinc i k =>
          obtain ⟨x, hx, h⟩ := li_inv h
          obtain ⟨hk, h⟩ := qb_inv h
          show li ls' i _ none = _
          unfold li
          rw [(Wk_get hw hx).1]
          show qb (okst ls' i) _ none = _
          rw [Wk_okst hw hk]
          exact ih _ _ _ _ _ _ _ (Wk_set hw rfl) h
        | _ => cases hloc
theorem TA.weak {m pc : Nat} {ls ls' : ALs} {st : List AV} {G : GM} {Post : Option AV → GM → Prop} (h : TA m pc ls st G Post) (hw : Wk ls ls') : TA m pc ls' st G Post := by
  obtain ⟨n, r, G', h1, h2⟩ := h
  exact ⟨n, r, G', exec_weak _ _ _ _ _ _ _ _ hw h1, h2⟩

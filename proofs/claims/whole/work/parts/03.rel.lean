/-! what one step does in two readings at once; then: more fuel does no harm, the triple by its step, wp is sound -/
section REL
variable {α β : Type} (R : α → β → Prop)
theorem q1_rel {st : List AV} {k : Int → List AV → α} {k' : Int → List AV → β} {fl : α} {fl' : β} (h0 : R fl fl') (h : ∀ x r, R (k x r) (k' x r)) : R (q1 st k fl) (q1 st k' fl') := by
  match st with
  | [] => exact h0
  | .inl x :: r => exact h x r
  | .inr _ :: r => exact h0
theorem q2_rel {st : List AV} {k : Int → Int → List AV → α} {k' : Int → Int → List AV → β} {fl : α} {fl' : β} (h0 : R fl fl') (h : ∀ x y r, R (k x y r) (k' x y r)) : R (q2 st k fl) (q2 st k' fl') := by
  match st with
  | [] => exact h0
  | [.inl _] => exact h0
  | .inl y :: .inl x :: r => exact h x y r
  | .inl _ :: .inr _ :: r => exact h0
  | .inr _ :: r => exact h0
theorem ql2_rel {st : List AV} {k : Int → Int → List AV → α} {k' : Int → Int → List AV → β} {fl : α} {fl' : β} (h0 : R fl fl') (h : ∀ x y r, R (k x y r) (k' x y r)) : R (ql2 st k fl) (ql2 st k' fl') := by
  match st with
  | [] => exact h0
  | [.inr (.inl _)] => exact h0
  | .inr (.inl y) :: .inr (.inl x) :: r => exact h x y r
  | .inr (.inl _) :: .inl _ :: r => exact h0
  | .inr (.inl _) :: .inr (.inr _) :: r => exact h0
  | .inl _ :: r => exact h0
  | .inr (.inr _) :: r => exact h0
theorem qr_rel {st : List AV} {k : Nat → List AV → α} {k' : Nat → List AV → β} {fl : α} {fl' : β} (h0 : R fl fl') (h : ∀ x r, R (k x r) (k' x r)) : R (qr st k fl) (qr st k' fl') := by
  match st with
  | [] => exact h0
  | .inl x :: r => exact h0
  | .inr (.inl _) :: r => exact h0
  | .inr (.inr none) :: r => exact h0
  | .inr (.inr (some a)) :: r => exact h a r
theorem qv_rel {st : List AV} {k : AV → List AV → α} {k' : AV → List AV → β} {fl : α} {fl' : β} (h0 : R fl fl') (h : ∀ x r, R (k x r) (k' x r)) : R (qv st k fl) (qv st k' fl') := by
  match st with
  | [] => exact h0
  | v :: r => exact h v r
theorem qe_rel {st : List AV} {k : α} {k' : β} {fl : α} {fl' : β} (h0 : R fl fl') (h : R k k') : R (qe st k fl) (qe st k' fl') := by
  match st with
  | [] => exact h
  | v :: r => exact h0
theorem li_rel {ls : ALs} {i : Nat} {k : Int → α} {k' : Int → β} {fl : α} {fl' : β} (h0 : R fl fl') (h : ∀ x, R (k x) (k' x)) : R (li ls i k fl) (li ls i k' fl') := by
  unfold li; generalize ls[i]? = o
  match o with
  | none => exact h0
  | some none => exact h0
  | some (some (.inl x)) => exact h x
  | some (some (.inr _)) => exact h0
theorem ll_rel {ls : ALs} {i : Nat} {k : Int → α} {k' : Int → β} {fl : α} {fl' : β} (h0 : R fl fl') (h : ∀ x, R (k x) (k' x)) : R (ll ls i k fl) (ll ls i k' fl') := by
  unfold ll; generalize ls[i]? = o
  match o with
  | none => exact h0
  | some none => exact h0
  | some (some (.inl x)) => exact h0
  | some (some (.inr (.inl x))) => exact h x
  | some (some (.inr (.inr _))) => exact h0
theorem lr_rel {ls : ALs} {i : Nat} {k : Nat → α} {k' : Nat → β} {fl : α} {fl' : β} (h0 : R fl fl') (h : ∀ x, R (k x) (k' x)) : R (lr ls i k fl) (lr ls i k' fl') := by
  unfold lr; generalize ls[i]? = o
  match o with
  | none => exact h0
  | some none => exact h0
  | some (some (.inl x)) => exact h0
  | some (some (.inr (.inl x))) => exact h0
  | some (some (.inr (.inr none))) => exact h0
  | some (some (.inr (.inr (some x)))) => exact h x
theorem qb_rel {b : Bool} {k : α} {k' : β} {fl : α} {fl' : β} (h0 : R fl fl') (h : R k k') : R (qb b k fl) (qb b k' fl') := by
  cases b
  · exact h0
  · exact h
theorem qo_rel {L : Lay} {a A : Nat} {k : List (Option (Option Nat)) → α} {k' : List (Option (Option Nat)) → β} {fl : α} {fl' : β} (h0 : R fl fl') (h : ∀ x, R (k x) (k' x)) : R (qo L a A k fl) (qo L a A k' fl') := by
  unfold qo; generalize L[a]? = o
  match o with
  | none => exact h0
  | some (.inl _) => exact h0
  | some (.inr (ci, sl)) =>
    show R (bif Nat.beq ci A then k sl else fl) (bif Nat.beq ci A then k' sl else fl')
    cases Nat.beq ci A
    · exact h0
    · exact h sl
theorem qa_rel {L : Lay} {a : Nat} {k : Nat → α} {k' : Nat → β} {fl : α} {fl' : β} (h0 : R fl fl') (h : ∀ x, R (k x) (k' x)) : R (qa L a k fl) (qa L a k' fl') := by
  unfold qa; generalize L[a]? = o
  match o with
  | none => exact h0
  | some (.inl n) => exact h n
  | some (.inr _) => exact h0
theorem qs_rel {sl : List (Option (Option Nat))} {B : Nat} {ki : α} {ki' : β} {kr : Option Nat → α} {kr' : Option Nat → β} {fl : α} {fl' : β} (h0 : R fl fl') (hi : R ki ki') (h : ∀ x, R (kr x) (kr' x)) : R (qs sl B ki kr fl) (qs sl B ki' kr' fl') := by
  unfold qs; generalize sl[B]? = o
  match o with
  | none => exact h0
  | some none => exact hi
  | some (some r) => exact h r
theorem pp_rel {n : Nat} {st acc : List AV} {k : List AV → List AV → α} {k' : List AV → List AV → β} {fl : α} {fl' : β} (h0 : R fl fl') (h : ∀ x r, R (k x r) (k' x r)) : R (pp n st acc k fl) (pp n st acc k' fl') := by
  induction n generalizing st acc with
  | zero => cases st <;> exact h _ _
  | succ n ih =>
    cases st with
    | nil => exact h0
    | cons v r => exact ih
theorem sws_rel {br : (c : Prop) → Decidable c → α → α → α} {br' : (c : Prop) → Decidable c → β → β → β} (hbr : ∀ c d x y x' y', R x x' → R y y' → R (br c d x y) (br' c d x' y')) {w : Int} {sw : List (Int × Nat)} {k : Nat → α} {k' : Nat → β} {d : α} {d' : β} (h0 : R d d') (h : ∀ x, R (k x) (k' x)) : R (sws br w sw k d) (sws br' w sw k' d') := by
  induction sw with
  | nil => exact h0
  | cons p l ih => exact hbr _ _ _ _ _ _ (h _) ih
theorem sv_rel {sw : List (Int × Nat)} {k : Int → α} {k' : Int → β} {fl : α} {fl' : β} (h0 : R fl fl') (h : ∀ x, R (k x) (k' x)) : R (sv sw k fl) (sv sw k' fl') := by
  match sw with
  | [] => exact h0
  | p :: l => exact h _
theorem sk_rel {sw : List (Int × Nat)} {k : Nat → Nat → α} {k' : Nat → Nat → β} {fl : α} {fl' : β} (h0 : R fl fl') (h : ∀ x y, R (k x y) (k' x y)) : R (sk sw k fl) (sk sw k' fl') := by
  match sw with
  | [] => exact h0
  | [_] => exact h0
  | _ :: _ :: l => exact h _ _
theorem s3_rel {sw : List (Int × Nat)} {k0 k1 k2 : α} {k0' k1' k2' : β} (h0 : R k0 k0') (h1 : R k1 k1') (h2 : R k2 k2') : R (s3 sw k0 k1 k2) (s3 sw k0' k1' k2') := by
  match sw with
  | [] => exact h0
  | [p] => exact h1
  | p :: _ :: l => exact h2
set_option maxHeartbeats 4000000 in
set_option maxRecDepth 100000 in
theorem stp_rel {e : Ent} {pc : Nat} {ls : ALs} {st : List AV} {G : GM}
    {nx : Nat → ALs → List AV → GM → α} {br : (c : Prop) → Decidable c → α → α → α} {ck : (c : Prop) → Decidable c → α → α}
    {cl : Nat → Nat → List AV → Nat → ALs → List AV → GM → α} {rt : Option AV → GM → α} {fl : α}
    {nx' : Nat → ALs → List AV → GM → β} {br' : (c : Prop) → Decidable c → β → β → β} {ck' : (c : Prop) → Decidable c → β → β}
    {cl' : Nat → Nat → List AV → Nat → ALs → List AV → GM → β} {rt' : Option AV → GM → β} {fl' : β}
    (hnx : ∀ pc ls st G, R (nx pc ls st G) (nx' pc ls st G)) (hbr : ∀ c d x y x' y', R x x' → R y y' → R (br c d x y) (br' c d x' y')) (hck : ∀ c d x x', R x x' → R (ck c d x) (ck' c d x'))
    (hcl : ∀ z mL as pc ls st G, R (cl z mL as pc ls st G) (cl' z mL as pc ls st G)) (hrt : ∀ v G, R (rt v G) (rt' v G)) (hfl : R fl fl') :
    R (stp e pc ls st G nx br ck cl rt fl) (stp e pc ls st G nx' br' ck' cl' rt' fl') := by
  obtain ⟨ins, len, A, B, C, sw⟩ := e
  cases ins with
  | iconst n => exact hnx _ _ _ _
  | bipush n => exact hnx _ _ _ _
  | sipush n => exact hnx _ _ _ _
  | lconst n => exact hnx _ _ _ _
  | ldc n => exact sv_rel R hfl fun _ => hnx _ _ _ _
  | ldc_w n => exact sv_rel R hfl fun _ => hnx _ _ _ _
  | ldc2_w n => exact sv_rel R hfl fun _ => hnx _ _ _ _
  | iload i => exact li_rel R hfl fun _ => hnx _ _ _ _
  | iload_n i => exact li_rel R hfl fun _ => hnx _ _ _ _
  | lload i => exact ll_rel R hfl fun _ => hnx _ _ _ _
  | lload_n i => exact ll_rel R hfl fun _ => hnx _ _ _ _
  | aload i => exact lr_rel R hfl fun _ => hnx _ _ _ _
  | aload_n i => exact lr_rel R hfl fun _ => hnx _ _ _ _
  | istore i => exact q1_rel R hfl fun _ _ => qb_rel R hfl (hnx _ _ _ _)
  | istore_n i => exact q1_rel R hfl fun _ _ => qb_rel R hfl (hnx _ _ _ _)
  | astore i => exact qr_rel R hfl fun _ _ => qb_rel R hfl (hnx _ _ _ _)
  | astore_n i => exact qr_rel R hfl fun _ _ => qb_rel R hfl (hnx _ _ _ _)
  | iinc i n => exact li_rel R hfl fun _ => qb_rel R hfl (hnx _ _ _ _)
  | iadd => exact q2_rel R hfl fun _ _ _ => hnx _ _ _ _
  | isub => exact q2_rel R hfl fun _ _ _ => hnx _ _ _ _
  | imul => exact q2_rel R hfl fun _ _ _ => hnx _ _ _ _
  | iand => exact q2_rel R hfl fun _ _ _ => hnx _ _ _ _
  | ior => exact q2_rel R hfl fun _ _ _ => hnx _ _ _ _
  | ixor => exact q2_rel R hfl fun _ _ _ => hnx _ _ _ _
  | ishl => exact q2_rel R hfl fun _ _ _ => hnx _ _ _ _
  | ishr => exact q2_rel R hfl fun _ _ _ => hnx _ _ _ _
  | idiv => exact q2_rel R hfl fun _ _ _ => hck _ _ _ _ (hnx _ _ _ _)
  | irem => exact q2_rel R hfl fun _ _ _ => hck _ _ _ _ (hnx _ _ _ _)
  | ineg => exact q1_rel R hfl fun _ _ => hnx _ _ _ _
  | i2l => exact q1_rel R hfl fun _ _ => hnx _ _ _ _
  | lcmp => exact ql2_rel R hfl fun _ _ _ => hnx _ _ _ _
  | dup => exact qv_rel R hfl fun _ _ => qb_rel R hfl (hnx _ _ _ _)
  | pop => exact qv_rel R hfl fun _ _ => qb_rel R hfl (hnx _ _ _ _)
  | dup2 => exact qv_rel R hfl fun _ _ => qv_rel R hfl fun _ _ => qb_rel R hfl (hnx _ _ _ _)
  | goto o => exact hnx _ _ _ _
  | if_icmp c o => exact q2_rel R hfl fun _ _ _ => by cases c <;> exact hbr _ _ _ _ _ _ (hnx _ _ _ _) (hnx _ _ _ _)
  | ifCond c o => exact q1_rel R hfl fun _ _ => by cases c <;> exact hbr _ _ _ _ _ _ (hnx _ _ _ _) (hnx _ _ _ _)
  | tableswitch a b c d => exact q1_rel R hfl fun _ _ => sws_rel R hbr (hnx _ _ _ _) fun _ => hnx _ _ _ _
  | lookupswitch a b => exact q1_rel R hfl fun _ _ => sws_rel R hbr (hnx _ _ _ _) fun _ => hnx _ _ _ _
  | getfield i => exact qr_rel R hfl fun _ _ => qo_rel R hfl fun _ => qs_rel R hfl (hnx _ _ _ _) fun _ => hnx _ _ _ _
  | putfield i =>
    exact qv_rel R hfl fun v _ => qr_rel R hfl fun _ _ => qo_rel R hfl fun _ => by
      match v with
      | .inl x => exact qs_rel R hfl (s3_rel R (hnx _ _ _ _) (hck _ _ _ _ (hnx _ _ _ _)) hfl) fun _ => hfl
      | .inr (.inl x) => exact hfl
      | .inr (.inr x) => exact s3_rel R hfl hfl (qs_rel R hfl hfl fun _ => hnx _ _ _ _)
  | iaload => exact q1_rel R hfl fun _ _ => qr_rel R hfl fun _ _ => qa_rel R hfl fun _ => hck _ _ _ _ (hnx _ _ _ _)
  | iastore => exact q2_rel R hfl fun _ _ _ => qr_rel R hfl fun _ _ => qa_rel R hfl fun _ => hck _ _ _ _ (hnx _ _ _ _)
  | arraylength => exact qr_rel R hfl fun _ _ => qa_rel R hfl fun _ => hnx _ _ _ _
  | newarray t => exact q1_rel R hfl fun _ _ => hck _ _ _ _ (hnx _ _ _ _)
  | new i => exact hnx _ _ _ _
  | ireturn => exact q1_rel R hfl fun _ _ => qe_rel R hfl (by cases A; exact hrt _ _; exact hck _ _ _ _ (hrt _ _))
  | areturn => exact qr_rel R hfl fun _ _ => qe_rel R hfl (hrt _ _)
  | return_ => exact qe_rel R hfl (hrt _ _)
  | invokevirtual i => exact sk_rel R hfl fun _ _ => pp_rel R hfl fun _ _ => qb_rel R hfl (qr_rel R hfl fun _ _ => qo_rel R hfl fun _ => hcl _ _ _ _ _ _ _)
  | invokestatic i =>
    refine sk_rel R hfl fun kd n => ?_
    match kd with
    | 0 => exact hfl
    | 1 => exact pp_rel R hfl fun _ _ => qb_rel R hfl (hcl _ _ _ _ _ _ _)
    | 2 => exact hfl
    | 3 => exact hfl
    | 4 => exact hfl
    | 5 => exact q1_rel R hfl fun _ _ => qb_rel R hfl (hnx _ _ _ _)
    | 6 => exact q2_rel R hfl fun _ _ _ => qb_rel R hfl (hnx _ _ _ _)
    | 7 => exact q2_rel R hfl fun _ _ _ => qb_rel R hfl (hnx _ _ _ _)
    | _ + 8 => exact hfl
  | invokespecial i =>
    refine sk_rel R hfl fun kd n => ?_
    match kd with
    | 0 => exact hfl
    | 1 => exact hfl
    | 2 => exact pp_rel R hfl fun _ _ => qb_rel R hfl (qr_rel R hfl fun _ _ => hcl _ _ _ _ _ _ _)
    | 3 => exact pp_rel R hfl fun _ _ => qb_rel R hfl (qr_rel R hfl fun _ _ => hcl _ _ _ _ _ _ _)
    | 4 => exact qr_rel R hfl fun _ _ => qb_rel R hfl (hnx _ _ _ _)
    | _ + 5 => exact hfl
  | _ => exact hfl
end REL
theorem exec_more : ∀ (n m pc : Nat) (ls : ALs) (st : List AV) (G : GM) (v : Option AV × GM), exec n m pc ls st G = some v → exec (n + 1) m pc ls st G = some v
  | 0, m, pc, ls, st, G, v, h => by cases h
  | n + 1, m, pc, ls, st, G, v, h => by
    have ih := exec_more n
    unfold exec at h ⊢
    cases htr : tr m pc with
    | none => rw [htr] at h; cases h
    | some e =>
      rw [htr] at h
      revert h
      refine stp_rel (fun (x y : Option (Option AV × GM)) => x = some v → y = some v) ?_ ?_ ?_ ?_ ?_ ?_
      · intro pc ls st G h
        exact ih _ _ _ _ _ _ h
      · intro c d x y x' y' hx hy h
        by_cases hc : c
        · simp only [hc, if_true] at h ⊢; exact hx h
        · simp only [hc, if_false] at h ⊢; exact hy h
      · intro c d x x' hx h
        by_cases hc : c
        · simp only [hc, if_true] at h ⊢; exact hx h
        · simp only [hc, if_false] at h; cases h
      · intro z mL as pc ls st G h
        cases hz : exec n z 0 (alocs mL as) [] G with
        | none => rw [hz] at h; cases h
        | some w =>
          rw [hz] at h
          rw [ih _ _ _ _ _ _ hz]
          exact ih _ _ _ _ _ _ h
      · intro r G h
        exact h
      · intro h
        exact h
theorem exec_le {n k : Nat} (hk : n ≤ k) {m pc : Nat} {ls : ALs} {st : List AV} {G : GM} {v : Option AV × GM} (h : exec n m pc ls st G = some v) : exec k m pc ls st G = some v := by
  induction k with
  | zero =>
    rw [Nat.le_zero.mp hk] at h
    exact h
  | succ k ih =>
    rcases Nat.lt_or_ge n (k + 1) with h1 | h1
    · exact exec_more _ _ _ _ _ _ _ (ih (by omega))
    · rw [show k + 1 = n by omega]; exact h
theorem TA.mono {m pc : Nat} {ls : ALs} {st : List AV} {G : GM} {P Q : Option AV → GM → Prop} (h : TA m pc ls st G P) (hpq : ∀ r G', P r G' → Q r G') : TA m pc ls st G Q := by
  obtain ⟨n, r, G', h1, h2⟩ := h
  exact ⟨n, r, G', h1, hpq _ _ h2⟩
/-- the triple, one step on -/
theorem TA.step {m pc : Nat} {ls : ALs} {st : List AV} {G : GM} {Post : Option AV → GM → Prop} {e : Ent} (he : tr m pc = some e)
    (h : stp e pc ls st G (fun pc ls st G => TA m pc ls st G Post) (fun c _ x y => (c → x) ∧ (¬ c → y)) (fun c _ x => c ∧ x) (fun z mL as pc' ls rest G => TC z mL as G (fun rv G' => TA m pc' ls (rv.toList ++ rest) G' Post)) Post False) : TA m pc ls st G Post := by
  have key : ∃ N, ∀ n, N ≤ n → ∃ v, stp e pc ls st G (fun pc ls st G => exec n m pc ls st G) (fun c d x y => @ite _ c d x y) (fun c d x => @ite _ c d x none)
      (fun z mL as pc' ls rest G => match exec n z 0 (alocs mL as) [] G with
        | none => none
        | some (rv, G') => exec n m pc' ls (rv.toList ++ rest) G') (fun r G => some (r, G)) none = some v ∧ Post v.1 v.2 := by
    revert h
    have e2 : ∀ n, stp e pc ls st G (fun pc ls st G => exec n m pc ls st G) (fun c d x y => @ite _ c d x y) (fun c d x => @ite _ c d x none)
      (fun z mL as pc' ls rest G => match exec n z 0 (alocs mL as) [] G with
        | none => none
        | some (rv, G') => exec n m pc' ls (rv.toList ++ rest) G') (fun r G => some (r, G)) none =
       (stp e pc ls st G (α := Nat → Option (Option AV × GM)) (fun pc ls st G n => exec n m pc ls st G) (fun c d x y n => @ite _ c d (x n) (y n)) (fun c d x n => @ite _ c d (x n) none)
      (fun z mL as pc' ls rest G n => match exec n z 0 (alocs mL as) [] G with
        | none => none
        | some (rv, G') => exec n m pc' ls (rv.toList ++ rest) G') (fun r G _ => some (r, G)) (fun _ => none)) n := by
      intro n
      refine stp_rel (fun (x : Option (Option AV × GM)) (y : Nat → Option (Option AV × GM)) => x = y n) ?_ ?_ ?_ ?_ ?_ ?_
      · intros; rfl
      · intro c d x y x' y' hx hy; rw [hx, hy]
      · intro c d x x' hx; rw [hx]
      · intros; rfl
      · intros; rfl
      · rfl
    simp only [e2]
    refine stp_rel (fun (x : Prop) (y : Nat → Option (Option AV × GM)) => x → ∃ N, ∀ n, N ≤ n → ∃ v, y n = some v ∧ Post v.1 v.2) ?_ ?_ ?_ ?_ ?_ ?_
    · intro pc ls st G ⟨N, r, G', h1, h2⟩
      exact ⟨N, fun n hn => ⟨(r, G'), exec_le hn h1, h2⟩⟩
    · intro c d x y x' y' hx hy ⟨h1, h2⟩
      by_cases hc : c
      · simp only [hc, if_true]; exact hx (h1 hc)
      · simp only [hc, if_false]; exact hy (h2 hc)
    · intro c d x x' hx ⟨h1, h2⟩
      simp only [h1, if_true]; exact hx h2
    · intro z mL as pc' ls rest G ⟨N, r, G', h1, N2, r2, G2, h3, h4⟩
      refine ⟨N + N2, fun n hn => ⟨(r2, G2), ?_, h4⟩⟩
      show (match exec n z 0 (alocs mL as) [] G with
        | none => none
        | some (rv, G') => exec n m pc' ls (rv.toList ++ rest) G') = _
      rw [exec_le (by omega) h1]
      exact exec_le (by omega) h3
    · intro r G h
      exact ⟨0, fun n _ => ⟨(r, G), rfl, h⟩⟩
    · intro h
      exact h.elim
  obtain ⟨N, hN⟩ := key
  obtain ⟨v, h1, h2⟩ := hN N (Nat.le_refl _)
  refine ⟨N + 1, v.1, v.2, ?_, h2⟩
  unfold exec
  rw [he]
  exact h1
theorem wp_sound (S : Nat → Bool) (m : Nat) (Post : Option AV → GM → Prop) : ∀ (n pc : Nat) (ls : ALs) (st : List AV) (G : GM), wp S m Post n pc ls st G → TA m pc ls st G Post
  | 0, pc, ls, st, G, h => h
  | n + 1, pc, ls, st, G, h => by
    have ih := wp_sound S m Post n
    unfold wp at h
    cases htr : tr m pc with
    | none => rw [htr] at h; exact h.elim
    | some e =>
      rw [htr] at h
      refine TA.step htr ?_
      revert h
      refine stp_rel (fun (x y : Prop) => x → y) ?_ ?_ ?_ ?_ ?_ ?_
      · intro pc ls st G h
        cases hS : S pc with
        | true => rw [hS] at h; exact h
        | false => rw [hS] at h; exact ih _ _ _ _ h
      · intro c d x y x' y' hx hy ⟨h1, h2⟩
        exact ⟨fun hc => hx (h1 hc), fun hc => hy (h2 hc)⟩
      · intro c d x x' hx ⟨h1, h2⟩
        exact ⟨h1, hx h2⟩
      · intro z mL as pc' ls rest G h
        refine TA.mono h fun rv G' h => ?_
        cases hS : S pc' with
        | true => rw [hS] at h; exact h
        | false => rw [hS] at h; exact ih _ _ _ _ h
      · intro v G h
        exact h
      · intro h
        exact h

def chgL (z : Nat) : Bool := Nat.beq z i10_carryAll || Nat.beq z i10_keepTurn
/-! the weakest precondition for methods that keep the layout; calls by triples of three kinds -/
/-- what a method answers: nothing (0), a number (1), a cell (2), nothing but it may change the layout (3) -/
def rk (z : Nat) : Nat := bif chgL z then 3 else match (md z).2.2.2.1 with
  | none => 0
  | some .int => 1
  | some .boolean => 1
  | _ => 2
def TV (z mL : Nat) (as : List AV) (G : GM) (K : Mem → Prop) : Prop := TC z mL as G (fun rv G' => rv = none ∧ ∃ M', G' = (G.1, M') ∧ K M')
def TI (z mL : Nat) (as : List AV) (G : GM) (K : Int → Mem → Prop) : Prop := TC z mL as G (fun rv G' => ∃ r M', rv = some (vi r) ∧ G' = (G.1, M') ∧ K r M')
def TR (z mL : Nat) (as : List AV) (G : GM) (K : Nat → Mem → Prop) : Prop := TC z mL as G (fun rv G' => ∃ r M', rv = some (vr r) ∧ G' = (G.1, M') ∧ K r M')
def TL (z mL : Nat) (as : List AV) (G : GM) (K : GM → Prop) : Prop := TC z mL as G (fun rv G' => rv = none ∧ K G')
theorem TV.mono {z mL : Nat} {as : List AV} {G : GM} {P Q : Mem → Prop} (h : TV z mL as G P) (hpq : ∀ M, P M → Q M) : TV z mL as G Q := TA.mono h fun _ _ ⟨h1, M', h2, h3⟩ => ⟨h1, M', h2, hpq _ h3⟩
theorem TI.mono {z mL : Nat} {as : List AV} {G : GM} {P Q : Int → Mem → Prop} (h : TI z mL as G P) (hpq : ∀ r M, P r M → Q r M) : TI z mL as G Q := TA.mono h fun _ _ ⟨r, M', h1, h2, h3⟩ => ⟨r, M', h1, h2, hpq _ _ h3⟩
theorem TR.mono {z mL : Nat} {as : List AV} {G : GM} {P Q : Nat → Mem → Prop} (h : TR z mL as G P) (hpq : ∀ r M, P r M → Q r M) : TR z mL as G Q := TA.mono h fun _ _ ⟨r, M', h1, h2, h3⟩ => ⟨r, M', h1, h2, hpq _ _ h3⟩
theorem TL.mono {z mL : Nat} {as : List AV} {G : GM} {P Q : GM → Prop} (h : TL z mL as G P) (hpq : ∀ G', P G' → Q G') : TL z mL as G Q := TA.mono h fun _ _ ⟨h1, h2⟩ => ⟨h1, hpq _ h2⟩
def wp2 (S : Nat → Bool) (m : Nat) (Post : Option AV → GM → Prop) : Nat → Nat → ALs → List AV → GM → Prop
  | 0, pc, ls, st, G => TA m pc ls st G Post
  | n + 1, pc, ls, st, G => match tr m pc with
    | none => False
    | some e => stp e pc ls st G (fun pc ls st G => bif S pc then TA m pc ls st G Post else wp2 S m Post n pc ls st G) (fun c _ x y => (c → x) ∧ (¬ c → y)) (fun c _ x => c ∧ x)
      (fun z mL as pc' ls rest G => match rk z with
        | 0 => TV z mL as G (fun M' => bif S pc' then TA m pc' ls rest (G.1, M') Post else wp2 S m Post n pc' ls rest (G.1, M'))
        | 1 => TI z mL as G (fun r M' => bif S pc' then TA m pc' ls (vi r :: rest) (G.1, M') Post else wp2 S m Post n pc' ls (vi r :: rest) (G.1, M'))
        | 2 => TR z mL as G (fun r M' => bif S pc' then TA m pc' ls (vr r :: rest) (G.1, M') Post else wp2 S m Post n pc' ls (vr r :: rest) (G.1, M'))
        | _ => TL z mL as G (fun G' => bif S pc' then TA m pc' ls rest G' Post else wp2 S m Post n pc' ls rest G')) Post False
theorem bif_or {b : Bool} {P Q : Prop} (h : bif b then P else Q) (hq : Q → P) : P := by
  cases b
  · exact hq h
  · exact h
theorem wp2_sound (S : Nat → Bool) (m : Nat) (Post : Option AV → GM → Prop) : ∀ (n pc : Nat) (ls : ALs) (st : List AV) (G : GM), wp2 S m Post n pc ls st G → TA m pc ls st G Post
  | 0, pc, ls, st, G, h => h
  | n + 1, pc, ls, st, G, h => by
    have ih := wp2_sound S m Post n
    unfold wp2 at h
    cases htr : tr m pc with
    | none => rw [htr] at h; exact h.elim
    | some e =>
      rw [htr] at h
      refine TA.step htr ?_
      revert h
      refine stp_rel (fun (x y : Prop) => x → y) ?_ ?_ ?_ ?_ ?_ ?_
      · intro pc ls st G h
        exact bif_or h (ih _ _ _ _)
      · intro c d x y x' y' hx hy ⟨h1, h2⟩
        exact ⟨fun hc => hx (h1 hc), fun hc => hy (h2 hc)⟩
      · intro c d x x' hx ⟨h1, h2⟩
        exact ⟨h1, hx h2⟩
      · intro z mL as pc' ls rest G h
        revert h
        split
        · intro h
          exact TA.mono h fun rv G' ⟨h1, M', h2, h3⟩ => by subst h1; subst h2; exact bif_or h3 (ih _ _ _ _)
        · intro h
          exact TA.mono h fun rv G' ⟨r, M', h1, h2, h3⟩ => by subst h1; subst h2; exact bif_or h3 (ih _ _ _ _)
        · intro h
          exact TA.mono h fun rv G' ⟨r, M', h1, h2, h3⟩ => by subst h1; subst h2; exact bif_or h3 (ih _ _ _ _)
        · intro h
          exact TA.mono h fun rv G' ⟨h1, h3⟩ => by subst h1; exact bif_or h3 (ih _ _ _ _)
      · intro v G h
        exact h
      · intro h
        exact h
/-- ends of a method -/
def PV (L : Lay) (K : Mem → Prop) : Option AV → GM → Prop := fun rv G' => rv = none ∧ ∃ M', G' = (L, M') ∧ K M'
def PI (L : Lay) (K : Int → Mem → Prop) : Option AV → GM → Prop := fun rv G' => ∃ r M', rv = some (vi r) ∧ G' = (L, M') ∧ K r M'
def PR (L : Lay) (K : Nat → Mem → Prop) : Option AV → GM → Prop := fun rv G' => ∃ r M', rv = some (vr r) ∧ G' = (L, M') ∧ K r M'
theorem PV.i {L : Lay} {K : Mem → Prop} {M : Mem} (h : K M) : PV L K none (L, M) := ⟨rfl, M, rfl, h⟩
theorem PI.i {L : Lay} {K : Int → Mem → Prop} {r : Int} {M : Mem} (h : K r M) : PI L K (some (vi r)) (L, M) := ⟨r, M, rfl, rfl, h⟩
theorem PR.i {L : Lay} {K : Nat → Mem → Prop} {r : Nat} {M : Mem} (h : K r M) : PR L K (some (vr r)) (L, M) := ⟨r, M, rfl, rfl, h⟩
/-! reading and writing by an index that is looked at -/
def rd (M : Mem) (a n : Nat) (i : Int) : Int := if 0 ≤ wr i ∧ wr i < (n : Int) then M a (wr i).toNat else 0
def wt (M : Mem) (a n : Nat) (i v : Int) : Mem := if 0 ≤ wr i ∧ wr i < (n : Int) then up M a (wr i).toNat v else M
theorem wr_id {x : Int} (h1 : -2147483648 ≤ x) (h2 : x < 2147483648) : wr x = x := Int32.toInt_ofInt_of_le h1 h2
theorem wr_wr (x : Int) : wr (wr x) = wr x := by unfold wr; rw [Int32.ofInt_toInt]
theorem wr_lo (x : Int) : -2147483648 ≤ wr x := Int32.le_toInt _
theorem wr_hi (x : Int) : wr x < 2147483648 := Int32.toInt_lt _
theorem rd_in {M : Mem} {a n : Nat} {i : Int} (h1 : 0 ≤ i) (h2 : i < (n : Int)) (h3 : (n : Int) < 2147483648) : rd M a n i = M a i.toNat := by
  unfold rd
  rw [wr_id (by omega) (by omega), if_pos ⟨h1, h2⟩]
theorem wt_in {M : Mem} {a n : Nat} {i v : Int} (h1 : 0 ≤ i) (h2 : i < (n : Int)) (h3 : (n : Int) < 2147483648) : wt M a n i v = up M a i.toNat v := by
  unfold wt
  rw [wr_id (by omega) (by omega), if_pos ⟨h1, h2⟩]

/-! A SMALL MACHINE OVER WHOLE NUMBERS: values, memory, one step, a run by fuel, a triple, a weakest precondition that computes -/
/-- a value: an int, a long, a reference (by the number of its cell) -/
abbrev AV : Type := Int ⊕ (Int ⊕ Option Nat)
abbrev vi (x : Int) : AV := Sum.inl x
abbrev vr (r : Nat) : AV := Sum.inr (Sum.inr (some r))
/-- cells: an int array and its length, or an object: its class, its slots (a whole number, or a reference) -/
abbrev Lay : Type := List (Nat ⊕ (Nat × List (Option (Option Nat))))
abbrev Mem : Type := Nat → Nat → Int
abbrev GM : Type := Lay × Mem
abbrev ALs : Type := List (Option AV)
def wr (x : Int) : Int := (Int32.ofInt x).toInt
def wl (x : Int) : Int := (Int64.ofInt x).toInt
def up (M : Mem) (i k : Nat) (v : Int) : Mem := fun a b => if a = i ∧ b = k then v else M a b
def clr (M : Mem) (i : Nat) : Mem := fun a b => if a = i then 0 else M a b
def mx (x y : Int) : Int := if wr x < wr y then y else x
def mn (x y : Int) : Int := if wr y < wr x then y else x
def ab (x : Int) : Int := if 0 ≤ wr x then x else -x
def dv (x y : Int) : Int := (wr x).tdiv (wr y)
def rmd (x y : Int) : Int := (wr x).tmod (wr y)
def iand (x y : Int) : Int := (Int32.ofInt x &&& Int32.ofInt y).toInt
def ior_ (x y : Int) : Int := (Int32.ofInt x ||| Int32.ofInt y).toInt
def ixor_ (x y : Int) : Int := (Int32.ofInt x ^^^ Int32.ofInt y).toInt
def shl (x y : Int) : Int := (Int32.ofInt x <<< (Int32.ofInt y &&& 31)).toInt
def shr (x y : Int) : Int := (Int32.ofInt x >>> (Int32.ofInt y &&& 31)).toInt
def cmpl (x y : Int) : Int := if wl y < wl x then 1 else if wl x = wl y then 0 else -1
def cat (v : AV) : Nat := match v with
  | .inr (.inl _) => 2
  | _ => 1
def cats (st : List AV) : Nat := match st with
  | [] => 0
  | v :: r => cat v + cats r
/-- the locals with which a method begins -/
def alocs : Nat → List AV → ALs
  | n, [] => List.replicate n none
  | n, .inr (.inl x) :: r => some (.inr (.inl x)) :: none :: alocs (n - 2) r
  | n, v :: r => some v :: alocs (n - 1) r
/-- may a value be stored at i: no long stands ahead of it -/
def okst (ls : ALs) (i : Nat) : Bool := Nat.blt i ls.length && (match i with
  | 0 => true
  | k + 1 => match ls[k]? with
    | some (some (.inr (.inl _))) => false
    | _ => true)
section Q
variable {α : Type}
def q1 (st : List AV) (k : Int → List AV → α) (fl : α) : α := match st with
  | .inl x :: r => k x r
  | _ => fl
def q2 (st : List AV) (k : Int → Int → List AV → α) (fl : α) : α := match st with
  | .inl y :: .inl x :: r => k x y r
  | _ => fl
def ql2 (st : List AV) (k : Int → Int → List AV → α) (fl : α) : α := match st with
  | .inr (.inl y) :: .inr (.inl x) :: r => k x y r
  | _ => fl
def qr (st : List AV) (k : Nat → List AV → α) (fl : α) : α := match st with
  | .inr (.inr (some a)) :: r => k a r
  | _ => fl
def qR (st : List AV) (k : Option Nat → List AV → α) (fl : α) : α := match st with
  | .inr (.inr a) :: r => k a r
  | _ => fl
def qv (st : List AV) (k : AV → List AV → α) (fl : α) : α := match st with
  | v :: r => k v r
  | _ => fl
def qe (st : List AV) (k : α) (fl : α) : α := match st with
  | [] => k
  | _ => fl
def li (ls : ALs) (i : Nat) (k : Int → α) (fl : α) : α := match ls[i]? with
  | some (some (.inl x)) => k x
  | _ => fl
def ll (ls : ALs) (i : Nat) (k : Int → α) (fl : α) : α := match ls[i]? with
  | some (some (.inr (.inl x))) => k x
  | _ => fl
def lr (ls : ALs) (i : Nat) (k : Nat → α) (fl : α) : α := match ls[i]? with
  | some (some (.inr (.inr (some x)))) => k x
  | _ => fl
/-- an object of the class A -/
def qo (L : Lay) (a A : Nat) (k : List (Option (Option Nat)) → α) (fl : α) : α := match L[a]? with
  | some (.inr (ci, sl)) => bif Nat.beq ci A then k sl else fl
  | _ => fl
def qa (L : Lay) (a : Nat) (k : Nat → α) (fl : α) : α := match L[a]? with
  | some (.inl n) => k n
  | _ => fl
def qs (sl : List (Option (Option Nat))) (B : Nat) (ki : α) (kr : Option Nat → α) (fl : α) : α := match sl[B]? with
  | some none => ki
  | some (some r) => kr r
  | none => fl
def qb (b : Bool) (k fl : α) : α := bif b then k else fl
def pp : Nat → List AV → List AV → (List AV → List AV → α) → α → α
  | 0, st, acc, k, _ => k acc st
  | n + 1, v :: r, acc, k, fl => pp n r (v :: acc) k fl
  | _ + 1, [], _, _, fl => fl
def sws (br : (c : Prop) → Decidable c → α → α → α) (w : Int) : List (Int × Nat) → (Nat → α) → α → α
  | [], _, d => d
  | (v, t) :: r, k, d => br (w = v) (inferInstance) (k t) (sws br w r k d)
/-- what stands behind: a value -/
def sv (sw : List (Int × Nat)) (k : Int → α) (fl : α) : α := match sw with
  | (v, _) :: _ => k v
  | _ => fl
def sk (sw : List (Int × Nat)) (k : Nat → Nat → α) (fl : α) : α := match sw with
  | (_, kd) :: (_, n) :: _ => k kd n
  | _ => fl
def s3 (sw : List (Int × Nat)) (k0 k1 k2 : α) : α := match sw with
  | [] => k0
  | [_] => k1
  | _ => k2
end Q
/-- one instruction -/
def stp {α : Type} (e : Ent) (pc : Nat) (ls : ALs) (st : List AV) (G : GM)
    (nx : Nat → ALs → List AV → GM → α) (br : (c : Prop) → Decidable c → α → α → α) (ck : (c : Prop) → Decidable c → α → α)
    (cl : Nat → Nat → List AV → Nat → ALs → List AV → GM → α) (rt : Option AV → GM → α) (fl : α) : α :=
  match e with
  | (ins, _, A, B, _, sw) =>
  match ins with
  | .iconst n => nx (pc + 1) ls (.inl n :: st) G
  | .bipush n => nx (pc + 2) ls (.inl n :: st) G
  | .sipush n => nx (pc + 3) ls (.inl n :: st) G
  | .ldc _ => sv sw (fun v => nx (pc + 2) ls (.inl v :: st) G) fl
  | .ldc_w _ => sv sw (fun v => nx (pc + 3) ls (.inl v :: st) G) fl
  | .ldc2_w _ => sv sw (fun v => nx (pc + 3) ls (.inr (.inl v) :: st) G) fl
  | .lconst n => nx (pc + 1) ls (.inr (.inl ((n : Nat) : Int)) :: st) G
  | .iload i => li ls i (fun x => nx (pc + 2) ls (.inl x :: st) G) fl
  | .iload_n i => li ls i (fun x => nx (pc + 1) ls (.inl x :: st) G) fl
  | .lload i => ll ls i (fun x => nx (pc + 2) ls (.inr (.inl x) :: st) G) fl
  | .lload_n i => ll ls i (fun x => nx (pc + 1) ls (.inr (.inl x) :: st) G) fl
  | .aload i => lr ls i (fun x => nx (pc + 2) ls (vr x :: st) G) fl
  | .aload_n i => lr ls i (fun x => nx (pc + 1) ls (vr x :: st) G) fl
  | .istore i => q1 st (fun x r => qb (okst ls i) (nx (pc + 2) (ls.set i (some (.inl x))) r G) fl) fl
  | .istore_n i => q1 st (fun x r => qb (okst ls i) (nx (pc + 1) (ls.set i (some (.inl x))) r G) fl) fl
  | .astore i => qr st (fun x r => qb (okst ls i) (nx (pc + 2) (ls.set i (some (vr x))) r G) fl) fl
  | .astore_n i => qr st (fun x r => qb (okst ls i) (nx (pc + 1) (ls.set i (some (vr x))) r G) fl) fl
  | .iinc i n => li ls i (fun x => qb (okst ls i) (nx (pc + 3) (ls.set i (some (.inl (x + n)))) st G) fl) fl
  | .iadd => q2 st (fun x y r => nx (pc + 1) ls (.inl (x + y) :: r) G) fl
  | .isub => q2 st (fun x y r => nx (pc + 1) ls (.inl (x - y) :: r) G) fl
  | .imul => q2 st (fun x y r => nx (pc + 1) ls (.inl (x * y) :: r) G) fl
  | .iand => q2 st (fun x y r => nx (pc + 1) ls (.inl (iand x y) :: r) G) fl
  | .ior => q2 st (fun x y r => nx (pc + 1) ls (.inl (ior_ x y) :: r) G) fl
  | .ixor => q2 st (fun x y r => nx (pc + 1) ls (.inl (ixor_ x y) :: r) G) fl
  | .ishl => q2 st (fun x y r => nx (pc + 1) ls (.inl (shl x y) :: r) G) fl
  | .ishr => q2 st (fun x y r => nx (pc + 1) ls (.inl (shr x y) :: r) G) fl
  | .idiv => q2 st (fun x y r => ck (wr y ≠ 0) (inferInstance) (nx (pc + 1) ls (.inl (dv x y) :: r) G)) fl
  | .irem => q2 st (fun x y r => ck (wr y ≠ 0) (inferInstance) (nx (pc + 1) ls (.inl (rmd x y) :: r) G)) fl
  | .ineg => q1 st (fun x r => nx (pc + 1) ls (.inl (-x) :: r) G) fl
  | .i2l => q1 st (fun x r => nx (pc + 1) ls (.inr (.inl (wr x)) :: r) G) fl
  | .lcmp => ql2 st (fun x y r => nx (pc + 1) ls (.inl (cmpl x y) :: r) G) fl
  | .dup => qv st (fun v r => qb (Nat.beq (cat v) 1) (nx (pc + 1) ls (v :: v :: r) G) fl) fl
  | .pop => qv st (fun v r => qb (Nat.beq (cat v) 1) (nx (pc + 1) ls r G) fl) fl
  | .dup2 => qv st (fun v r => qv r (fun w t => qb (Nat.beq (cat v) 1 && Nat.beq (cat w) 1) (nx (pc + 1) ls (v :: w :: v :: w :: t) G) fl) fl) fl
  | .goto _ => nx A ls st G
  | .if_icmp c _ => q2 st (fun x y r => match c with
    | .eq => br (wr x = wr y) (inferInstance) (nx A ls r G) (nx (pc + 3) ls r G)
    | .ne => br (wr x = wr y) (inferInstance) (nx (pc + 3) ls r G) (nx A ls r G)
    | .lt => br (wr x < wr y) (inferInstance) (nx A ls r G) (nx (pc + 3) ls r G)
    | .ge => br (wr x < wr y) (inferInstance) (nx (pc + 3) ls r G) (nx A ls r G)
    | .gt => br (wr y < wr x) (inferInstance) (nx A ls r G) (nx (pc + 3) ls r G)
    | .le => br (wr y < wr x) (inferInstance) (nx (pc + 3) ls r G) (nx A ls r G)) fl
  | .ifCond c _ => q1 st (fun x r => match c with
    | .eq => br (wr x = 0) (inferInstance) (nx A ls r G) (nx (pc + 3) ls r G)
    | .ne => br (wr x = 0) (inferInstance) (nx (pc + 3) ls r G) (nx A ls r G)
    | .lt => br (wr x < 0) (inferInstance) (nx A ls r G) (nx (pc + 3) ls r G)
    | .ge => br (wr x < 0) (inferInstance) (nx (pc + 3) ls r G) (nx A ls r G)
    | .gt => br (0 < wr x) (inferInstance) (nx A ls r G) (nx (pc + 3) ls r G)
    | .le => br (0 < wr x) (inferInstance) (nx (pc + 3) ls r G) (nx A ls r G)) fl
  | .tableswitch _ _ _ _ => q1 st (fun x r => sws br (wr x) sw (fun t => nx t ls r G) (nx A ls r G)) fl
  | .lookupswitch _ _ => q1 st (fun x r => sws br (wr x) sw (fun t => nx t ls r G) (nx A ls r G)) fl
  | .getfield _ => qr st (fun a r => qo G.1 a A (fun sl => qs sl B (nx (pc + 3) ls (.inl (G.2 a B) :: r) G) (fun q => nx (pc + 3) ls (.inr (.inr q) :: r) G) fl) fl) fl
  | .putfield _ => qv st (fun v r => qr r (fun a t => qo G.1 a A (fun sl => match v with
    | .inl x => qs sl B (s3 sw (nx (pc + 3) ls t (G.1, up G.2 a B x)) (ck (wr x = 0 ∨ wr x = 1) (inferInstance) (nx (pc + 3) ls t (G.1, up G.2 a B x))) fl) (fun _ => fl) fl
    | .inr (.inl _) => fl
    | .inr (.inr q) => s3 sw fl fl (qs sl B fl (fun _ => nx (pc + 3) ls t (G.1.set a (.inr (A, sl.set B (some q))), G.2)) fl)) fl) fl) fl
  | .iaload => q1 st (fun i r => qr r (fun a t => qa G.1 a (fun n => ck (0 ≤ wr i ∧ wr i < (n : Int)) (inferInstance) (nx (pc + 1) ls (.inl (G.2 a (wr i).toNat) :: t) G)) fl) fl) fl
  | .iastore => q2 st (fun i x r => qr r (fun a t => qa G.1 a (fun n => ck (0 ≤ wr i ∧ wr i < (n : Int)) (inferInstance) (nx (pc + 1) ls t (G.1, up G.2 a (wr i).toNat x))) fl) fl) fl
  | .arraylength => qr st (fun a r => qa G.1 a (fun n => nx (pc + 1) ls (.inl (n : Int) :: r) G) fl) fl
  | .newarray _ => q1 st (fun x r => ck (0 ≤ wr x ∧ wr x < 100000) (inferInstance) (nx (pc + 2) ls (vr G.1.length :: r) (G.1 ++ [.inl (wr x).toNat], clr G.2 G.1.length))) fl
  | .new _ => nx (pc + 3) ls (vr G.1.length :: st) (G.1 ++ [.inr (A, kDef A)], clr G.2 G.1.length)
  | .ireturn => q1 st (fun x r => qe r (match A with
    | 0 => rt (some (.inl x)) G
    | _ => ck (wr x = 0 ∨ wr x = 1) (inferInstance) (rt (some (.inl x)) G)) fl) fl
  | .areturn => qr st (fun x r => qe r (rt (some (vr x)) G) fl) fl
  | .return_ => qe st (rt none G) fl
  | .invokevirtual _ => sk sw (fun _ n => pp (n + 1) st [] (fun as r => qb (Nat.ble (cats r) 8 && Nat.ble (cats as) B) (qr as (fun a _ => qo G.1 a (md A).2.2.2.2.1 (fun _ => cl A B as (pc + 3) ls r G) fl) fl) fl) fl) fl
  | .invokestatic _ => sk sw (fun kd n => match kd with
    | 1 => pp n st [] (fun as r => qb (Nat.ble (cats r) 8 && Nat.ble (cats as) B) (cl A B as (pc + 3) ls r G) fl) fl
    | 5 => q1 st (fun x r => qb (Nat.ble (cats r) 8) (nx (pc + 3) ls (.inl (ab x) :: r) G) fl) fl
    | 6 => q2 st (fun x y r => qb (Nat.ble (cats r) 8) (nx (pc + 3) ls (.inl (mx x y) :: r) G) fl) fl
    | 7 => q2 st (fun x y r => qb (Nat.ble (cats r) 8) (nx (pc + 3) ls (.inl (mn x y) :: r) G) fl) fl
    | _ => fl) fl
  | .invokespecial _ => sk sw (fun kd n => match kd with
    | 4 => qr st (fun _ r => qb (Nat.ble (cats r) 8) (nx (pc + 3) ls r G) fl) fl
    | 2 => pp (n + 1) st [] (fun as r => qb (Nat.ble (cats r) 8 && Nat.ble (cats as) B) (qr as (fun _ _ => cl A B as (pc + 3) ls r G) fl) fl) fl
    | 3 => pp (n + 1) st [] (fun as r => qb (Nat.ble (cats r) 8 && Nat.ble (cats as) B) (qr as (fun _ _ => cl A B as (pc + 3) ls r G) fl) fl) fl
    | _ => fl) fl
  | _ => fl
/-- a run: nothing when the fuel is out -/
def exec : Nat → Nat → Nat → ALs → List AV → GM → Option (Option AV × GM)
  | 0, _, _, _, _, _ => none
  | n + 1, m, pc, ls, st, G => match tr m pc with
    | none => none
    | some e => stp e pc ls st G (fun pc ls st G => exec n m pc ls st G) (fun c d x y => @ite _ c d x y) (fun c d x => @ite _ c d x none)
      (fun z mL as pc' ls rest G => match exec n z 0 (alocs mL as) [] G with
        | none => none
        | some (rv, G') => exec n m pc' ls (rv.toList ++ rest) G') (fun r G => some (r, G)) none
/-- from here on the method ends, and then Post holds -/
def TA (m pc : Nat) (ls : ALs) (st : List AV) (G : GM) (Post : Option AV → GM → Prop) : Prop := ∃ (n : Nat) (r : Option AV) (G' : GM), exec n m pc ls st G = some (r, G') ∧ Post r G'
def TC (z mL : Nat) (as : List AV) (G : GM) (Post : Option AV → GM → Prop) : Prop := TA z 0 (alocs mL as) [] G Post
/-- what is to be shown n steps on (S: where to stop) -/
def wp (S : Nat → Bool) (m : Nat) (Post : Option AV → GM → Prop) : Nat → Nat → ALs → List AV → GM → Prop
  | 0, pc, ls, st, G => TA m pc ls st G Post
  | n + 1, pc, ls, st, G => match tr m pc with
    | none => False
    | some e => stp e pc ls st G (fun pc ls st G => bif S pc then TA m pc ls st G Post else wp S m Post n pc ls st G) (fun c _ x y => (c → x) ∧ (¬ c → y)) (fun c _ x => c ∧ x)
      (fun z mL as pc' ls rest G => TC z mL as G (fun rv G' => bif S pc' then TA m pc' ls (rv.toList ++ rest) G' Post else wp S m Post n pc' ls (rv.toList ++ rest) G')) Post False

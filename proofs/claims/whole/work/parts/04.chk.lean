/-! what a program checks of the tables -/
/-- the words that every method may have -/
def tblG : List Cond := lw_tbl.filter goodWord
def inT (p : Nat) (w : Cond) : Bool := decide (lw_tbl[p]? = some w) && goodWord w
theorem inT_ok {p : Nat} {w : Cond} (h : inT p w = true) : w ∈ tblG := by
  unfold inT at h
  rw [Bool.and_eq_true, decide_eq_true_eq] at h
  exact List.mem_filter.mpr ⟨List.mem_of_getElem? h.1, h.2⟩
def wsm (m : Nat) : List Cond := Cond.code (md m).1 (md m).2.1 (md m).2.2.1 (md m).2.2.2.1 :: tblG
/-- a method -/
def chkM (q : MD × Nat × Nat × Nat × Nat) : Bool :=
  plainName q.1.1.cls && (inT q.2.2.1 (.initialized q.1.1.cls) && (decide (q.1.1.cls ≠ "java/lang/invoke/MethodHandle" ∧ q.1.1.cls ≠ "java/lang/invoke/VarHandle") && (decide ((parseMethodDescriptor q.1.1.desc).map (fun d => d.parameters.length) = some q.1.2.2.2.2.2.2.2.1) && (decide (kNm q.1.2.2.2.2.1 = q.1.1.cls) &&
  (match q.1.2.2.2.2.2.2.2.2 with
  | 0 => inT q.2.2.2.1 (.instanceMethod q.1.1) && (inT q.2.2.2.2 (.selects q.1.1.cls q.1.1 q.1.1) && decide (q.1.1.name ≠ "<init>"))
  | 1 => inT q.2.2.2.1 (.static q.1.1) && decide (q.1.1.name ≠ "<init>")
  | _ => inT q.2.2.2.1 (.instanceMethod q.1.1) && (decide (q.1.1.name = "<init>") && decide (q.1.2.2.2.1 = none)))))))
/-- links -/
def chkF (q : Nat × Nat × Nat × Nat × Nat) : Bool := inT q.2.2.2.2 (.fieldLink (kNm q.1) q.2.1 (kT q.2.2.1 q.2.2.2.1).1 (kT q.2.2.1 q.2.2.2.1).2.1 (kT q.2.2.1 q.2.2.2.1).2.2.1) && (Nat.blt q.2.2.1 10 && Nat.blt q.2.2.2.1 (kN q.2.2.1))
set_option maxRecDepth 100000 in
theorem fls_ok : fls.all chkF = true := by decide +kernel
def chkL (q : Nat × Nat × Nat × Nat) : Bool := inT q.2.2.2 (.methodLink (kNm q.1) q.2.1 (md q.2.2.1).1)
set_option maxRecDepth 100000 in
theorem mls_ok : mls.all chkL = true := by decide +kernel
def jnm (k : Nat) : MethodName := match k with
  | 4 => Lib.objectInit
  | 5 => Lib.Math.abs.name
  | 6 => Lib.Math.max.name
  | _ => Lib.Math.min.name
def chkJ (q : Nat × Nat × Nat × Nat) : Bool := inT q.2.2.2 (.methodLink (kNm q.1) q.2.1 (jnm q.2.2.1))
set_option maxRecDepth 100000 in
theorem jls_ok : jls.all chkJ = true := by decide +kernel
def chkN (q : Nat × Nat × Nat × Nat × Nat × Nat) : Bool := inT q.2.2.2.1 (.classLink (kNm q.1) q.2.1 (kNm q.2.2.1)) && (inT q.2.2.2.2.1 (.instantiable (kNm q.2.2.1) (kN q.2.2.1)) && (inT q.2.2.2.2.2 (.initialized (kNm q.2.2.1)) && Nat.blt q.2.2.1 10))
set_option maxRecDepth 100000 in
theorem nws_ok : nws.all chkN = true := by decide +kernel
set_option maxRecDepth 100000 in
theorem cls_ok : cls_.all (fun q => inT q.2.2.2 (.constant (kNm q.1) q.2.1 (Int32.ofInt q.2.2.1))) = true := by decide +kernel
set_option maxRecDepth 100000 in
theorem cll_ok : cll_.all (fun q => inT q.2.2.2 (.constantLong (kNm q.1) q.2.1 (Int64.ofInt q.2.2.1))) = true := by decide +kernel
def chkW (q : Nat × Nat × Nat) : Bool := inT q.2.2 (u_lay (kNm q.1) (kT q.1) q.2.1)
set_option maxRecDepth 100000 in
theorem cws_ok : cws.all chkW = true := by decide +kernel
/-- the words of a class are among them -/
theorem cws_all : (List.range 10).all (fun c => (List.range (kN c)).all (fun k => cws.any (fun q => Nat.beq q.1 c && Nat.beq q.2.1 k))) = true := by decide +kernel
theorem cls_in (c : Nat) (hc : c < 10) : ∀ w ∈ u_ws (kNm c) (kT c) (kN c), w ∈ tblG := by
  intro w hw
  obtain ⟨k, hk, rfl⟩ := List.mem_map.mp hw
  have h1 := List.all_eq_true.mp (List.all_eq_true.mp cws_all c (List.mem_range.mpr hc)) k hk
  obtain ⟨q, hq, h2⟩ := List.any_eq_true.mp h1
  rw [Bool.and_eq_true] at h2
  have e1 := Nat.eq_of_beq_eq_true h2.1
  have e2 := Nat.eq_of_beq_eq_true h2.2
  have h3 := inT_ok (List.all_eq_true.mp cws_ok q hq)
  rw [e1, e2] at h3
  exact h3
set_option maxRecDepth 100000 in
theorem arr_ok : inT posArr (.arrayClass .int) = true := by decide +kernel
set_option maxRecDepth 100000 in
theorem obj_ok : inT posObj.1 (.instanceMethod Lib.objectInit) = true ∧ inT posObj.2 (.code Lib.objectInit ⟨#[0xb1]⟩ 1 none) = true := by decide +kernel
set_option maxRecDepth 100000 in
theorem math_ok : inT posMath (.initialized "java/lang/Math") = true := by decide +kernel
set_option maxRecDepth 100000 in
theorem mabs_ok : inT posM_abs.1 (.static Lib.Math.abs.name) = true ∧ inT posM_abs.2 (.code Lib.Math.abs.name Lib.Math.abs.code 1 (some .int)) = true := by decide +kernel
set_option maxRecDepth 100000 in
theorem mmax_ok : inT posM_max.1 (.static Lib.Math.max.name) = true ∧ inT posM_max.2 (.code Lib.Math.max.name Lib.Math.max.code 2 (some .int)) = true := by decide +kernel
set_option maxRecDepth 100000 in
theorem mmin_ok : inT posM_min.1 (.static Lib.Math.min.name) = true ∧ inT posM_min.2 (.code Lib.Math.min.name Lib.Math.min.code 2 (some .int)) = true := by decide +kernel
theorem kDef_ok : (List.range 10).all (fun c => decide ((kDef c).length = kN c) && (List.range (kN c)).all (fun k => match (kDef c)[k]? with
  | some none => decide (defaultValue (kTy c k) = .int 0)
  | some (some none) => decide (defaultValue (kTy c k) = .null)
  | _ => false)) = true := by decide +kernel
/-- what stands at the place C of a list -/
def at5 (l : List (Nat × Nat × Nat × Nat × Nat)) (C : Nat) (p : Nat × Nat × Nat × Nat × Nat → Bool) : Bool := match l[C]? with
  | some q => p q
  | none => false
def at4 (l : List (Nat × Nat × Nat × Nat)) (C : Nat) (p : Nat × Nat × Nat × Nat → Bool) : Bool := match l[C]? with
  | some q => p q
  | none => false
def at3 (l : List (Nat × Nat × Nat)) (C : Nat) (p : Nat × Nat × Nat → Bool) : Bool := match l[C]? with
  | some q => p q
  | none => false
def at6 (l : List (Nat × Nat × Nat × Nat × Nat × Nat)) (C : Nat) (p : Nat × Nat × Nat × Nat × Nat × Nat → Bool) : Bool := match l[C]? with
  | some q => p q
  | none => false
def atc (l : List (Nat × Nat × Int × Nat)) (C : Nat) (p : Nat × Nat × Int × Nat → Bool) : Bool := match l[C]? with
  | some q => p q
  | none => false
def own (m : Nat) : Nat := (md m).2.2.2.2.1
/-- the room of a call -/
def chkR (m z : Nat) : Bool := Nat.ble ((md z).2.2.2.2.2.1 + 1) (md m).2.2.2.2.2.1 && Nat.ble (8 + ((md z).2.2.1 + 11) + (md z).2.2.2.2.2.2.1) (md m).2.2.2.2.2.2.1
/-- a call by the table of links: method A, its locals B, n parameters, of the kind kd -/
def chkC (m i A B C n kd : Nat) : Bool := at4 mls C (fun q => Nat.beq q.1 (own m) && (Nat.beq q.2.1 i && Nat.beq q.2.2.1 A)) && (Nat.beq B (md A).2.2.1 && (Nat.beq n (md A).2.2.2.2.2.2.2.1 && (Nat.beq kd (md A).2.2.2.2.2.2.2.2 && chkR m A)))
/-- a primitive of the library: room for one frame -/
def chkP (m i C kd : Nat) : Bool := at4 jls C (fun q => Nat.beq q.1 (own m) && (Nat.beq q.2.1 i && Nat.beq q.2.2.1 kd)) && (Nat.ble 1 (md m).2.2.2.2.2.1 && Nat.ble 21 (md m).2.2.2.2.2.2.1)
def cto (pc : Nat) (off : Int) (A : Nat) : Bool := decide ((pc : Int) + off = (A : Int))
def chkI (m pc : Nat) (ins : Instr) (len A B C : Nat) (sw : List (Int × Nat)) : Bool := match ins with
  | .iconst _ => Nat.beq len 1
  | .lconst _ => Nat.beq len 1
  | .bipush n => Nat.beq len 2 && decide ((Int8.ofInt n).toInt32 = Int32.ofInt n)
  | .sipush n => Nat.beq len 3 && decide ((Int16.ofInt n).toInt32 = Int32.ofInt n)
  | .ldc i => Nat.beq len 2 && sv sw (fun v => atc cls_ A (fun q => Nat.beq q.1 (own m) && (Nat.beq q.2.1 i && decide (q.2.2.1 = v)))) false
  | .ldc_w i => Nat.beq len 3 && sv sw (fun v => atc cls_ A (fun q => Nat.beq q.1 (own m) && (Nat.beq q.2.1 i && decide (q.2.2.1 = v)))) false
  | .ldc2_w i => Nat.beq len 3 && sv sw (fun v => atc cll_ A (fun q => Nat.beq q.1 (own m) && (Nat.beq q.2.1 i && decide (q.2.2.1 = v)))) false
  | .iload _ => Nat.beq len 2
  | .iload_n _ => Nat.beq len 1
  | .lload _ => Nat.beq len 2
  | .lload_n _ => Nat.beq len 1
  | .aload _ => Nat.beq len 2
  | .aload_n _ => Nat.beq len 1
  | .istore _ => Nat.beq len 2
  | .istore_n _ => Nat.beq len 1
  | .astore _ => Nat.beq len 2
  | .astore_n _ => Nat.beq len 1
  | .iinc _ _ => Nat.beq len 3
  | .iadd => Nat.beq len 1
  | .isub => Nat.beq len 1
  | .imul => Nat.beq len 1
  | .iand => Nat.beq len 1
  | .ior => Nat.beq len 1
  | .ixor => Nat.beq len 1
  | .ishl => Nat.beq len 1
  | .ishr => Nat.beq len 1
  | .idiv => Nat.beq len 1
  | .irem => Nat.beq len 1
  | .ineg => Nat.beq len 1
  | .i2l => Nat.beq len 1
  | .lcmp => Nat.beq len 1
  | .dup => Nat.beq len 1
  | .pop => Nat.beq len 1
  | .dup2 => Nat.beq len 1
  | .goto off => Nat.beq len 3 && cto pc off A
  | .if_icmp _ off => Nat.beq len 3 && cto pc off A
  | .ifCond _ off => Nat.beq len 3 && cto pc off A
  | .tableswitch d lo hi offs => cto pc d A && (decide (((List.range offs.size).map (fun (k : Nat) => (lo + (k : Int), (pc : Int) + offs.getD k 0))) = sw.map (fun q => (q.1, (q.2 : Int)))) && decide (hi = lo + ((offs.size : Nat) : Int) - 1))
  | .lookupswitch d ps => cto pc d A && (decide (ps.toList.map (fun q => (q.1, (pc : Int) + q.2)) = sw.map (fun q => (q.1, (q.2 : Int)))) && (ps.toList.zip (ps.toList.drop 1)).all (fun (a, next) => a.1 < next.1))
  | .getfield i => Nat.beq len 3 && at5 fls C (fun q => Nat.beq q.1 (own m) && (Nat.beq q.2.1 i && (Nat.beq q.2.2.1 A && Nat.beq q.2.2.2.1 B)))
  | .putfield i => Nat.beq len 3 && (at5 fls C (fun q => Nat.beq q.1 (own m) && (Nat.beq q.2.1 i && (Nat.beq q.2.2.1 A && Nat.beq q.2.2.2.1 B))) && ((!(kT A B).2.2.2 || (decide ((md m).1.name = "<init>") && decide ((kT A B).1 = (md m).1.cls))) &&
      (match kTy A B with
      | .int => s3 sw true false false
      | .boolean => s3 sw false true false
      | .object _ => s3 sw false false true
      | .array _ => s3 sw false false true
      | _ => false)))
  | .iaload => Nat.beq len 1
  | .iastore => Nat.beq len 1
  | .arraylength => Nat.beq len 1
  | .newarray t => Nat.beq len 2 && decide (t = .int)
  | .new i => Nat.beq len 3 && at6 nws C (fun q => Nat.beq q.1 (own m) && (Nat.beq q.2.1 i && Nat.beq q.2.2.1 A))
  | .ireturn => Nat.beq len 1 && (match A with
    | 0 => decide ((md m).2.2.2.1 = some .int)
    | _ => decide ((md m).2.2.2.1 = some .boolean))
  | .areturn => Nat.beq len 1 && (match (md m).2.2.2.1 with
    | some (.object _) => true
    | _ => false)
  | .return_ => Nat.beq len 1 && decide ((md m).2.2.2.1 = none)
  | .invokevirtual i => Nat.beq len 3 && sk sw (fun kd n => Nat.beq kd 0 && chkC m i A B C n 0) false
  | .invokestatic i => Nat.beq len 3 && sk sw (fun kd n => match kd with
    | 1 => chkC m i A B C n 1
    | kd => chkP m i C kd) false
  | .invokespecial i => Nat.beq len 3 && sk sw (fun kd n => match kd with
    | 2 => chkC m i A B C n 2
    | 3 => at3 nls C (fun q => Nat.beq q.1 (own m) && (Nat.beq q.2.1 i && Nat.beq q.2.2 A)) && (Nat.beq B (md A).2.2.1 && (Nat.beq n (md A).2.2.2.2.2.2.2.1 && (Nat.beq 2 (md A).2.2.2.2.2.2.2.2 && chkR m A)))
    | kd => chkP m i C kd) false
  | _ => false
def chk (m pc : Nat) (e : Ent) : Bool := decide (decode (md m).2.1 pc = .ok (e.1, e.2.1)) && chkI m pc e.1 e.2.1 e.2.2.1 e.2.2.2.1 e.2.2.2.2.1 e.2.2.2.2.2
def chkAll (m N : Nat) (t : Nat → Option Ent) : Bool := (List.range N).all (fun pc => match t pc with
  | none => true
  | some e => chk m pc e)
theorem chkAll_ok {m N : Nat} {t : Nat → Option Ent} (h : chkAll m N t = true) (hN : ∀ pc, N ≤ pc → t pc = none) : ∀ e pc, t pc = some e → chk m pc e = true := by
  intro e pc he
  rcases Nat.lt_or_ge pc N with h1 | h1
  · have h2 := List.all_eq_true.mp h pc (List.mem_range.mpr h1)
    rw [he] at h2
    exact h2
  · rw [hN pc h1] at he
    cases he

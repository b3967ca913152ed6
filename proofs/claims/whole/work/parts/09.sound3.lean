/-! the run of a method, of the small machine and of the machine -/
def nestOk (U : State) : Prop := ∀ q ∈ nls, va_Nw (.methodLinkNest (kNm q.1) q.2.1 (md q.2.2).1 "HandsForAWheel") U
theorem nestOk.warm {s U : State} (hW : s.WarmedH U.vm) (h : nestOk s) : nestOk U := fun q hq => va_Nw.warmM hW (h q hq)
theorem nestOk.vm {s U : State} (hv : s.vm = U.vm) (h : nestOk s) : nestOk U := fun q hq => va_tabs rfl hv (h q hq)
def rmm (m k n : Nat) : Room := { frames := (md m).2.2.2.2.2.1, cells := k, slots := n, locals := (md m).2.2.2.2.2.2.1 }
/-- what stands while the method m runs -/
def Ctx (D : va_G) (cA : ClassId) (m : Nat) (p : Program) (s : State) (mi : MethodId) (args : Array Value) (meth : Method) (c : Code) (R : Room) : Prop :=
  p.tables.exec = Jvm.exec ∧ c.code = (md m).2.1 ∧ c.maxLocals = (md m).2.2.1 ∧ meth.sig.returnType = (md m).2.2.2.1 ∧ s.vm.findClass (md m).1.cls = some mi.cls ∧ (∀ w ∈ wsm m, w.before args s = true) ∧ meth.locks = false ∧ meth.name = (md m).1.name ∧ nestOk s ∧ va_K D kCls [(cA, .int)] s ∧ R.frames = (md m).2.2.2.2.2.1 ∧ R.locals = (md m).2.2.2.2.2.2.1
/-- the heap, the locals, the room, on the way to G' -/
def Inv (D : va_G) (cA : ClassId) (ad : Nat → Nat) (A : Nat → Prop) (L0 nL : Nat) (G' : GM) (s : State) (R : Room) (G : GM) (al : ALs) (H : Heap) (locs : List Loc) (cells slots : Nat) (ls : Array Slot) : Prop :=
  va_P D kCls (wd cA ad G) H ∧ va_S A s.heap H locs ∧ lv_has ls nL (prs ad al) ∧ al.length = nL ∧ cells + L0 = G.1.length ∧ cells + (G'.1.length - G.1.length) = R.cells ∧ slots + (siz G'.1 - siz G.1) = R.slots ∧ (∀ i, L0 ≤ i → i < G'.1.length → ad i = s.heap.size + (i - L0))
def Qcm (D : va_G) (cA : ClassId) (ad : Nat → Nat) (A : Nat → Prop) (v : Option AV) (G' : GM) : Array Value → State → Outcome → State → Prop := fun _ st o t => (o = .returned (v.map (cv ad)) ∧ va_P D kCls (wd cA ad G') t.heap) ∧ va_F A st t
def Snd (l : Launch) (D : va_G) (m pc : Nat) (al : ALs) (st : List AV) (G : GM) (v : Option AV) (G' : GM) : Prop :=
  ∀ (cA : ClassId) (ad : Nat → Nat) (A : Nat → Prop) (L0 : Nat) (p : Program) (e : Env) (s : State) (mi : MethodId) (args : Array Value) (below : List Frame) (meth : Method) (c : Code) (R : Room) (H : Heap) (locs : List Loc) (cells slots : Nat) (ls : Array Slot),
    Ctx D cA m p s mi args meth c R → (∀ i j, i < G'.1.length → j < G'.1.length → ad i = ad j → i = j) → (∀ i, i < G'.1.length → A (ad i)) → (∀ q, s.heap.size ≤ q → A q) →
    Inv D cA ad A L0 (md m).2.2.1 G' s R G al H locs cells slots ls →
    W p l e R s mi args below meth c H locs cells slots (MQ below (Qcm D cA ad A v G') args s R.cells R.slots A) (F0 mi pc ls (st.map (cv ad)))
def Pcm (D : va_G) (cA : ClassId) (ad : Nat → Nat) (sz : Nat) (G : GM) (as : List AV) : Array Value → State → Prop :=
  va_Pc (as.map (cv ad)) (fun U => U.heap.size = sz ∧ va_P D kCls (wd cA ad G) U.heap ∧ va_K D kCls [(cA, .int)] U ∧ nestOk U)
theorem wd_D {cA : ClassId} {ad : Nat → Nat} {G : GM} {A : Nat → Prop} (hi : ∀ i j, i < G.1.length → j < G.1.length → ad i = ad j → i = j) (hA : ∀ i, i < G.1.length → A (ad i)) : va_D A (wd cA ad G) := by
  refine ⟨fun i j x y hx hy hxy => ?_, fun k q hk => ?_⟩
  · obtain ⟨d1, e1, rfl⟩ := wd_get hx
    obtain ⟨d2, e2, rfl⟩ := wd_get hy
    exact hi i j (List.getElem?_eq_some_iff.mp e1).1 (List.getElem?_eq_some_iff.mp e2).1 hxy
  · obtain ⟨d1, e1, rfl⟩ := wd_get hk
    exact hA k (List.getElem?_eq_some_iff.mp e1).1
theorem tblG_good {w : Cond} (h : w ∈ tblG) : goodWord w = true := (List.mem_filter.mp h).2
theorem wsm_in {m z : Nat} (hz : Cond.code (md z).1 (md z).2.1 (md z).2.2.1 (md z).2.2.2.1 ∈ tblG) : GoodIn (wsm m) (wsm z) := by
  intro w hw
  have hg : w ∈ tblG := by
    rcases List.mem_cons.mp hw with rfl | h
    · exact hz
    · exact h
  exact ⟨List.mem_cons_of_mem _ hg, good_of_word (tblG_good hg)⟩
/-- the contract of a method, out of its runs -/
def Ctr (l : Launch) (D : va_G) (z : Nat) (as : List AV) (G : GM) (v : Option AV) (G' : GM) : Prop :=
  ∀ (cA : ClassId) (ad : Nat → Nat) (sz : Nat), (∀ i j, i < G'.1.length → j < G'.1.length → ad i = ad j → i = j) → (∀ i, G.1.length ≤ i → i < G'.1.length → ad i = sz + (i - G.1.length)) →
    Met l (md z).1 (wsm z) (rmm z (G'.1.length - G.1.length) (siz G'.1 - siz G.1)) (Pcm D cA ad sz G as) (Qcm D cA ad (va_A (wd cA ad G) sz) v G') (G'.1.length - G.1.length) (siz G'.1 - siz G.1) (va_A (wd cA ad G) sz)
theorem Ctr_of {l : Launch} {D : va_G} {z : Nat} {as : List AV} {G G' : GM} {v : Option AV} (hs : Snd l D z 0 (alocs (md z).2.2.1 as) [] G v G') (hc : cats as ≤ (md z).2.2.1) (hg : Gr G G') : Ctr l D z as G v G' := by
  intro cA ad sz hinj hadj
  obtain ⟨pz, hz, -⟩ := md_ok z
  simp only [chkM, Bool.and_eq_true] at hz
  refine Met.ofW (cc := (md z).2.1) (maxL := (md z).2.2.1) (ret := (md z).2.2.2.1) hz.1 rfl ?_
  intro p e s m args below meth c s₁ B hml hv
  obtain ⟨rfl, hsz, hP, hK, hN⟩ := hv
  have hts := atoms_spec (ws := wsm z) B.pre
  have hown : s.vm.findClass (md z).1.cls = some m.cls := findClass_of_methodNamed B.named
  have hin := (name_of_methodNamed B.named B.method).1
  have hl := lv_entry (as.map (cv ad)) (n := (md z).2.2.1) (by rw [lg_len]; exact hc)
  rw [lg_entry_eq]
  generalize (lg_sl (as.map (cv ad)) ++ List.replicate ((md z).2.2.1 - (lg_sl (as.map (cv ad))).length) Slot.unset).toArray = ls at hl ⊢
  have hl2 : lv_has ls (md z).2.2.1 (prs ad (alocs (md z).2.2.1 as)) := ⟨hl.1, hl.2.1, fun q hq => by
    obtain ⟨w, h1, h2⟩ := mem_prs hq
    have h3 := alocs_args ad as (md z).2.2.1 0 q.1 w h1
    rw [Nat.zero_add, ← h2] at h3
    exact hl.2.2 q h3⟩
  refine hs cA ad (va_A (wd cA ad G) sz) G.1.length p e s m _ below meth c (headSpec (wsm z) (rmm z (G'.1.length - G.1.length) (siz G'.1 - siz G.1))).room s.heap [] 0 0 ls ⟨B.exec, B.bytes, hml, B.returns, hown, hts, B.notSynchronized, hin, hN, hK, rfl, rfl⟩ hinj ?_ (fun q hq => Or.inr (by rw [← hsz]; exact hq)) ⟨hP, va_S.rf, hl2, alocs_len _ _ hc, Nat.zero_add _, Nat.zero_add _, Nat.zero_add _, fun i h1 h2 => by rw [hadj i h1 h2, hsz]⟩
  intro i hi
  rcases Nat.lt_or_ge i G.1.length with h1 | h1
  · have hd : ∃ d, G.1[i]? = some d := ⟨_, List.getElem?_eq_getElem h1⟩
    obtain ⟨d, hd⟩ := hd
    exact va_A.in (wd_at hd)
  · exact Or.inr (by rw [hadj i h1 hi]; omega)
section SND
variable {l : Launch} {D : va_G} {m : Nat} {cA : ClassId} {ad : Nat → Nat} {A : Nat → Prop} {L0 nL : Nat} {G G' : GM} {al : ALs} {p : Program} {e : Env} {s : State} {mi : MethodId} {args : Array Value} {below : List Frame} {meth : Method} {c : Code} {R : Room} {H : Heap} {locs : List Loc} {cells slots : Nat} {ls : Array Slot} {Q : State → Prop}
theorem W_sz {g : JFrame} (k : H.size ≤ s.heap.size + cells → W p l e R s mi args below meth c H locs cells slots Q g) : W p l e R s mi args below meth c H locs cells slots Q g := fun T hT X => k (by have h := X.heapSize; rw [hT] at h; exact h) T hT X
theorem Inv.size (h : Inv D cA ad A L0 nL G' s R G al H locs cells slots ls) (hg : G.1.length ≤ G'.1.length) (hu : H.size ≤ s.heap.size + cells) : H.size = s.heap.size + cells := by
  obtain ⟨hP, hS, -, -, hc, -, -, had⟩ := h
  have h1 := hS.1
  rcases Nat.eq_zero_or_pos cells with h0 | h0
  · omega
  · have hlt : G.1.length - 1 < G.1.length := by omega
    obtain ⟨d, hd⟩ : ∃ d, G.1[G.1.length - 1]? = some d := ⟨_, List.getElem?_eq_getElem hlt⟩
    have h2 : ad (G.1.length - 1) < H.size := (hP _ _ (wd_at hd)).lt
    rw [had _ (by omega) (by omega)] at h2
    omega
/-- behind a call, whatever it answers -/
theorem e_call {pc : Nat} {st0 rest : List Value} {free : Addr → Prop} {mc ms : Nat} {w : Option Value} {B : State → Prop} {A1 : Nat → Prop} {a : Array Value}
    (hr : va_Run p l e R s mi args below meth c H locs cells slots mc ms (F0 mi pc ls st0) rest ((fun (_ : Array Value) st o t => (o = .returned w ∧ B t) ∧ va_F A1 st t) a) free) (hS : va_S A s.heap H locs) (hA : ∀ q, q < H.size → A1 q → A q) (hf : ∀ q, free q → A q)
    (kk : ∀ (t : State) (H1 : Heap) (locs1 : List Loc), t.heap = H1 → B t → va_S A s.heap H1 locs1 → W p l e R s mi args below meth c H1 locs1 (cells + mc) (slots + ms) Q (F0 mi (pc + 3) ls (w.toList ++ rest))) : W p l e R s mi args below meth c H locs cells slots Q (F0 mi pc ls st0) := by
  intro T hT X
  obtain ⟨v, st₀, t, T', L, h0, X', hL, e1, e2, ⟨⟨hv, hb⟩, hz, hk⟩, st⟩ := hr T hT X
  cases hv
  rw [h0] at hz hk
  obtain ⟨t2, a1, b1⟩ := kk t T'.heap (locs ++ L) e1.symm hb
    ⟨Nat.le_trans hS.1 (by rw [e1]; exact hz), fun q h1 h2 => by rw [e1, hk q (Nat.lt_of_lt_of_le h1 hS.1) (fun z => h2 (hA q (Nat.lt_of_lt_of_le h1 hS.1) z))]; exact hS.2.1 q h1 h2, fun q hq => by
      rcases List.mem_append.mp hq with h | h
      · exact hS.2.2 q h
      · exact hf _ (hL q h)⟩ T' rfl X'
  exact ⟨t2, st t2 a1, b1⟩
end SND

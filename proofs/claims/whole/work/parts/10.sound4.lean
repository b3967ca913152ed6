/-! one instruction after the other -/
theorem at5_inv {l : List (Nat × Nat × Nat × Nat × Nat)} {C : Nat} {p : Nat × Nat × Nat × Nat × Nat → Bool} (h : at5 l C p = true) : ∃ q, q ∈ l ∧ p q = true := by
  unfold at5 at h
  split at h
  · rename_i q e; exact ⟨q, List.mem_of_getElem? e, h⟩
  · cases h
theorem at4_inv {l : List (Nat × Nat × Nat × Nat)} {C : Nat} {p : Nat × Nat × Nat × Nat → Bool} (h : at4 l C p = true) : ∃ q, q ∈ l ∧ p q = true := by
  unfold at4 at h
  split at h
  · rename_i q e; exact ⟨q, List.mem_of_getElem? e, h⟩
  · cases h
theorem at3_inv {l : List (Nat × Nat × Nat)} {C : Nat} {p : Nat × Nat × Nat → Bool} (h : at3 l C p = true) : ∃ q, q ∈ l ∧ p q = true := by
  unfold at3 at h
  split at h
  · rename_i q e; exact ⟨q, List.mem_of_getElem? e, h⟩
  · cases h
theorem at6_inv {l : List (Nat × Nat × Nat × Nat × Nat × Nat)} {C : Nat} {p : Nat × Nat × Nat × Nat × Nat × Nat → Bool} (h : at6 l C p = true) : ∃ q, q ∈ l ∧ p q = true := by
  unfold at6 at h
  split at h
  · rename_i q e; exact ⟨q, List.mem_of_getElem? e, h⟩
  · cases h
theorem atc_inv {l : List (Nat × Nat × Int × Nat)} {C : Nat} {p : Nat × Nat × Int × Nat → Bool} (h : atc l C p = true) : ∃ q, q ∈ l ∧ p q = true := by
  unfold atc at h
  split at h
  · rename_i q e; exact ⟨q, List.mem_of_getElem? e, h⟩
  · cases h
theorem kNm_own (m : Nat) : kNm (own m) = (md m).1.cls := by
  obtain ⟨p, hp, -⟩ := md_ok m
  simp only [chkM, Bool.and_eq_true, decide_eq_true_eq] at hp
  exact hp.2.2.2.2.1
/-- a field's link -/
theorem k_fld {m i A B C : Nat} (h : at5 fls C (fun q => Nat.beq q.1 (own m) && (Nat.beq q.2.1 i && (Nat.beq q.2.2.1 A && Nat.beq q.2.2.2.1 B))) = true) :
    Cond.fieldLink (md m).1.cls i (kT A B).1 (kT A B).2.1 (kT A B).2.2.1 ∈ tblG ∧ A < 10 ∧ B < kN A := by
  obtain ⟨q, hq, h⟩ := at5_inv h
  simp only [Bool.and_eq_true] at h
  obtain ⟨h1, h2, h3, h4⟩ := h
  have hf := List.all_eq_true.mp fls_ok q hq
  simp only [chkF, Bool.and_eq_true] at hf
  obtain ⟨hw, ha, hb⟩ := hf
  rw [Nat.eq_of_beq_eq_true h1, Nat.eq_of_beq_eq_true h2, Nat.eq_of_beq_eq_true h3, Nat.eq_of_beq_eq_true h4, kNm_own] at hw
  rw [Nat.eq_of_beq_eq_true h3] at ha hb
  rw [Nat.eq_of_beq_eq_true h4] at hb
  exact ⟨inT_ok hw, Nat.le_of_ble_eq_true ha, Nat.le_of_ble_eq_true hb⟩
theorem k_room {m z : Nat} (h : chkR m z = true) {k n : Nat} {R : Room} (h1 : R.frames = (md m).2.2.2.2.2.1) (h2 : R.locals = (md m).2.2.2.2.2.2.1) : (rmm z k n).frames + 1 ≤ R.frames ∧ 8 + ((md z).2.2.1 + 11) + (rmm z k n).locals ≤ R.locals := by
  simp only [chkR, Bool.and_eq_true] at h
  rw [h1, h2]
  exact ⟨Nat.le_of_ble_eq_true h.1, Nat.le_of_ble_eq_true h.2⟩
/-- a method's link -/
theorem k_call {m i A B C n kd : Nat} (h : chkC m i A B C n kd = true) : Cond.methodLink (md m).1.cls i (md A).1 ∈ tblG ∧ B = (md A).2.2.1 ∧ n = (md A).2.2.2.2.2.2.2.1 ∧ kd = (md A).2.2.2.2.2.2.2.2 ∧ chkR m A = true := by
  simp only [chkC, Bool.and_eq_true] at h
  obtain ⟨h0, h1, h2, h3, h4⟩ := h
  obtain ⟨q, hq, h⟩ := at4_inv h0
  simp only [Bool.and_eq_true] at h
  obtain ⟨g1, g2, g3⟩ := h
  have hf := List.all_eq_true.mp mls_ok q hq
  simp only [chkL] at hf
  rw [Nat.eq_of_beq_eq_true g1, Nat.eq_of_beq_eq_true g2, Nat.eq_of_beq_eq_true g3, kNm_own] at hf
  exact ⟨inT_ok hf, Nat.eq_of_beq_eq_true h1, Nat.eq_of_beq_eq_true h2, Nat.eq_of_beq_eq_true h3, h4⟩
theorem k_prim {m i C kd : Nat} (h : chkP m i C kd = true) : Cond.methodLink (md m).1.cls i (jnm kd) ∈ tblG ∧ 1 ≤ (md m).2.2.2.2.2.1 ∧ 21 ≤ (md m).2.2.2.2.2.2.1 := by
  simp only [chkP, Bool.and_eq_true] at h
  obtain ⟨h0, h1, h2⟩ := h
  obtain ⟨q, hq, h⟩ := at4_inv h0
  simp only [Bool.and_eq_true] at h
  obtain ⟨g1, g2, g3⟩ := h
  have hf := List.all_eq_true.mp jls_ok q hq
  simp only [chkJ] at hf
  rw [Nat.eq_of_beq_eq_true g1, Nat.eq_of_beq_eq_true g2, Nat.eq_of_beq_eq_true g3, kNm_own] at hf
  exact ⟨inT_ok hf, Nat.le_of_ble_eq_true h1, Nat.le_of_ble_eq_true h2⟩
theorem cto_ok {pc A : Nat} {off : Int} (h : cto pc off A = true) : (pc : Int) + off = (A : Int) := of_decide_eq_true h
/-- what is known of a method's own words -/
theorem k_md (m : Nat) : Cond.code (md m).1 (md m).2.1 (md m).2.2.1 (md m).2.2.2.1 ∈ tblG ∧ Cond.initialized (md m).1.cls ∈ tblG ∧ ((md m).1.cls ≠ "java/lang/invoke/MethodHandle" ∧ (md m).1.cls ≠ "java/lang/invoke/VarHandle" ∧ (parseMethodDescriptor (md m).1.desc).map (fun d => d.parameters.length) = some (md m).2.2.2.2.2.2.2.1) ∧
    ((md m).2.2.2.2.2.2.2.2 = 0 → Cond.instanceMethod (md m).1 ∈ tblG ∧ Cond.selects (md m).1.cls (md m).1 (md m).1 ∈ tblG) ∧ ((md m).2.2.2.2.2.2.2.2 = 1 → Cond.static (md m).1 ∈ tblG) ∧ ((md m).2.2.2.2.2.2.2.2 = 2 → Cond.instanceMethod (md m).1 ∈ tblG ∧ (md m).1.name = "<init>" ∧ (md m).2.2.2.1 = none) := by
  obtain ⟨p, hp, h1⟩ := md_ok m
  simp only [chkM, Bool.and_eq_true, decide_eq_true_eq] at hp
  obtain ⟨-, h2, h3, h4, -, h5⟩ := hp
  refine ⟨h1, inT_ok h2, ⟨h3.1, h3.2, h4⟩, ?_, ?_, ?_⟩
  · intro hk
    rw [hk] at h5
    simp only [Bool.and_eq_true, decide_eq_true_eq] at h5
    exact ⟨inT_ok h5.1, inT_ok h5.2.1⟩
  · intro hk
    rw [hk] at h5
    simp only [Bool.and_eq_true, decide_eq_true_eq] at h5
    exact inT_ok h5.1
  · intro hk
    rw [hk] at h5
    simp only [Bool.and_eq_true, decide_eq_true_eq] at h5
    exact ⟨inT_ok h5.1, h5.2.1, h5.2.2⟩
theorem Pcm_blind (D : va_G) (cA : ClassId) (ad : Nat → Nat) (sz : Nat) (G : GM) (as : List AV) : FrameBlind (Pcm D cA ad sz G as) := by
  intro a U g mk q
  obtain ⟨q0, q1, q2, q3, q4⟩ := q
  exact ⟨q0, q1, q2, va_K.moved (u := U) (U := U.calling g mk a) (Vm.Alike.refl U.vm) q3, nestOk.vm (U := U.calling g mk a) rfl q4⟩
section SND2
variable {l : Launch} {D : va_G} {m : Nat} {cA : ClassId} {ad : Nat → Nat} {A : Nat → Prop} {L0 : Nat} {G G' G1 : GM} {al : ALs} {p : Program} {e : Env} {s : State} {mi : MethodId} {args : Array Value} {below : List Frame} {meth : Method} {c : Code} {R : Room} {H : Heap} {locs : List Loc} {cells slots : Nat} {ls : Array Slot} {Q : State → Prop}
/-- a call: what is the same for all kinds of them -/
theorem e_calls {pc z : Nat} {as r : List AV} {v : Option AV} {st0 : List Value}
    (hC : Ctx D cA m p s mi args meth c R) (hinj : ∀ i j, i < G'.1.length → j < G'.1.length → ad i = ad j → i = j) (hAd : ∀ i, i < G'.1.length → A (ad i)) (hA : ∀ q, s.heap.size ≤ q → A q)
    (hI : Inv D cA ad A L0 (md m).2.2.1 G' s R G al H locs cells slots ls) (hg1 : Gr G G1) (hg2 : Gr G1 G') (hM : Ctr l D z as G v G1)
    (hrun : ∀ free mc ms (Qc : Array Value → State → Outcome → State → Prop), Met l (md z).1 (wsm z) (rmm z (G1.1.length - G.1.length) (siz G1.1 - siz G.1)) (Pcm D cA ad H.size G as) Qc mc ms free → mc = G1.1.length - G.1.length → ms = siz G1.1 - siz G.1 → (cells + mc ≤ R.cells ∧ slots + ms ≤ R.slots) → (∀ U : State, U.heap = H → s.WarmedH U.vm → Pcm D cA ad H.size G as (as.map (cv ad)).toArray U) →
      va_Run p l e R s mi args below meth c H locs cells slots mc ms (F0 mi pc ls st0) (r.map (cv ad)) (Qc (as.map (cv ad)).toArray) free)
    (nxt : ∀ (H1 : Heap) (locs1 : List Loc) (cells1 slots1 : Nat), Inv D cA ad A L0 (md m).2.2.1 G' s R G1 al H1 locs1 cells1 slots1 ls → W p l e R s mi args below meth c H1 locs1 cells1 slots1 Q (F0 mi (pc + 3) ls ((v.toList ++ r).map (cv ad)))) :
    W p l e R s mi args below meth c H locs cells slots Q (F0 mi pc ls st0) := by
  refine W_sz fun hu => ?_
  have hsz := hI.size (Nat.le_trans hg1.1 hg2.1) hu
  obtain ⟨hP, hS, hl, hn, hc, hRc, hRs, had⟩ := hI
  obtain ⟨-, -, -, -, -, -, -, -, hN, hK, -, -⟩ := hC
  obtain ⟨a1, a2⟩ := hg1
  obtain ⟨b1, b2⟩ := hg2
  have hMet := hM cA ad H.size (fun i j hi hj => hinj i j (by omega) (by omega)) (fun i h1 h2 => by rw [had i (by omega) (by omega), hsz]; omega)
  have hr := hrun _ _ _ _ hMet rfl rfl ⟨by omega, by omega⟩ (fun U hU hW => ⟨rfl, by rw [hU], by rw [hU]; exact hP, va_K.moved hW.alike hK, nestOk.warm hW hN⟩)
  have hfr : ∀ q, va_A (wd cA ad G) H.size q → A q := by
    intro q hq
    rcases hq with ⟨k, x, hx⟩ | hq
    · obtain ⟨d, e1, e2⟩ := wd_get hx
      have e3 : q = ad k := congrArg Prod.fst e2
      rw [e3]
      exact hAd k (by have := (List.getElem?_eq_some_iff.mp e1).1; omega)
    · exact hA q (Nat.le_trans hS.1 hq)
  refine e_call (a := (as.map (cv ad)).toArray) (w := v.map (cv ad)) (B := fun t => va_P D kCls (wd cA ad G1) t.heap) hr hS (fun q _ h => hfr q h) hfr (fun t H1 locs1 ht hB hS1 => ?_)
  rw [ht] at hB
  have h1 := nxt H1 locs1 (cells + (G1.1.length - G.1.length)) (slots + (siz G1.1 - siz G.1)) ⟨hB, hS1, hl, hn, by omega, by omega, by omega, had⟩
  rw [List.map_append] at h1
  have e1 : (v.toList).map (cv ad) = (v.map (cv ad)).toList := by cases v <;> rfl
  rw [e1] at h1
  exact h1
end SND2

/-! the law: calls out of its body, its arguments, a case of it -/
abbrev lA (s : State) : Nat → Prop := fun q => s.heap.size ≤ q
abbrev ad1 (s : State) : Nat → Nat := fun i => s.heap.size + i
abbrev ad2 (s : State) : Nat → Nat := fun i => s.heap.size + 63 + i
theorem lx_ir (w : Int32) : IR w.toInt := ⟨Int32.le_toInt w, Int32.toInt_lt w⟩
def lnk (ix z : Nat) : Bool := lls.any (fun q => Nat.beq q.1 ix && Nat.beq q.2.1 z)
theorem lnk_ok {ix z : Nat} (h : lnk ix z = true) : Cond.methodLink R_law ix (md z).1 ∈ lw_tbl ∧ (md z).2.2.2.2.2.1 + 1 ≤ 10 ∧ 8 + ((md z).2.2.1 + 11) + (md z).2.2.2.2.2.2.1 ≤ 410 := by
  obtain ⟨q, hq, h2⟩ := List.any_eq_true.mp h
  rw [Bool.and_eq_true] at h2
  have hf := List.all_eq_true.mp lls_ok q hq
  simp only [chkLL, Bool.and_eq_true, decide_eq_true_eq] at hf
  rw [Nat.eq_of_beq_eq_true h2.1, Nat.eq_of_beq_eq_true h2.2] at hf
  exact ⟨List.mem_of_getElem? hf.1, Nat.le_of_ble_eq_true hf.2.1, Nat.le_of_ble_eq_true hf.2.2⟩
theorem tbl_in {w : Cond} (h : w ∈ tblG) : w ∈ lw_tbl := (List.mem_filter.mp h).1
theorem law_good (z : Nat) : GoodIn lw_tbl (wsm z) := by
  intro w hw
  have hg : w ∈ tblG := by
    rcases List.mem_cons.mp hw with rfl | h
    · exact (k_md z).1
    · exact h
  exact ⟨tbl_in hg, good_of_word (tblG_good hg)⟩
section LAW
variable {p : Program} {l : Launch} {e : Env} {s : State} {m : MethodId} {below : List Frame} {meth : Method} {c : Code} {b L : Nat} {xs : Nat → Int32} {D : va_G} {cA : ClassId} {H : Heap} {locs : List Loc} {cells slots : Nat} {Q : State → Prop} {pc : Nat} {ls : Array Slot}
def LCx (p : Program) (s : State) (m : MethodId) (meth : Method) (c : Code) (b L : Nat) (xs : Nat → Int32) (D : va_G) (cA : ClassId) : Prop := lw_At p s m meth c b L xs ∧ L ≤ 3584 ∧ va_K D kCls [(cA, .int)] s ∧ nestOk s
theorem e_call2 {st0 rest : List Value} {free : Addr → Prop} {mc ms : Nat} {w : Option Value} {B : State → Prop} {A A1 : Nat → Prop} {a : Array Value}
    (hr : va_Run p l e room_1 s m #[Value.ref b] below meth c H locs cells slots mc ms (F0 m pc ls st0) rest ((fun (_ : Array Value) st o t => (o = .returned w ∧ B t) ∧ va_F A1 st t) a) free) (hS : va_S A s.heap H locs) (hA : ∀ q, q < H.size → A1 q → A q) (hf : ∀ q, free q → A q)
    (kk : ∀ (t : State) (H1 : Heap) (locs1 : List Loc), t.heap = H1 → B t → (∀ q, q < H.size → ¬ A1 q → H1[q]? = H[q]?) → va_S A s.heap H1 locs1 → W p l e room_1 s m #[Value.ref b] below meth c H1 locs1 (cells + mc) (slots + ms) Q (F0 m (pc + 3) ls (w.toList ++ rest))) : W p l e room_1 s m #[Value.ref b] below meth c H locs cells slots Q (F0 m pc ls st0) := by
  intro T hT X
  obtain ⟨v, st₀, t, T', L, h0, X', hL, e1, e2, ⟨⟨hv, hb⟩, hz, hk⟩, st⟩ := hr T hT X
  cases hv
  rw [h0] at hz hk
  obtain ⟨t2, a1, b1⟩ := kk t T'.heap (locs ++ L) e1.symm hb (fun q h1 h2 => by rw [e1]; exact hk q h1 h2)
    ⟨Nat.le_trans hS.1 (by rw [e1]; exact hz), fun q h1 h2 => by rw [e1, hk q (Nat.lt_of_lt_of_le h1 hS.1) (fun z => h2 (hA q (Nat.lt_of_lt_of_le h1 hS.1) z))]; exact hS.2.1 q h1 h2, fun q hq => by
      rcases List.mem_append.mp hq with h | h
      · exact hS.2.2 q h
      · exact hf _ (hL q h)⟩ T' rfl X'
  exact ⟨t2, st t2 a1, b1⟩
theorem law_calls (hK : va_K D kCls [(cA, .int)] s) (hN : nestOk s) {z : Nat} {as : List AV} {G G1 : GM} {v : Option AV} {ad : Nat → Nat} {st0 rest : List Value} (hinj : ∀ i j, i < G1.1.length → j < G1.1.length → ad i = ad j → i = j) (hge : ∀ i, i < G.1.length → s.heap.size ≤ ad i) (had : ∀ i, G.1.length ≤ i → i < G1.1.length → ad i = H.size + (i - G.1.length)) (hP : va_P D kCls (wd cA ad G) H) (hS : va_S (lA s) s.heap H locs) (hM : Ctr l D z as G v G1)
    (hrun : ∀ free mc ms (Qc : Array Value → State → Outcome → State → Prop), Met l (md z).1 (wsm z) (rmm z (G1.1.length - G.1.length) (siz G1.1 - siz G.1)) (Pcm D cA ad H.size G as) Qc mc ms free → mc = G1.1.length - G.1.length → ms = siz G1.1 - siz G.1 → (∀ U : State, U.heap = H → s.WarmedH U.vm → Pcm D cA ad H.size G as (as.map (cv ad)).toArray U) →
      va_Run p l e room_1 s m #[Value.ref b] below meth c H locs cells slots mc ms (F0 m pc ls st0) rest (Qc (as.map (cv ad)).toArray) free)
    (nxt : ∀ (H1 : Heap) (locs1 : List Loc), va_P D kCls (wd cA ad G1) H1 → (∀ q, q < H.size → (∀ i, i < G.1.length → q ≠ ad i) → H1[q]? = H[q]?) → va_S (lA s) s.heap H1 locs1 → W p l e room_1 s m #[Value.ref b] below meth c H1 locs1 (cells + (G1.1.length - G.1.length)) (slots + (siz G1.1 - siz G.1)) Q (F0 m (pc + 3) ls ((v.map (cv ad)).toList ++ rest))) :
    W p l e room_1 s m #[Value.ref b] below meth c H locs cells slots Q (F0 m pc ls st0) := by
  have hMet := hM cA ad H.size hinj had
  have hr := hrun _ _ _ _ hMet rfl rfl (fun U hU hW => ⟨rfl, by rw [hU], by rw [hU]; exact hP, va_K.moved hW.alike hK, nestOk.warm hW hN⟩)
  have hfr : ∀ q, va_A (wd cA ad G) H.size q → lA s q := by
    intro q hq
    rcases hq with ⟨k, x, hx⟩ | hq
    · obtain ⟨d, e1, e2⟩ := wd_get hx
      have e3 : q = ad k := congrArg Prod.fst e2
      rw [e3]
      exact hge k (List.getElem?_eq_some_iff.mp e1).1
    · exact Nat.le_trans hS.1 hq
  refine e_call2 (a := (as.map (cv ad)).toArray) (w := v.map (cv ad)) (B := fun t => va_P D kCls (wd cA ad G1) t.heap) hr hS (fun q _ h => hfr q h) hfr (fun t H1 locs1 ht hB hk hS1 => ?_)
  rw [ht] at hB
  refine nxt H1 locs1 hB (fun q h1 h2 => hk q h1 (fun z => ?_)) hS1
  rcases z with ⟨k, x, hx⟩ | hq
  · obtain ⟨d, e1, e2⟩ := wd_get hx
    exact h2 k (List.getElem?_eq_some_iff.mp e1).1 (congrArg Prod.fst e2)
  · omega
/-- a call of a public method -/
theorem law_v (C : LCx p s m meth c b L xs D cA) {z ix n : Nat} (hlk : lnk ix z = true) (hkd : (md z).2.2.2.2.2.2.2.2 = 0) (hn : (md z).2.2.2.2.2.2.2.1 = n) {as : List AV} (hlen : as.length = n) {G G1 : GM} {v : Option AV} {ad : Nat → Nat} {rest : List Value} {sl : List (Option (Option Nat))} (hG0 : G.1[0]? = some (.inr ((md z).2.2.2.2.1, sl))) (hL : G1.1.length = G.1.length) (hs : siz G1.1 = siz G.1) (hinj : ∀ i j, i < G1.1.length → j < G1.1.length → ad i = ad j → i = j) (hge : ∀ i, i < G.1.length → s.heap.size ≤ ad i) (hP : va_P D kCls (wd cA ad G) H) (hS : va_S (lA s) s.heap H locs) (hM : Ctr l D z (vr 0 :: as) G v G1) (hc : cells ≤ 600000) (hs2 : slots ≤ 7302250) (hl : ls.size = 4) (hr8 : (rest.map fun v => v.category).sum ≤ 8) (hdec : decode code pc = .ok (.invokevirtual ix, 3))
    (nxt : ∀ (H1 : Heap) (locs1 : List Loc), va_P D kCls (wd cA ad G1) H1 → (∀ q, q < H.size → (∀ i, i < G.1.length → q ≠ ad i) → H1[q]? = H[q]?) → va_S (lA s) s.heap H1 locs1 → W p l e room_1 s m #[Value.ref b] below meth c H1 locs1 cells slots Q (F0 m (pc + 3) ls ((v.map (cv ad)).toList ++ rest))) :
    W p l e room_1 s m #[Value.ref b] below meth c H locs cells slots Q (F0 m pc ls ((as.map (cv ad)).reverse ++ .ref (ad 0) :: rest)) := by
  obtain ⟨⟨hx, hb, hr, hml, hown, hts, hX, hbl, hlocks, hgv⟩, hL5, hK, hN⟩ := C
  obtain ⟨k1, k2, k3⟩ := lnk_ok hlk
  obtain ⟨m1, m2, m3, m4, m5, m6⟩ := k_md z
  obtain ⟨m7, m8⟩ := m4 hkd
  have hci : (md z).2.2.2.2.1 < 10 := by
    obtain ⟨r0, h1, -⟩ := hP 0 _ (wd_at hG0)
    exact (List.getElem?_eq_some_iff.mp h1).1
  have hrec := va_recv hK hP (kCls_at _ hci) (wd_at hG0)
  have hnm : kNm (md z).2.2.2.2.1 = (md z).1.cls := kNm_own z
  rw [hnm] at hrec
  refine law_calls hK hN (z := z) (rest := rest) hinj hge (fun i h1 h2 => absurd h2 (by omega)) hP hS hM (fun free mc ms Qc hMet emc ems hPc => ?_) (fun H1 locs1 g1 g2 g3 => ?_)
  · have hz1 : mc = 0 := by omega
    have hz2 : ms = 0 := by omega
    refine va_runV (n := (md z).2.2.2.2.2.2.2.1) (C := (md z).1.cls) (b := ad 0) (As := as.map (cv ad)) ⟨hx, hb, hml, hown, hts⟩ hMet ⟨callB_of _ hts (law_good z) rfl emc.symm ems.symm (hts _ (tbl_in m2)) (hts _ k1) m3 ⟨k2, k3⟩, hts _ (tbl_in m7), hts _ (tbl_in m8)⟩ ⟨Pcm_blind _ _ _ _ _ _, hrec, hPc⟩ rfl ?_ hl rfl (lv_room hr8) hdec ⟨?_, ?_⟩
    · rw [List.length_map, hlen, hn]
    · rw [hz1]; exact hc
    · rw [hz2]; exact hs2
  · have := nxt H1 locs1 g1 g2 g3
    rw [show G1.1.length - G.1.length = 0 by omega, show siz G1.1 - siz G.1 = 0 by omega]
    exact this
/-- a maker's call -/
theorem law_i (C : LCx p s m meth c b L xs D cA) {z ix : Nat} (hlk : lnk ix z = true) (hkd : (md z).2.2.2.2.2.2.2.2 = 2) (hn : (md z).2.2.2.2.2.2.2.1 = 0) {G G1 : GM} {ad : Nat → Nat} {rest : List Value} (hinj : ∀ i j, i < G1.1.length → j < G1.1.length → ad i = ad j → i = j) (hge : ∀ i, i < G.1.length → s.heap.size ≤ ad i) (had : ∀ i, G.1.length ≤ i → i < G1.1.length → ad i = H.size + (i - G.1.length)) (hP : va_P D kCls (wd cA ad G) H) (hS : va_S (lA s) s.heap H locs) (hM : Ctr l D z [vr 0] G none G1) (hc : cells + (G1.1.length - G.1.length) ≤ 600000) (hs2 : slots + (siz G1.1 - siz G.1) ≤ 7302250) (hl : ls.size = 4) (hr8 : (rest.map fun v => v.category).sum ≤ 8) (hdec : decode code pc = .ok (.invokespecial ix, 3))
    (nxt : ∀ (H1 : Heap) (locs1 : List Loc), va_P D kCls (wd cA ad G1) H1 → (∀ q, q < H.size → (∀ i, i < G.1.length → q ≠ ad i) → H1[q]? = H[q]?) → va_S (lA s) s.heap H1 locs1 → W p l e room_1 s m #[Value.ref b] below meth c H1 locs1 (cells + (G1.1.length - G.1.length)) (slots + (siz G1.1 - siz G.1)) Q (F0 m (pc + 3) ls rest)) :
    W p l e room_1 s m #[Value.ref b] below meth c H locs cells slots Q (F0 m pc ls (.ref (ad 0) :: rest)) := by
  obtain ⟨⟨hx, hb, hr, hml, hown, hts, hX, hbl, hlocks, hgv⟩, hL5, hK, hN⟩ := C
  obtain ⟨k1, k2, k3⟩ := lnk_ok hlk
  obtain ⟨m1, m2, m3, m4, m5, m6⟩ := k_md z
  obtain ⟨m7, m8, m9⟩ := m6 hkd
  refine law_calls hK hN (z := z) (rest := rest) hinj hge had hP hS hM (fun free mc ms Qc hMet emc ems hPc => ?_) (fun H1 locs1 g1 g2 g3 => nxt H1 locs1 g1 g2 g3)
  refine va_runI (n := (md z).2.2.2.2.2.2.2.1) (b := ad 0) (As := []) ⟨hx, hb, hml, hown, hts⟩ hMet ⟨callB_of _ hts (law_good z) (by unfold wsm; rw [m9]) emc.symm ems.symm (hts _ (tbl_in m2)) (hts _ k1) m3 ⟨k2, k3⟩, m8, hts _ (tbl_in m7)⟩ ⟨Pcm_blind _ _ _ _ _ _, hPc⟩ rfl hn.symm hl rfl (lv_room hr8) hdec ⟨by rw [emc]; exact hc, by rw [ems]; exact hs2⟩
/-- a new cell -/
theorem law_new (C : LCx p s m meth c b L xs D cA) {k ix h : Nat} (hk : k < 10) (w1 : Cond.classLink R_law ix (kNm k) ∈ lw_tbl) (w3 : Cond.initialized (kNm k) ∈ lw_tbl) (hh : H.size = h) (hS : va_S (lA s) s.heap H locs) {rest : List Value} (hc : cells + 1 ≤ 600000) (hs2 : slots + kN k ≤ 7302250) (hdec : decode code pc = .ok (.new ix, 3)) {ad : Nat → Nat} (had : ad 0 = h)
    (nxt : ∀ H1 : Heap, va_P D kCls (wd cA ad (([.inr (k, kDef k)], fun _ _ => 0) : GM)) H1 → H1.size = h + 1 → (∀ q, q < h → H1[q]? = H[q]?) → va_S (lA s) s.heap H1 locs → W p l e room_1 s m #[Value.ref b] below meth c H1 locs (cells + 1) (slots + kN k) Q (F0 m (pc + 3) ls (.ref (ad 0) :: rest))) :
    W p l e room_1 s m #[Value.ref b] below meth c H locs cells slots Q (F0 m pc ls rest) := by
  obtain ⟨⟨hx, hb, hr, hml, hown, hts, hX, hbl, hlocks, hgv⟩, hL5, hK, hN⟩ := C
  have hdk := List.all_eq_true.mp kDef_ok k (List.mem_range.mpr hk)
  simp only [Bool.and_eq_true, decide_eq_true_eq] at hdk
  obtain ⟨hkl, hkd⟩ := hdk
  have hins : Cond.instantiable (kNm k) (kN k) ∈ lw_tbl := List.mem_of_getElem? (of_decide_eq_true (List.all_eq_true.mp inst_ok k (List.mem_range.mpr hk)))
  have hKn := hK.1 k _ (kCls_at k hk)
  refine W.newcK (g := F0 m pc ls rest) hx hb hown (hts _ w1) (hts _ hins) (hts _ w3) rfl hdec hc hs2 hKn.2.1 hh fun H1 kC hkC e1 z1 o1 => ?_
  have h9 := nxt H1 (fun i q hq => by
    obtain ⟨d, hd, rfl⟩ := wd_get hq
    have hi : i = 0 := by
      have := (List.getElem?_eq_some_iff.mp hd).1
      have h1 : i < 1 := this
      omega
    subst hi
    have hd' : some (Sum.inr (k, kDef k) : Nat ⊕ (Nat × List (Option (Option Nat)))) = some d := hd
    cases hd'
    refine ⟨_, kCls_at k hk, ?_⟩
    show t_OB (ad 0) (D.1 k) (kN k) (D.2 k) H1 _
    rw [had]
    refine (u_born (kTy k) hts (fun w hw => tbl_in (cls_in k hk w hw)) hKn hkC e1 (kTys k hk)).to fun j hj => ?_
    have h4 := List.all_eq_true.mp hkd j (List.mem_range.mpr hj)
    show defaultValue (kTy k j) = ((kDef k).mapIdx (cvs ad (fun _ _ => 0) 0)).getD j .null
    rw [List.getD_eq_getElem?_getD, List.getElem?_mapIdx]
    revert h4
    cases hd2 : (kDef k)[j]? with
    | none => intro h4; cases h4
    | some o =>
      match o with
      | none =>
        intro h4
        rw [of_decide_eq_true h4]
        rfl
      | some none =>
        intro h4
        rw [of_decide_eq_true h4]
        rfl
      | some (some r) => intro h4; cases h4) z1 o1 ⟨Nat.le_trans hS.1 (by omega), fun q h1 h2 => by rw [o1 q (by have := hS.1; omega)]; exact hS.2.1 q h1 h2, hS.2.2⟩
  rw [had] at h9
  exact h9
/-- the arguments -/
def dI (pc : Nat) (ins : Instr) (len : Nat) : Bool := decide (decode code pc = .ok (ins, len))
theorem dI_ok {pc : Nat} {ins : Instr} {len : Nat} (h : dI pc ins len = true) : decode code pc = .ok (ins, len) := of_decide_eq_true h
def chkA : Nat → Nat → Nat → Bool
  | 0, _, _ => true
  | n + 1, k, pc => dI pc (.aload_n 0) 1 && (dI (pc + 1) (.iload_n 3) 1 && (bif Nat.ble k 5 then dI (pc + 2) (.iconst (k : Int)) 1 && (dI (pc + 2 + 1) .iadd 1 && (dI (pc + 2 + 1 + 1) .iaload 1 && chkA n (k + 1) (pc + 2 + 1 + 1 + 1))) else dI (pc + 2) (.bipush (k : Int)) 2 && (dI (pc + 2 + 2) .iadd 1 && (dI (pc + 2 + 2 + 1) .iaload 1 && chkA n (k + 1) (pc + 2 + 2 + 1 + 1)))))
def lenA : Nat → Nat → Nat → Nat
  | 0, _, pc => pc
  | n + 1, k, pc => bif Nat.ble k 5 then lenA n (k + 1) (pc + 2 + 1 + 1 + 1) else lenA n (k + 1) (pc + 2 + 2 + 1 + 1)
def argl (xs : Nat → Int32) (i : Nat) : Nat → Nat → List AV
  | 0, _ => []
  | n + 1, k => vi (xs (i + k)).toInt :: argl xs i n (k + 1)
theorem argl_len (xs : Nat → Int32) (i : Nat) : ∀ n k, (argl xs i n k).length = n
  | 0, _ => rfl
  | n + 1, k => by show (argl xs i n (k + 1)).length + 1 = n + 1; rw [argl_len xs i n (k + 1)]
theorem argl_cats (xs : Nat → Int32) (i : Nat) : ∀ n k, cats (argl xs i n k) = n
  | 0, _ => rfl
  | n + 1, k => by
    show 1 + cats (argl xs i n (k + 1)) = n + 1
    rw [argl_cats xs i n (k + 1)]; omega
theorem L_args (C : LCx p s m meth c b L xs D cA) (hS : va_S (lA s) s.heap H locs) {i : Nat} (hi : i + 7 ≤ L) (h0 : ls[0]? = some (.val (.ref b))) (h3 : ls[3]? = some (.val (.int (nI i)))) {ad : Nat → Nat} : ∀ (n k pc : Nat) (rest : List Value), k + n ≤ 7 → chkA n k pc = true → W p l e room_1 s m #[Value.ref b] below meth c H locs cells slots Q (F0 m (lenA n k pc) ls (((argl xs i n k).map (cv ad)).reverse ++ rest)) → W p l e room_1 s m #[Value.ref b] below meth c H locs cells slots Q (F0 m pc ls rest) := by
  intro n
  induction n with
  | zero => intro k pc rest _ _ kk; exact kk
  | succ n ih =>
    intro k pc rest hk hc kk
    have C' := C
    obtain ⟨⟨hx, hb, hr, hml, hown, hts, hX, hbl, hlocks, hgv⟩, hL5, hK, hN⟩ := C
    have hbA : ¬ lA s b := Nat.not_le.mpr hbl
    have hkk : W p l e room_1 s m #[Value.ref b] below meth c H locs cells slots Q (F0 m (lenA (n + 1) k pc) ls (((argl xs i n (k + 1)).map (cv ad)).reverse ++ (.int (xs (i + k)) :: rest))) := by
      have e1 : ((argl xs i (n + 1) k).map (cv ad)).reverse ++ rest = ((argl xs i n (k + 1)).map (cv ad)).reverse ++ (.int (xs (i + k)) :: rest) := by
        show (cv ad (vi (xs (i + k)).toInt) :: (argl xs i n (k + 1)).map (cv ad)).reverse ++ rest = _
        rw [show cv ad (vi (xs (i + k)).toInt) = .int (xs (i + k)) from congrArg Value.int (Int32.ofInt_toInt _)]
        simp
      rw [e1] at kk; exact kk
    have hin : vp_in (nI (i + k)) L := vp_in_nI (by omega) (by omega)
    have hcl : (nI (i + k)).toNatClampNeg = i + k := nI_clamp (by omega)
    unfold chkA at hc
    unfold lenA at hkk
    simp only [Bool.and_eq_true] at hc
    obtain ⟨c1, c2, c3⟩ := hc
    refine lv_aload_n hx hb (dI_ok c1) rfl h0 (lv_iload_n hx hb (dI_ok c2) rfl h3 ?_)
    by_cases g : Nat.ble k 5 = true
    · rw [g] at c3 hkk
      simp only [cond_true, Bool.and_eq_true] at c3 hkk
      obtain ⟨c4, c5, c6, c7⟩ := c3
      refine lv_iconst (v := nI k) hx hb (dI_ok c4) (by show Int32.ofInt (k : Int) = Int32.ofNat k; rw [Int32.ofInt_eq_ofNat]) (lv_iadd hx hb (dI_ok c5) ?_)
      rw [nI_add]
      refine va_sld hx hb hX hbl hbA hS hin (dI_ok c6) ?_
      rw [hcl]
      exact ih (k + 1) _ _ (by omega) c7 hkk
    · have g' : Nat.ble k 5 = false := by
        cases hb : Nat.ble k 5 with
        | true => exact absurd hb g
        | false => rfl
      have k6 : k = 6 := by
        have : ¬ k ≤ 5 := fun z => g (Nat.ble_eq_true_of_le z)
        omega
      rw [g'] at c3 hkk
      simp only [cond_false, Bool.and_eq_true] at c3 hkk
      obtain ⟨c4, c5, c6, c7⟩ := c3
      refine lv_bipush (v := nI k) hx hb (dI_ok c4) (by rw [k6]; decide +kernel) (lv_iadd hx hb (dI_ok c5) ?_)
      rw [nI_add]
      refine va_sld hx hb hX hbl hbA hS hin (dI_ok c6) ?_
      rw [hcl]
      exact ih (k + 1) _ _ (by omega) c7 hkk
def LW (D : va_G) (cA : ClassId) (s : State) (S : ST) (H : Heap) (locs : List Loc) : Prop := ∃ q M1 M2, RC S M1 ∧ RM S M2 ∧ va_P D kCls (wd cA (ad1 s) (LC, M1)) H ∧ va_P D kCls (wd cA (ad2 s) (LM q, M2)) H ∧ va_S (lA s) s.heap H locs
def chkCase (pc n ix1 z1 m1 ix2 z2 m2 : Nat) (off : Int) : Bool :=
  dI pc (.aload_n 1) 1 && (chkA n 1 (pc + 1) && (dI (lenA n 1 (pc + 1)) (.invokevirtual ix1) 3 && (dI (lenA n 1 (pc + 1) + 3) (.aload_n 2) 1 && (chkA n 1 (lenA n 1 (pc + 1) + 3 + 1) && (dI (lenA n 1 (lenA n 1 (pc + 1) + 3 + 1)) (.invokevirtual ix2) 3 && (dI (lenA n 1 (lenA n 1 (pc + 1) + 3 + 1) + 3) (.if_icmp .eq off) 3 && (decide (((lenA n 1 (lenA n 1 (pc + 1) + 3 + 1) + 3 : Nat) : Int) + off = ((2382 : Nat) : Int)) &&
  (lnk ix1 z1 && (lnk ix2 z2 && (Nat.beq (md z1).2.2.2.2.2.2.2.2 0 && (Nat.beq (md z2).2.2.2.2.2.2.2.2 0 && (Nat.beq (md z1).2.2.2.2.2.2.2.1 n && (Nat.beq (md z2).2.2.2.2.2.2.2.1 n && (Nat.beq (md z1).2.2.2.2.1 8 && (Nat.beq (md z2).2.2.2.2.1 9 && (Nat.beq m1 (md z1).2.2.1 && (Nat.beq m2 (md z2).2.2.1 && (Nat.ble (n + 1) m1 && (Nat.ble (n + 1) m2 && Nat.ble n 6)))))))))))))))))))
def lGo (p : Program) (l : Launch) (e : Env) (s : State) (m : MethodId) (below : List Frame) (meth : Method) (c : Code) (b : Nat) (D : va_G) (cA : ClassId) (i pc : Nat) : Prop :=
  ∀ (S : ST) (H : Heap) (locs : List Loc) (ls : Array Slot) (cells slots : Nat) (Q : State → Prop), cells ≤ 600000 → slots ≤ 7302250 → SOK S → LW D cA s S H locs → lv_has ls 4 [(0, .ref b), (1, .ref (ad1 s 0)), (2, .ref (ad2 s 0)), (3, .int (nI i))] →
    (∀ S' H1 locs1, SOK S' → LW D cA s S' H1 locs1 → W p l e room_1 s m #[Value.ref b] below meth c H1 locs1 cells slots Q (F0 m 2382 ls [])) → W p l e room_1 s m #[Value.ref b] below meth c H locs cells slots Q (F0 m pc ls [])
theorem siz_LM (q q' : Option Nat) : siz (LM q) = siz (LM q') := rfl
theorem law_case (C : LCx p s m meth c b L xs D cA) {i : Nat} (hi : i + 7 ≤ L) {z1 m1 z2 m2 pc n ix1 ix2 : Nat} {off : Int} (hsim : SIM z1 m1 z2 m2 (argl xs i n 1)) (hck : chkCase pc n ix1 z1 m1 ix2 z2 m2 off = true) : lGo p l e s m below meth c b D cA i pc := by
  intro S H locs ls cells slots Q hcl hsl hS hLW hl kk
  unfold chkCase at hck
  simp only [Bool.and_eq_true] at hck
  obtain ⟨a1, a2, a3, a4, a5, a6, a7, a8, b1, b2, b3, b4, b5, b6, b7, b8, c1, c2, c3, c4, c5⟩ := hck
  have C' := C
  obtain ⟨⟨hx, hb, hr, hml, hown, hts, hX, hbl, hlocks, hgv⟩, hL5, hK, hN⟩ := C
  obtain ⟨q, M1, M2, hRC, hRM, hP1, hP2, hSS⟩ := hLW
  obtain ⟨r, S', hS', hC, hM⟩ := hsim S hS
  obtain ⟨n1, rv1, G1', hex1, M1', rfl, rfl, hRC'⟩ := hC M1 hRC
  obtain ⟨n2, rv2, G2', hex2, q', M2', rfl, rfl, hRM'⟩ := hM q M2 hRM
  have c5' := Nat.le_of_ble_eq_true c5
  have hct : cats (vr 0 :: argl xs i n 1) = n + 1 := by
    show 1 + cats (argl xs i n 1) = n + 1
    rw [argl_cats]; omega
  have K1 : Ctr l D z1 (vr 0 :: argl xs i n 1) (LC, M1) (some (vi r)) (LC, M1') := ctr l D (Nat.eq_of_beq_eq_true c1) (by rw [hct]; exact Nat.le_of_ble_eq_true c3) hex1
  have K2 : Ctr l D z2 (vr 0 :: argl xs i n 1) (LM q, M2) (some (vi r)) (LM q', M2') := ctr l D (Nat.eq_of_beq_eq_true c2) (by rw [hct]; exact Nat.le_of_ble_eq_true c4) hex2
  have g0 := lv_at hl 0 rfl
  have g1 := lv_at hl 1 rfl
  have g2 := lv_at hl 2 rfl
  have g3 := lv_at hl 3 rfl
  refine lv_aload_n hx hb (dI_ok a1) rfl g1 ?_
  refine L_args C' hSS hi g0 g3 (ad := ad1 s) n 1 (pc + 1) _ (by omega) a2 ?_
  have q1 : (((LC, M1) : GM).1)[0]? = some (.inr ((md z1).2.2.2.2.1, [some (some 1), some (some 8), some (some 15), none, some (some 22), some (some 29), some (some 32), none, some (some 34), some (some 36), some (some 41), some (some 42), some (some 43), some (some 45), some (some 47), some (some 50)])) := by rw [Nat.eq_of_beq_eq_true b7]; rfl
  have q2 : ((LC, M1') : GM).1.length = ((LC, M1) : GM).1.length := rfl
  have q3 : siz ((LC, M1') : GM).1 = siz ((LC, M1) : GM).1 := rfl
  have q4 : ∀ i j, i < ((LC, M1') : GM).1.length → j < ((LC, M1') : GM).1.length → ad1 s i = ad1 s j → i = j := (fun i j _ _ h => by have h' : s.heap.size + i = s.heap.size + j := h; omega)
  have q5 : ∀ i, i < ((LC, M1) : GM).1.length → s.heap.size ≤ ad1 s i := (fun i _ => Nat.le_add_right _ _)
  have q6 := argl_len xs i n 1
  have q7 := law_v (p := p) (l := l) (e := e) (below := below) (meth := meth) (Q := Q) (H := H) (locs := locs) (ls := ls) (cells := cells) (slots := slots) (pc := lenA n 1 (pc + 1)) (rest := []) C' b1 (Nat.eq_of_beq_eq_true b3) (Nat.eq_of_beq_eq_true b5) q6 q1 q2 q3 q4 q5 hP1 hSS K1 hcl hsl hl.1 (Nat.zero_le _) (dI_ok a3)
  refine q7 (fun H1 locs1 hP1' hk1 hS1 => ?_)
  have hP2' : va_P D kCls (wd cA (ad2 s) (LM q, M2)) H1 := hP2.kept (fun k x hx2 => by
    obtain ⟨d, e1, rfl⟩ := wd_get hx2
    refine hk1 _ (hP2 k _ hx2).lt (fun j hj h => ?_)
    have hj' : j < 63 := hj
    have h' : s.heap.size + 63 + k = s.heap.size + j := h
    omega)
  refine lv_aload_n hx hb (dI_ok a4) rfl g2 ?_
  refine L_args C' hS1 hi g0 g3 (ad := ad2 s) n 1 _ _ (by omega) a5 ?_
  have u1 : (((LM q, M2) : GM).1)[0]? = some (.inr ((md z2).2.2.2.2.1, [some (some 1), some (some 2), none, none, none, some (some 3), some (some 4), some (some 5), none, some (some 6), none, none, none, none, none, none, none, none, none, some (some 7), some (some 8), none, none, none, none, some (some 9), some (some 10), some (some 11), some (some 12), some (some 13), none, none, none, some q, some (some 14), some (some 15), none, some (some 16), some (some 17), some (some 18), some (some 19), some (some 20), some (some 21), some (some 22), none, none, some (some 23), some (some 24), none, some (some 25), some (some 26)])) := by rw [Nat.eq_of_beq_eq_true b8]; rfl
  have u2 : ((LM q', M2') : GM).1.length = ((LM q, M2) : GM).1.length := rfl
  have u3 : siz ((LM q', M2') : GM).1 = siz ((LM q, M2) : GM).1 := siz_LM q' q
  have u4 : ∀ i j, i < ((LM q', M2') : GM).1.length → j < ((LM q', M2') : GM).1.length → ad2 s i = ad2 s j → i = j := (fun i j _ _ h => by have h' : s.heap.size + 63 + i = s.heap.size + 63 + j := h; omega)
  have u5 : ∀ i, i < ((LM q, M2) : GM).1.length → s.heap.size ≤ ad2 s i := (fun i _ => by show s.heap.size ≤ s.heap.size + 63 + i; omega)
  have u6 : (([Value.int (Int32.ofInt r)]).map fun v => v.category).sum ≤ 8 := by show 1 ≤ 8; decide
  have u7 := law_v (p := p) (l := l) (e := e) (below := below) (meth := meth) (Q := Q) (H := H1) (locs := locs1) (ls := ls) (cells := cells) (slots := slots) (pc := lenA n 1 (lenA n 1 (pc + 1) + 3 + 1)) (rest := [.int (Int32.ofInt r)]) C' b2 (Nat.eq_of_beq_eq_true b4) (Nat.eq_of_beq_eq_true b6) q6 u1 u2 u3 u4 u5 hP2' hS1 K2 hcl hsl hl.1 u6 (dI_ok a6)
  refine u7 (fun H2 locs2 hP2'' hk2 hS2 => ?_)
  have hP1'' : va_P D kCls (wd cA (ad1 s) (LC, M1')) H2 := hP1'.kept (fun k x hx2 => by
    obtain ⟨d, e1, rfl⟩ := wd_get hx2
    refine hk2 _ (hP1' k _ hx2).lt (fun j hj h => ?_)
    have hk' : k < 63 := (List.getElem?_eq_some_iff.mp e1).1
    have h' : s.heap.size + k = s.heap.size + 63 + j := h
    omega)
  refine lv_icmp_eq (tgt := 2382) hx hb (dI_ok a7) (of_decide_eq_true a8) (fun _ => ?_) (fun z => absurd rfl z)
  exact kk S' H2 locs2 hS' ⟨q', M1', M2', hRC', hRM', hP1'', hP2'', hS2⟩
end LAW

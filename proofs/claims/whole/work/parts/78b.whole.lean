/-! the law, from its entry -/
set_option maxHeartbeats 4000000 in
theorem whole_start {p : Program} {e : Env} {s : State} {m : MethodId} {below : List Frame} {meth : Method} {c : Code} (l : Launch) (hflags : l.flags = flags0) {b L : Nat} {xs : Nat → Int32} (hL : L ≤ 3584) (C0 : lw_At p s m meth c b L xs) : W p l e room_1 s m #[Value.ref b] below meth c s.heap [] 0 0 (lw_Z below #[Value.ref b] s) (entryFrame m ([Value.ref b] : List Value).toArray 4) := by
  obtain ⟨hx, hb, hr, hml, hown, hts, hX, hbl, hlocks, hgv⟩ := id C0
  obtain ⟨D, cA, hK, hN⟩ := law_world hts
  have C : LCx p s m meth c b L xs D cA := ⟨C0, hL, hK, hN⟩
  have hS : va_S (lA s) s.heap s.heap [] := va_S.rf
  have hl := lv_entry ([.ref b]) (n := 4) (Nat.le_of_ble_eq_true rfl)
  rw [lg_entry_eq]
  generalize (lg_sl ([.ref b]) ++ List.replicate (4 - (lg_sl ([.ref b])).length) Slot.unset).toArray = ls at hl ⊢
  have hl : lv_has ls 4 [(0, .ref b)] := hl
  obtain ⟨M1, hex1, hRC⟩ := mk9
  obtain ⟨M2, hex2, hRM⟩ := mk10
  have K1 : Ctr l D i9_init [vr 0] G9 none (LC, M1) := ctr l D (z := i9_init) (mL := 1) rfl (by decide) hex1
  have K2 : Ctr l D i10_init [vr 0] G10 none (LM none, M2) := ctr l D (z := i10_init) (mL := 1) rfl (by decide) hex2
  have sC := siz_C
  have sM := siz_M
  have eC : ((LC, M1) : GM).1.length - (G9 : GM).1.length = 62 := rfl
  have eM : ((LM none, M2) : GM).1.length - (G10 : GM).1.length = 26 := rfl
  have in9 : Cond.initialized (kNm 8) ∈ lw_tbl := tbl_in (k_md i9_init).2.1
  have in10 : Cond.initialized (kNm 9) ∈ lw_tbl := tbl_in (k_md i10_init).2.1
  have k8 : kN 8 = 16 := rfl
  have k9 : kN 9 = 51 := rfl
  -- the class
  refine law_new C (k := 8) (ix := 7) (h := s.heap.size) (ad := ad1 s) (by decide) new9_in in9 rfl hS (by omega) (by omega) d_law_0 rfl (fun H1 hP1 hz1 ho1 hS1 => ?_)
  refine lv_dup hx hb d_law_3 rfl ?_
  have x1 : ∀ i j, i < ((LC, M1) : GM).1.length → j < ((LC, M1) : GM).1.length → ad1 s i = ad1 s j → i = j := fun i j _ _ h => by have h' : s.heap.size + i = s.heap.size + j := h; omega
  have x2 : ∀ i, i < (G9 : GM).1.length → s.heap.size ≤ ad1 s i := fun i _ => Nat.le_add_right _ _
  have x3 : ∀ i, (G9 : GM).1.length ≤ i → i < ((LC, M1) : GM).1.length → ad1 s i = H1.size + (i - (G9 : GM).1.length) := fun i h1 _ => by
    have h1' : 1 ≤ i := h1
    show s.heap.size + i = H1.size + (i - 1)
    omega
  have x4 : (0 + 1) + (((LC, M1) : GM).1.length - (G9 : GM).1.length) ≤ 600000 := by rw [eC]; decide
  have x5 : (0 + kN 8) + (siz ((LC, M1) : GM).1 - siz (G9 : GM).1) ≤ 7302250 := by
    have : siz ((LC, M1) : GM).1 ≤ 20000 := sC
    omega
  have n1 := law_i (p := p) (l := l) (e := e) (below := below) (meth := meth) (Q := lw_Z below #[Value.ref b] s) (H := H1) (locs := []) (ls := ls) (pc := 0 + 3 + 1) (rest := [.ref (ad1 s 0)]) (z := i9_init) (ix := 9) C (by decide +kernel) rfl rfl x1 x2 x3 hP1 hS1 K1 x4 x5 hl.1 (by show 1 ≤ 8; decide) d_law_4
  refine n1 (fun H2 locs2 hP2 hk2 hS2 => ?_)
  rw [eC]
  have hz2 : ∀ {g : JFrame} {Q : State → Prop} {slots : Nat}, (H2.size = s.heap.size + 63 → W p l e room_1 s m #[Value.ref b] below meth c H2 locs2 (0 + 1 + 62) slots Q g) → W p l e room_1 s m #[Value.ref b] below meth c H2 locs2 (0 + 1 + 62) slots Q g := by
    intro g Q slots k
    refine W_sz (fun hu => k ?_)
    obtain ⟨d, hd⟩ : ∃ d, ((LC, M1) : GM).1[62]? = some d := ⟨_, rfl⟩
    have h2 : ad1 s 62 < H2.size := (hP2 _ _ (wd_at hd)).lt
    have h2' : s.heap.size + 62 < H2.size := h2
    omega
  refine hz2 (fun hsz2 => ?_)
  refine lv_astore_n (lv' := [(1, .ref (ad1 s 0)), (0, .ref b)]) hx hb d_law_7 rfl hl (by decide) rfl (fun ls hl => ?_)
  -- the reference
  refine law_new C (k := 9) (ix := 10) (h := s.heap.size + 63) (ad := ad2 s) (by decide) new10_in in10 hsz2 hS2 (by omega) (by have : siz ((LC, M1) : GM).1 ≤ 20000 := sC; omega) d_law_8 rfl (fun H3 hP3 hz3 ho3 hS3 => ?_)
  refine lv_dup hx hb d_law_11 rfl ?_
  have y1 : ∀ i j, i < ((LM none, M2) : GM).1.length → j < ((LM none, M2) : GM).1.length → ad2 s i = ad2 s j → i = j := fun i j _ _ h => by have h' : s.heap.size + 63 + i = s.heap.size + 63 + j := h; omega
  have y2 : ∀ i, i < (G10 : GM).1.length → s.heap.size ≤ ad2 s i := fun i _ => by show s.heap.size ≤ s.heap.size + 63 + i; omega
  have y3 : ∀ i, (G10 : GM).1.length ≤ i → i < ((LM none, M2) : GM).1.length → ad2 s i = H3.size + (i - (G10 : GM).1.length) := fun i h1 _ => by
    have h1' : 1 ≤ i := h1
    show s.heap.size + 63 + i = H3.size + (i - 1)
    omega
  have y4 : (0 + 1 + 62 + 1) + (((LM none, M2) : GM).1.length - (G10 : GM).1.length) ≤ 600000 := by rw [eM]; decide
  have y5 : (0 + kN 8 + (siz ((LC, M1) : GM).1 - siz (G9 : GM).1) + kN 9) + (siz ((LM none, M2) : GM).1 - siz (G10 : GM).1) ≤ 7302250 := by
    have : siz ((LC, M1) : GM).1 ≤ 20000 := sC
    have : siz ((LM none, M2) : GM).1 ≤ 20000 := sM
    omega
  have n2 := law_i (p := p) (l := l) (e := e) (below := below) (meth := meth) (Q := lw_Z below #[Value.ref b] s) (H := H3) (locs := locs2) (ls := ls) (pc := 0 + 3 + 1 + 3 + 1 + 3 + 1) (rest := [.ref (ad2 s 0)]) (z := i10_init) (ix := 12) C (by decide +kernel) rfl rfl y1 y2 y3 hP3 hS3 K2 y4 y5 hl.1 (by show 1 ≤ 8; decide) d_law_12
  refine n2 (fun H4 locs4 hP4 hk4 hS4 => ?_)
  have hP13 : va_P D kCls (wd cA (ad1 s) (LC, M1)) H3 := hP2.kept (fun k x hx2 => ho3 _ (by rw [← hsz2]; exact (hP2 k _ hx2).lt))
  have hP14 : va_P D kCls (wd cA (ad1 s) (LC, M1)) H4 := hP13.kept (fun k x hx2 => by
    obtain ⟨d, e1, rfl⟩ := wd_get hx2
    refine hk4 _ (hP13 k _ hx2).lt (fun j hj h => ?_)
    have hk' : k < 63 := (List.getElem?_eq_some_iff.mp e1).1
    have h' : s.heap.size + k = s.heap.size + 63 + j := h
    omega)
  refine lv_astore_n (lv' := [(2, .ref (ad2 s 0)), (1, .ref (ad1 s 0)), (0, .ref b)]) hx hb d_law_15 rfl hl (by decide) rfl (fun ls hl => ?_)
  refine lv_iconst (v := 0) hx hb d_law_16 (by decide) ?_
  refine lv_istore_n (lv' := [(3, .int 0), (2, .ref (ad2 s 0)), (1, .ref (ad1 s 0)), (0, .ref b)]) hx hb d_law_17 rfl hl (by decide) rfl (fun ls hl => ?_)
  exact law_loop C y4 y5 (L + 8) 0 S0 H4 locs4 ls (by omega) (by omega) S0_ok ⟨none, M1, M2, hRC, hRM, hP14, hP4, hS4⟩ (lv_sub hl [3, 2, 1, 0] rfl)

theorem swt_in (d : Nat) : ∀ (sw : List (Int × Nat)) (lo : Int), (∀ (j : Nat) (q : Int × Nat), sw[j]? = some q → q.1 = lo + (j : Int)) → ∀ (j : Nat) (q : Int × Nat), sw[j]? = some q → swt (lo + (j : Int)) sw d = q.2
  | [], _, _, j, q, h => by cases h
  | (v, t) :: r, lo, hs, j, q, h => by
    have h0 : v = lo + ((0 : Nat) : Int) := hs 0 (v, t) rfl
    match j, h with
    | 0, h =>
      cases h
      show (if lo + ((0 : Nat) : Int) = v then t else _) = t
      rw [if_pos h0.symm]
    | j + 1, h =>
      show (if lo + ((j + 1 : Nat) : Int) = v then t else swt _ r d) = q.2
      rw [if_neg (by omega)]
      have h2 := swt_in d r (lo + 1) (fun j q hj => by have := hs (j + 1) q hj; omega) j q h
      rw [show lo + ((j + 1 : Nat) : Int) = lo + 1 + (j : Int) by omega]
      exact h2
theorem swt_out (w : Int) (d : Nat) : ∀ sw : List (Int × Nat), (∀ q ∈ sw, w ≠ q.1) → swt w sw d = d
  | [], _ => rfl
  | (v, t) :: r, h => by
    show (if w = v then t else swt w r d) = d
    rw [if_neg (h (v, t) List.mem_cons_self)]
    exact swt_out w d r fun q hq => h q (List.mem_cons_of_mem _ hq)
theorem swt_look (pc : Nat) (w dflt : Int) (d : Nat) (hd : (pc : Int) + dflt = (d : Int)) : ∀ (ps : List (Int × Int)) (sw : List (Int × Nat)), ps.map (fun q => (q.1, (pc : Int) + q.2)) = sw.map (fun q => (q.1, (q.2 : Int))) → (pc : Int) + Op.lookupswitch.offset ps dflt w = ((swt w sw d : Nat) : Int)
  | [], [], _ => hd
  | [], _ :: _, h => by cases h
  | _ :: _, [], h => by cases h
  | (a, o) :: ps, (v, t) :: sw, h => by
    simp only [List.map_cons, List.cons.injEq, Prod.mk.injEq] at h
    obtain ⟨⟨rfl, h2⟩, h3⟩ := h
    rw [Op.lookupswitch.offset_cons]
    show _ = ((if w = a then t else swt w sw d : Nat) : Int)
    by_cases hw : a = w
    · rw [if_pos hw, if_pos hw.symm]; exact h2
    · rw [if_neg hw, if_neg (fun q => hw q.symm)]
      exact swt_look pc w dflt d hd ps sw h3
theorem c_mx (x y : Int) : (if Int32.ofInt x < Int32.ofInt y then Int32.ofInt y else Int32.ofInt x) = Int32.ofInt (mx x y) := by
  unfold mx
  by_cases h : wr x < wr y
  · rw [if_pos ((c_lt x y).mpr h), if_pos h]
  · rw [if_neg (fun q => h ((c_lt x y).mp q)), if_neg h]
theorem c_mn (x y : Int) : (if Int32.ofInt y < Int32.ofInt x then Int32.ofInt y else Int32.ofInt x) = Int32.ofInt (mn x y) := by
  unfold mn
  by_cases h : wr y < wr x
  · rw [if_pos ((c_lt y x).mpr h), if_pos h]
  · rw [if_neg (fun q => h ((c_lt y x).mp q)), if_neg h]
theorem c_ab (x : Int) : (if 0 ≤ Int32.ofInt x then Int32.ofInt x else 0 - Int32.ofInt x) = Int32.ofInt (ab x) := by
  unfold ab
  by_cases h : 0 ≤ wr x
  · rw [if_pos ((z_ge x).mpr h), if_pos h]
  · rw [if_neg (fun q => h ((z_ge x).mp q)), if_neg h, show (-x) = 0 - x by omega, Int32.ofInt_sub]; rfl
set_option maxHeartbeats 16000000 in
set_option maxRecDepth 100000 in
theorem snd (l : Launch) (D : va_G) : ∀ (n m pc : Nat) (al : ALs) (st : List AV) (G : GM) (v : Option AV) (G' : GM), exec n m pc al st G = some (v, G') → Snd l D m pc al st G v G'
  | 0, m, pc, al, st, G, v, G', h => by cases h
  | n + 1, m, pc, al, st, G, v, G', h => by
    have ih := snd l D n
    intro cA ad A L0 p e s mi args below meth c R H locs cells slots ls hC hinj hAd hA hI
    have hgr : Gr G G' := exec_grow _ _ _ _ _ _ _ h
    have hI0 := hI
    have hC0 := hC
    obtain ⟨hx, hb, hml, hr, hown, hts, hlocks, hname, hN, hK, hRf, hRl⟩ := hC
    obtain ⟨hP, hS, hl, hn, hc, hRc, hRs, had⟩ := hI
    have hts' : ∀ w ∈ tblG, w.before args s = true := fun w hw => hts w (List.mem_cons_of_mem _ hw)
    have hD : va_D A (wd cA ad G) := wd_D (fun i j hi hj => hinj i j (Nat.lt_of_lt_of_le hi hgr.1) (Nat.lt_of_lt_of_le hj hgr.1)) (fun i hi => hAd i (Nat.lt_of_lt_of_le hi hgr.1))
    have nxt : ∀ (pc : Nat) (al : ALs) (st : List AV) (G : GM) (H : Heap) (locs : List Loc) (cells slots : Nat) (ls : Array Slot), exec n m pc al st G = some (v, G') → Inv D cA ad A L0 (md m).2.2.1 G' s R G al H locs cells slots ls →
        W p l e R s mi args below meth c H locs cells slots (MQ below (Qcm D cA ad A v G') args s R.cells R.slots A) (F0 mi pc ls (st.map (cv ad))) := fun pc al st G H locs cells slots ls h hI => ih m pc al st G v G' h cA ad A L0 p e s mi args below meth c R H locs cells slots ls hC0 hinj hAd hA hI
    have nx0 : ∀ (pc : Nat) (st : List AV), exec n m pc al st G = some (v, G') → W p l e R s mi args below meth c H locs cells slots (MQ below (Qcm D cA ad A v G') args s R.cells R.slots A) (F0 mi pc ls (st.map (cv ad))) := fun pc st h => nxt pc al st G H locs cells slots ls h hI0
    have nst : ∀ (pc i : Nat) (w : AV) (st : List AV) (ls' : Array Slot), okst al i = true → lv_has ls' (md m).2.2.1 ((i, cv ad w) :: (prs ad al).filter (fun q => !(q.1 == i) && !(q.1 + 1 == i && q.2.category == 2))) → exec n m pc (al.set i (some w)) st G = some (v, G') →
        W p l e R s mi args below meth c H locs cells slots (MQ below (Qcm D cA ad A v G') args s R.cells R.slots A) (F0 mi pc ls' (st.map (cv ad))) := fun pc i w st ls' hok hl' h => nxt pc _ st G H locs cells slots ls' h ⟨hP, hS, prs_set hok hl', by rw [List.length_set]; exact hn, hc, hRc, hRs, had⟩
    have ncl : ∀ (z B : Nat) (as r : List AV), (match exec n z 0 (alocs B as) [] G with
        | none => none
        | some (rv, G') => exec n m (pc + 3) al (rv.toList ++ r) G') = some (v, G') → B = (md z).2.2.1 → cats as ≤ B → 
        ∃ rv G1, Gr G G1 ∧ Gr G1 G' ∧ Ctr l D z as G rv G1 ∧ ∀ (H1 : Heap) (locs1 : List Loc) (cells1 slots1 : Nat), Inv D cA ad A L0 (md m).2.2.1 G' s R G1 al H1 locs1 cells1 slots1 ls → W p l e R s mi args below meth c H1 locs1 cells1 slots1 (MQ below (Qcm D cA ad A v G') args s R.cells R.slots A) (F0 mi (pc + 3) ls ((rv.toList ++ r).map (cv ad))) := by
      intro z B as r h hB hcs
      cases hz : exec n z 0 (alocs B as) [] G with
      | none => rw [hz] at h; cases h
      | some w =>
        obtain ⟨rv, G1⟩ := w
        rw [hz] at h
        subst hB
        have hg1 := exec_grow _ _ _ _ _ _ _ hz
        exact ⟨rv, G1, hg1, exec_grow _ _ _ _ _ _ _ h, Ctr_of (ih z 0 _ [] G rv G1 hz) hcs hg1, fun H1 locs1 cells1 slots1 hI1 => nxt _ _ _ G1 H1 locs1 cells1 slots1 ls h hI1⟩
    unfold exec at h
    cases htr : tr m pc with
    | none => rw [htr] at h; cases h
    | some e0 =>
      rw [htr] at h
      have hk := tr_ok m pc e0 htr
      obtain ⟨ins, len, A', B, C, sw⟩ := e0
      unfold chk at hk
      rw [Bool.and_eq_true, decide_eq_true_eq] at hk
      obtain ⟨hdec, hk⟩ := hk
      dsimp only at hdec hk
      have key1 : ∀ {k : Nat}, Nat.beq len k = true → decode (md m).2.1 pc = .ok (ins, k) := fun hk => by rw [← Nat.eq_of_beq_eq_true hk]; exact hdec
      have key2 : ∀ {k : Nat} {b : Bool}, (Nat.beq len k && b) = true → decode (md m).2.1 pc = .ok (ins, k) ∧ b = true := fun hk => by
        rw [Bool.and_eq_true] at hk
        exact ⟨key1 hk.1, hk.2⟩
      cases ins with
      | iconst k => exact lv_iconst hx hb (key1 hk) rfl (nx0 _ _ h)
      | bipush k =>
        obtain ⟨hdec, hk⟩ := key2 hk
        exact lv_bipush hx hb hdec (of_decide_eq_true hk) (nx0 _ _ h)
      | sipush k =>
        obtain ⟨hdec, hk⟩ := key2 hk
        exact lv_sipush hx hb hdec (of_decide_eq_true hk) (nx0 _ _ h)
      | lconst k => exact lv_lconst hx hb (key1 hk) (by rw [← Int64.ofInt_eq_ofNat]) (nx0 _ _ h)
      | ldc i =>
        obtain ⟨hdec, hk⟩ := key2 hk
        obtain ⟨x, t, l', rfl, h⟩ := sv_inv h
        obtain ⟨q, hq, hk⟩ := atc_inv hk
        simp only [Bool.and_eq_true, decide_eq_true_eq] at hk
        obtain ⟨k1, k2, k3⟩ := hk
        have hw := inT_ok (List.all_eq_true.mp cls_ok q hq)
        rw [Nat.eq_of_beq_eq_true k1, Nat.eq_of_beq_eq_true k2, k3, kNm_own] at hw
        exact lv_ldc hx hb hown (hts' _ hw) hdec (nx0 _ _ h)
      | ldc_w i =>
        obtain ⟨hdec, hk⟩ := key2 hk
        obtain ⟨x, t, l', rfl, h⟩ := sv_inv h
        obtain ⟨q, hq, hk⟩ := atc_inv hk
        simp only [Bool.and_eq_true, decide_eq_true_eq] at hk
        obtain ⟨k1, k2, k3⟩ := hk
        have hw := inT_ok (List.all_eq_true.mp cls_ok q hq)
        rw [Nat.eq_of_beq_eq_true k1, Nat.eq_of_beq_eq_true k2, k3, kNm_own] at hw
        exact lv_ldcw hx hb hown (hts' _ hw) hdec (nx0 _ _ h)
      | ldc2_w i =>
        obtain ⟨hdec, hk⟩ := key2 hk
        obtain ⟨x, t, l', rfl, h⟩ := sv_inv h
        obtain ⟨q, hq, hk⟩ := atc_inv hk
        simp only [Bool.and_eq_true, decide_eq_true_eq] at hk
        obtain ⟨k1, k2, k3⟩ := hk
        have hw := inT_ok (List.all_eq_true.mp cll_ok q hq)
        rw [Nat.eq_of_beq_eq_true k1, Nat.eq_of_beq_eq_true k2, k3, kNm_own] at hw
        exact lv_ldc2 hx hb hown (hts' _ hw) hdec (nx0 _ _ h)
      | iload i => obtain ⟨x, hx1, h⟩ := li_inv h; exact lv_iload hx hb (key1 hk) (prs_at hl hx1) (nx0 _ _ h)
      | iload_n i => obtain ⟨x, hx1, h⟩ := li_inv h; exact lv_iload_n hx hb (key1 hk) rfl (prs_at hl hx1) (nx0 _ _ h)
      | lload i => obtain ⟨x, hx1, h⟩ := ll_inv h; exact lv_lload hx hb (key1 hk) (prs_at hl hx1) (nx0 _ _ h)
      | lload_n i => obtain ⟨x, hx1, h⟩ := ll_inv h; exact lv_lload_n hx hb (key1 hk) rfl (prs_at hl hx1) (nx0 _ _ h)
      | aload i => obtain ⟨x, hx1, h⟩ := lr_inv h; exact lv_aload hx hb (key1 hk) (prs_at hl hx1) (nx0 _ _ h)
      | aload_n i => obtain ⟨x, hx1, h⟩ := lr_inv h; exact lv_aload_n hx hb (key1 hk) rfl (prs_at hl hx1) (nx0 _ _ h)
      | istore i =>
        obtain ⟨x, r, rfl, h⟩ := q1_inv h
        obtain ⟨hok, h⟩ := qb_inv h
        exact lv_istore hx hb (key1 hk) hl (by rw [← hn]; exact okst_lt hok) rfl (fun ls' hl' => nst _ i (.inl x) _ ls' hok hl' h)
      | istore_n i =>
        obtain ⟨x, r, rfl, h⟩ := q1_inv h
        obtain ⟨hok, h⟩ := qb_inv h
        exact lv_istore_n hx hb (key1 hk) rfl hl (by rw [← hn]; exact okst_lt hok) rfl (fun ls' hl' => nst _ i (.inl x) _ ls' hok hl' h)
      | astore i =>
        obtain ⟨x, r, rfl, h⟩ := qr_inv h
        obtain ⟨hok, h⟩ := qb_inv h
        exact lv_astore hx hb (key1 hk) hl (by rw [← hn]; exact okst_lt hok) rfl (fun ls' hl' => nst _ i (vr x) _ ls' hok hl' h)
      | astore_n i =>
        obtain ⟨x, r, rfl, h⟩ := qr_inv h
        obtain ⟨hok, h⟩ := qb_inv h
        exact lv_astore_n hx hb (key1 hk) rfl hl (by rw [← hn]; exact okst_lt hok) rfl (fun ls' hl' => nst _ i (vr x) _ ls' hok hl' h)
      | iinc i k =>
        obtain ⟨x, hx1, h⟩ := li_inv h
        obtain ⟨hok, h⟩ := qb_inv h
        obtain ⟨j, hj⟩ := List.getElem?_of_mem (prs_mem (ad := ad) hx1)
        exact lv_iinc hx hb (key1 hk) hl hj (v := Int32.ofInt (x + k)) (by rw [Int32.ofInt_add]) (by rw [← hn]; exact okst_lt hok) rfl (fun ls' hl' => nst _ i (.inl (x + k)) _ ls' hok hl' h)
      | iadd => obtain ⟨x, y, r, rfl, h⟩ := q2_inv h; refine lv_iadd hx hb (key1 hk) ?_; rw [← Int32.ofInt_add]; exact nx0 _ _ h
      | isub => obtain ⟨x, y, r, rfl, h⟩ := q2_inv h; refine lv_isub hx hb (key1 hk) ?_; rw [← Int32.ofInt_sub]; exact nx0 _ _ h
      | imul => obtain ⟨x, y, r, rfl, h⟩ := q2_inv h; refine lv_imul hx hb (key1 hk) ?_; rw [← Int32.ofInt_mul]; exact nx0 _ _ h
      | iand => obtain ⟨x, y, r, rfl, h⟩ := q2_inv h; refine lv_iand hx hb (key1 hk) ?_; rw [← Int32.ofInt_toInt (Int32.ofInt x &&& Int32.ofInt y)]; exact nx0 _ _ h
      | ior => obtain ⟨x, y, r, rfl, h⟩ := q2_inv h; refine lv_ior hx hb (key1 hk) ?_; rw [← Int32.ofInt_toInt (Int32.ofInt x ||| Int32.ofInt y)]; exact nx0 _ _ h
      | ixor => obtain ⟨x, y, r, rfl, h⟩ := q2_inv h; refine lv_ixor hx hb (key1 hk) ?_; rw [← Int32.ofInt_toInt (Int32.ofInt x ^^^ Int32.ofInt y)]; exact nx0 _ _ h
      | ishl => obtain ⟨x, y, r, rfl, h⟩ := q2_inv h; refine lv_ishl hx hb (key1 hk) ?_; rw [← Int32.ofInt_toInt (Int32.ofInt x <<< (Int32.ofInt y &&& 31))]; exact nx0 _ _ h
      | ishr => obtain ⟨x, y, r, rfl, h⟩ := q2_inv h; refine lv_ishr hx hb (key1 hk) ?_; rw [← Int32.ofInt_toInt (Int32.ofInt x >>> (Int32.ofInt y &&& 31))]; exact nx0 _ _ h
      | idiv => obtain ⟨x, y, r, rfl, h⟩ := q2_inv h; obtain ⟨hne, h⟩ := ck_inv h; refine lv_idiv hx hb (key1 hk) (fun q => hne ((z_eq y).mp q)) ?_; rw [c_dv]; exact nx0 _ _ h
      | irem => obtain ⟨x, y, r, rfl, h⟩ := q2_inv h; obtain ⟨hne, h⟩ := ck_inv h; refine lv_irem hx hb (key1 hk) (fun q => hne ((z_eq y).mp q)) ?_; rw [c_rm]; exact nx0 _ _ h
      | ineg => obtain ⟨x, r, rfl, h⟩ := q1_inv h; refine lv_ineg hx hb (key1 hk) ?_; rw [← Int32.ofInt_neg]; exact nx0 _ _ h
      | i2l => obtain ⟨x, r, rfl, h⟩ := q1_inv h; exact lv_i2l hx hb (key1 hk) (c_i2l x) (nx0 _ _ h)
      | lcmp => obtain ⟨x, y, r, rfl, h⟩ := ql2_inv h; refine W.lcmp hx hb (key1 hk) ?_; rw [c_lcmp]; exact nx0 _ _ h
      | dup => obtain ⟨x, r, rfl, h⟩ := qv_inv h; obtain ⟨hok, h⟩ := qb_inv h; exact lv_dup hx hb (key1 hk) ((cat_cv ad x).trans (Nat.eq_of_beq_eq_true hok)) (nx0 _ _ h)
      | pop => obtain ⟨x, r, rfl, h⟩ := qv_inv h; obtain ⟨hok, h⟩ := qb_inv h; exact lv_pop hx hb (key1 hk) ((cat_cv ad x).trans (Nat.eq_of_beq_eq_true hok)) (nx0 _ _ h)
      | dup2 =>
        obtain ⟨x, r, rfl, h⟩ := qv_inv h
        obtain ⟨y, r2, rfl, h⟩ := qv_inv h
        obtain ⟨hok, h⟩ := qb_inv h
        rw [Bool.and_eq_true] at hok
        exact lv_dup2_11 hx hb (key1 hk) ((cat_cv ad x).trans (Nat.eq_of_beq_eq_true hok.1)) ((cat_cv ad y).trans (Nat.eq_of_beq_eq_true hok.2)) (nx0 _ _ h)
      | goto o =>
        obtain ⟨hdec, hk⟩ := key2 hk
        exact lv_goto hx hb hdec (cto_ok hk) (nx0 _ _ h)
      | if_icmp cc o =>
        obtain ⟨hdec2, hk2⟩ := key2 hk
        obtain ⟨x, y, r, rfl, h2⟩ := q2_inv h
        cases cc with
        | eq => exact lv_icmp_eq hx hb hdec2 (cto_ok hk2) (fun q => nx0 _ _ (by dsimp only at h2; rw [if_pos ((c_eq x y).mp q)] at h2; exact h2)) (fun q => nx0 _ _ (by dsimp only at h2; rw [if_neg (fun z => q ((c_eq x y).mpr z))] at h2; exact h2))
        | ne => exact lv_icmp_ne hx hb hdec2 (cto_ok hk2) (fun q => nx0 _ _ (by dsimp only at h2; rw [if_neg (fun z => q ((c_eq x y).mpr z))] at h2; exact h2)) (fun q => nx0 _ _ (by dsimp only at h2; rw [if_pos ((c_eq x y).mp q)] at h2; exact h2))
        | lt => exact lv_icmp_lt hx hb hdec2 (cto_ok hk2) (fun q => nx0 _ _ (by dsimp only at h2; rw [if_pos ((c_lt x y).mp q)] at h2; exact h2)) (fun q => nx0 _ _ (by dsimp only at h2; rw [if_neg (fun z => q ((c_lt x y).mpr z))] at h2; exact h2))
        | ge => exact lv_icmp_ge hx hb hdec2 (cto_ok hk2) (fun q => nx0 _ _ (by dsimp only at h2; rw [if_neg (by have := (c_le y x).mp q; omega)] at h2; exact h2)) (fun q => nx0 _ _ (by dsimp only at h2; rw [if_pos (Int.not_le.mp (fun z => q ((c_le y x).mpr z)))] at h2; exact h2))
        | gt => exact lv_icmp_gt hx hb hdec2 (cto_ok hk2) (fun q => nx0 _ _ (by dsimp only at h2; rw [if_pos ((c_lt y x).mp q)] at h2; exact h2)) (fun q => nx0 _ _ (by dsimp only at h2; rw [if_neg (fun z => q ((c_lt y x).mpr z))] at h2; exact h2))
        | le => exact lv_icmp_le hx hb hdec2 (cto_ok hk2) (fun q => nx0 _ _ (by dsimp only at h2; rw [if_neg (by have := (c_le x y).mp q; omega)] at h2; exact h2)) (fun q => nx0 _ _ (by dsimp only at h2; rw [if_pos (Int.not_le.mp (fun z => q ((c_le x y).mpr z)))] at h2; exact h2))
      | ifCond cc o =>
        obtain ⟨hdec2, hk2⟩ := key2 hk
        obtain ⟨x, r, rfl, h2⟩ := q1_inv h
        cases cc with
        | eq => exact lv_if_eq hx hb hdec2 (cto_ok hk2) (fun q => nx0 _ _ (by dsimp only at h2; rw [if_pos ((z_eq x).mp q)] at h2; exact h2)) (fun q => nx0 _ _ (by dsimp only at h2; rw [if_neg (fun z => q ((z_eq x).mpr z))] at h2; exact h2))
        | ne => exact lv_if_ne hx hb hdec2 (cto_ok hk2) (fun q => nx0 _ _ (by dsimp only at h2; rw [if_neg (fun z => q ((z_eq x).mpr z))] at h2; exact h2)) (fun q => nx0 _ _ (by dsimp only at h2; rw [if_pos ((z_eq x).mp q)] at h2; exact h2))
        | lt => exact lv_if_lt hx hb hdec2 (cto_ok hk2) (fun q => nx0 _ _ (by dsimp only at h2; rw [if_pos ((z_lt x).mp q)] at h2; exact h2)) (fun q => nx0 _ _ (by dsimp only at h2; rw [if_neg (fun z => q ((z_lt x).mpr z))] at h2; exact h2))
        | ge => exact lv_if_ge hx hb hdec2 (cto_ok hk2) (fun q => nx0 _ _ (by dsimp only at h2; rw [if_neg (by have := (z_ge x).mp q; omega)] at h2; exact h2)) (fun q => nx0 _ _ (by dsimp only at h2; rw [if_pos (Int.not_le.mp (fun z => q ((z_ge x).mpr z)))] at h2; exact h2))
        | gt => exact lv_if_gt hx hb hdec2 (cto_ok hk2) (fun q => nx0 _ _ (by dsimp only at h2; rw [if_pos ((z_gt x).mp q)] at h2; exact h2)) (fun q => nx0 _ _ (by dsimp only at h2; rw [if_neg (fun z => q ((z_gt x).mpr z))] at h2; exact h2))
        | le => exact lv_if_le hx hb hdec2 (cto_ok hk2) (fun q => nx0 _ _ (by dsimp only at h2; rw [if_neg (by have := (z_le x).mp q; omega)] at h2; exact h2)) (fun q => nx0 _ _ (by dsimp only at h2; rw [if_pos (Int.not_le.mp (fun z => q ((z_le x).mpr z)))] at h2; exact h2))
      | tableswitch d lo hi offs =>
        obtain ⟨x, r, rfl, h⟩ := q1_inv h
        have h : sws (fun c d x y => @ite _ c d x y) (wr x) sw (fun t => exec n m t al r G) (exec n m A' al r G) = some (v, G') := h
        rw [sws_eq (wr x) (fun t => exec n m t al r G) A' sw] at h
        have hk : (cto pc d A' && (decide (((List.range offs.size).map (fun (k : Nat) => (lo + (k : Int), (pc : Int) + offs.getD k 0))) = sw.map (fun q => (q.1, (q.2 : Int)))) && decide (hi = lo + ((offs.size : Nat) : Int) - 1))) = true := hk
        simp only [Bool.and_eq_true, decide_eq_true_eq] at hk
        obtain ⟨k1, k2, k3⟩ := hk
        have hlen : offs.size = sw.length := by
          have := congrArg List.length k2
          simpa using this
        have hel : ∀ (j : Nat) (q : Int × Nat), sw[j]? = some q → q.1 = lo + (j : Int) ∧ (pc : Int) + offs.getD j 0 = (q.2 : Int) ∧ j < offs.size := by
          intro j q hj
          have hj2 : j < sw.length := (List.getElem?_eq_some_iff.mp hj).1
          have h3 := congrArg (fun z => z[j]?) k2
          simp only [List.getElem?_map, hj, Option.map_some] at h3
          rw [List.getElem?_range (by omega)] at h3
          simp only [Option.map_some, Option.some.injEq, Prod.mk.injEq] at h3
          exact ⟨h3.1.symm, h3.2, by omega⟩
        by_cases hin : lo ≤ wr x ∧ wr x ≤ hi
        · have hj : (wr x - lo).toNat < sw.length := by omega
          obtain ⟨q, hq⟩ : ∃ q, sw[(wr x - lo).toNat]? = some q := ⟨_, List.getElem?_eq_getElem hj⟩
          obtain ⟨e1, e2, e3⟩ := hel _ q hq
          have e4 := swt_in A' sw lo (fun j q hj => (hel j q hj).1) _ q hq
          have e5 : lo + (((wr x - lo).toNat : Nat) : Int) = wr x := by omega
          rw [e5] at e4
          rw [e4] at h
          refine lv_tableIn hx hb hdec (off := offs.getD (wr x - lo).toNat 0) (by show ¬ wr x < lo; omega) (by show ¬ hi < wr x; omega) ?_ e2 (nx0 _ _ h)
          show offs[(wr x - lo).toNat]? = _
          rw [Array.getD_eq_getD_getElem?]
          have : (wr x - lo).toNat < offs.size := by omega
          simp [this]
        · rw [swt_out (wr x) A' sw (fun q hq hw => by
            obtain ⟨j, hj⟩ := List.getElem?_of_mem hq
            obtain ⟨e1, -, e3⟩ := hel j q hj
            omega)] at h
          exact lv_tableOut hx hb hdec (by show wr x < lo ∨ hi < wr x; omega) (cto_ok k1) (nx0 _ _ h)
      | lookupswitch d ps =>
        obtain ⟨x, r, rfl, h⟩ := q1_inv h
        have h : sws (fun c d x y => @ite _ c d x y) (wr x) sw (fun t => exec n m t al r G) (exec n m A' al r G) = some (v, G') := h
        rw [sws_eq (wr x) (fun t => exec n m t al r G) A' sw] at h
        have hk : (cto pc d A' && (decide (ps.toList.map (fun q => (q.1, (pc : Int) + q.2)) = sw.map (fun q => (q.1, (q.2 : Int)))) && (ps.toList.zip (ps.toList.drop 1)).all (fun (a, next) => a.1 < next.1))) = true := hk
        rw [Bool.and_eq_true, Bool.and_eq_true, decide_eq_true_eq] at hk
        obtain ⟨k1, k2, k3⟩ := hk
        exact lv_lookup hx hb hdec k3 rfl (swt_look pc (wr x) d A' (cto_ok k1) ps.toList sw k2) (nx0 _ _ h)
      | getfield i =>
        obtain ⟨hdec, hk⟩ := key2 hk
        obtain ⟨hw, hA10, hB⟩ := k_fld hk
        obtain ⟨a, r, rfl, h⟩ := qr_inv h
        obtain ⟨sl, ha, h⟩ := qo_inv h
        rcases qs_inv h with ⟨hs, h⟩ | ⟨q, hs, h⟩
        · exact va_get (D := D) (ci := A') (v := .int (Int32.ofInt (G.2 a B))) (C := kNm A') (T := kT A') (N := kN A') hx hb hts (fun w hw => List.mem_cons_of_mem _ (cls_in A' hA10 w hw)) hown hK hP a (fs := sl.mapIdx (cvs ad G.2 a)) (wd_at ha) (kCls_at A' hA10) B hB (hts' _ hw) (fun _ h9 => h9) (by rw [List.getElem?_mapIdx, hs]; rfl) hdec (nx0 _ _ h)
        · exact va_get (D := D) (ci := A') (v := cv ad (.inr (.inr q))) (C := kNm A') (T := kT A') (N := kN A') hx hb hts (fun w hw => List.mem_cons_of_mem _ (cls_in A' hA10 w hw)) hown hK hP a (fs := sl.mapIdx (cvs ad G.2 a)) (wd_at ha) (kCls_at A' hA10) B hB (hts' _ hw) (fun _ h9 => h9) (by rw [List.getElem?_mapIdx, hs]; rfl) hdec (nx0 _ _ h)
      | putfield i =>
        obtain ⟨hdec, hk⟩ := key2 hk
        rw [Bool.and_eq_true, Bool.and_eq_true] at hk
        obtain ⟨hk, hfin, hty⟩ := hk
        obtain ⟨hw, hA10, hB⟩ := k_fld hk
        obtain ⟨w, r, rfl, h⟩ := qv_inv h
        obtain ⟨a, t, rfl, h⟩ := qr_inv h
        obtain ⟨sl, ha, h⟩ := qo_inv h
        have hput : ∀ (x : Value), narrow (kTy A' B) x = x → fits (kTy A' B) x = true → B < sl.length → ∀ G2 : GM, G2.1.length = G.1.length → siz G2.1 = siz G.1 → (wd cA ad G).set a (ad a, .inr (A', (sl.mapIdx (cvs ad G.2 a)).set B x)) = wd cA ad G2 → exec n m (pc + 3) al t G2 = some (v, G') →
            W p l e R s mi args below meth c H locs cells slots (MQ below (Qcm D cA ad A v G') args s R.cells R.slots A) (F0 mi pc ls (x :: .ref (ad a) :: t.map (cv ad))) := by
          intro x hnar hfit hlt G2 e1 e2 e3 h
          have kk : ∀ (H1 : Heap) (locs1 : List Loc), va_P D kCls ((wd cA ad G).set a (ad a, .inr (A', (sl.mapIdx (cvs ad G.2 a)).set B x))) H1 → va_D A ((wd cA ad G).set a (ad a, .inr (A', (sl.mapIdx (cvs ad G.2 a)).set B x))) → va_S A s.heap H1 locs1 → W p l e R s mi args below meth c H1 locs1 cells slots (MQ below (Qcm D cA ad A v G') args s R.cells R.slots A) (F0 mi (pc + 3) ls (t.map (cv ad))) := by
            intro H1 locs1 hP1 hD1 hS1
            rw [e3] at hP1
            exact nxt _ _ _ G2 H1 locs1 cells slots ls h ⟨hP1, hS1, hl, hn, by rw [e1]; exact hc, by rw [e1]; exact hRc, by rw [e2]; exact hRs, had⟩
          cases hf : (kT A' B).2.2.2 with
          | false => exact va_put (D := D) (ci := A') (C := kNm A') (T := kT A') (N := kN A') hx hb hts (fun w hw => List.mem_cons_of_mem _ (cls_in A' hA10 w hw)) (kTy A') (kTys A' hA10) (kNms A' hA10) hown hK hP hD hS a (wd_at ha) (kCls_at A' hA10) B hB (hts' _ hw) (fun _ h9 => h9) hf (kTys A' hA10 B hB) hnar hfit (by simp; exact hlt) hdec kk
          | true =>
            rw [hf] at hfin
            simp only [Bool.not_true, Bool.false_or, Bool.and_eq_true, decide_eq_true_eq] at hfin
            exact va_putF (D := D) (ci := A') (C := kNm A') (T := kT A') (N := kN A') hx hb hts (fun w hw => List.mem_cons_of_mem _ (cls_in A' hA10 w hw)) (kTy A') (kTys A' hA10) (kNms A' hA10) hown hK hP hD hS a (wd_at ha) (kCls_at A' hA10) B hB (hts' _ hw) (fun _ h9 => h9) hf (hname.trans hfin.1) hfin.2 (kTys A' hA10 B hB) hnar hfit (by simp; exact hlt) hdec kk
        match w, h with
        | .inl x, h =>
          rcases qs_inv h with ⟨hs, h⟩ | ⟨q, -, h⟩
          · have hlt : B < sl.length := (List.getElem?_eq_some_iff.mp hs).1
            match sw, h, hty with
            | [], h, hty =>
              have ht : kTy A' B = .int := by
                revert hty
                cases kTy A' B <;> intro hty <;> first | rfl | cases hty
              exact hput (.int (Int32.ofInt x)) (by rw [ht]; rfl) (by rw [ht]; rfl) hlt (G.1, up G.2 a B x) rfl rfl (wd_putI ha hs) h
            | [_], h, hty =>
              have ht : kTy A' B = .boolean := by
                revert hty
                cases kTy A' B <;> intro hty <;> first | rfl | cases hty
              obtain ⟨hbx, h⟩ := ck_inv h
              exact hput (.int (Int32.ofInt x)) (by rw [ht]; exact c_nar hbx) (by rw [ht]; exact c_fit hbx) hlt (G.1, up G.2 a B x) rfl rfl (wd_putI ha hs) h
          · cases h
        | .inr (.inr q), h =>
          obtain ⟨_, _, _, rfl, h⟩ := s3_inv h
          rcases qs_inv h with ⟨-, h⟩ | ⟨q2, hs, h⟩
          · cases h
          · have hlt : B < sl.length := (List.getElem?_eq_some_iff.mp hs).1
            have ht : (∃ k, kTy A' B = .object k) ∨ ∃ k, kTy A' B = .array k := by
              revert hty
              cases kTy A' B <;> intro hty <;> first | exact Or.inl ⟨_, rfl⟩ | exact Or.inr ⟨_, rfl⟩ | cases hty
            refine hput (cv ad (.inr (.inr q))) ?_ ?_ hlt (G.1.set a (.inr (A', sl.set B (some q))), G.2) (List.length_set ..) (siz_set ha) (wd_putR ha hs) h
            · rcases ht with ⟨k, ht⟩ | ⟨k, ht⟩ <;> rw [ht] <;> cases q <;> rfl
            · rcases ht with ⟨k, ht⟩ | ⟨k, ht⟩ <;> rw [ht] <;> cases q <;> rfl
      | iaload =>
        obtain ⟨x, r, rfl, h⟩ := q1_inv h
        obtain ⟨a, t, rfl, h⟩ := qr_inv h
        obtain ⟨k, ha, h⟩ := qa_inv h
        obtain ⟨hin, h⟩ := ck_inv h
        exact va_iald hx hb hK hP a 0 (cA := cA) (n := k) (f := fun j => Int32.ofInt (G.2 a j)) (wd_at ha) rfl (c_in hin) (key1 hk) (nx0 _ _ h)
      | iastore =>
        obtain ⟨x, y, r, rfl, h⟩ := q2_inv h
        obtain ⟨a, t, rfl, h⟩ := qr_inv h
        obtain ⟨k, ha, h⟩ := qa_inv h
        obtain ⟨hin, h⟩ := ck_inv h
        refine va_iast hx hb hK hP hD hS a 0 (cA := cA) (n := k) (f := fun j => Int32.ofInt (G.2 a j)) (wd_at ha) rfl (c_in hin) (key1 hk) (fun H1 locs1 hP1 hD1 hS1 => ?_)
        rw [wr_nat, wd_ast ha] at hP1
        exact nxt _ _ _ (G.1, up G.2 a (wr x).toNat y) H1 locs1 cells slots ls h ⟨hP1, hS1, hl, hn, hc, hRc, hRs, had⟩
      | arraylength =>
        obtain ⟨a, t, rfl, h⟩ := qr_inv h
        obtain ⟨k, ha, h⟩ := qa_inv h
        exact va_alen hx hb hK hP a 0 (cA := cA) (wd_at ha) rfl (v := Int32.ofInt (k : Int)) (by rw [Int32.ofInt_eq_ofNat]) (key1 hk) (nx0 _ _ h)
      | newarray t =>
        obtain ⟨hdec, hk⟩ := key2 hk
        have ht := of_decide_eq_true hk
        subst ht
        obtain ⟨x, r, rfl, h⟩ := q1_inv h
        obtain ⟨hin, h⟩ := ck_inv h
        exact e_newa hC0 hI0 hin (exec_grow _ _ _ _ _ _ _ h) hdec (fun H1 locs1 cells1 slots1 hI1 => nxt _ _ _ _ H1 locs1 cells1 slots1 ls h hI1)
      | new i =>
        obtain ⟨hdec, hk⟩ := key2 hk
        obtain ⟨q, hq, hk⟩ := at6_inv hk
        simp only [Bool.and_eq_true] at hk
        obtain ⟨k1, k2, k3⟩ := hk
        have hf := List.all_eq_true.mp nws_ok q hq
        simp only [chkN, Bool.and_eq_true] at hf
        obtain ⟨f1, f2, f3, f4⟩ := hf
        rw [Nat.eq_of_beq_eq_true k1, Nat.eq_of_beq_eq_true k2, Nat.eq_of_beq_eq_true k3, kNm_own] at f1
        rw [Nat.eq_of_beq_eq_true k3] at f2 f3 f4
        exact e_new hC0 hI0 (Nat.le_of_ble_eq_true f4) (inT_ok f1) (inT_ok f2) (inT_ok f3) (exec_grow _ _ _ _ _ _ _ h) hdec (fun H1 locs1 cells1 slots1 hI1 => nxt _ _ _ _ H1 locs1 cells1 slots1 ls h hI1)
      | ireturn =>
        obtain ⟨hdec, hk⟩ := key2 hk
        obtain ⟨x, r, rfl, h⟩ := q1_inv h
        obtain ⟨rfl, h⟩ := qe_inv h
        cases A' with
        | zero =>
          cases h
          have e1 : cells = R.cells := by omega
          have e2 : slots = R.slots := by omega
          rw [← e1, ← e2]
          exact W.iret (v := Int32.ofInt x) hx hb (hr.trans (of_decide_eq_true hk)) (fun t ht _ => ⟨⟨rfl, by rw [ht]; exact hP⟩, hS.F ht⟩) hS.2.2 hdec hlocks
        | succ A' =>
          obtain ⟨hbx, h⟩ := ck_inv h
          cases h
          have e1 : cells = R.cells := by omega
          have e2 : slots = R.slots := by omega
          rw [← e1, ← e2]
          exact W.zret (v := Int32.ofInt x) (ty := .boolean) hx hb (hr.trans (of_decide_eq_true hk)) (c_nar hbx) (fun t ht _ => ⟨⟨rfl, by rw [ht]; exact hP⟩, hS.F ht⟩) hS.2.2 hdec hlocks
      | areturn =>
        obtain ⟨hdec, hk⟩ := key2 hk
        obtain ⟨x, r, rfl, h⟩ := qr_inv h
        obtain ⟨rfl, h⟩ := qe_inv h
        cases h
        have e1 : cells = R.cells := by omega
        have e2 : slots = R.slots := by omega
        rw [← e1, ← e2]
        have hrt : ∃ k, (md m).2.2.2.1 = some (.object k) := by
          revert hk
          cases (md m).2.2.2.1 with
          | none => intro hk; cases hk
          | some ty => cases ty <;> intro hk <;> first | exact ⟨_, rfl⟩ | cases hk
        obtain ⟨k, hrt⟩ := hrt
        exact W.aret (v := .ref (ad x)) hx hb (hr.trans hrt) (Or.inl ⟨k, rfl⟩) (Or.inr ⟨_, rfl⟩) (fun t ht _ => ⟨⟨rfl, by rw [ht]; exact hP⟩, hS.F ht⟩) hS.2.2 hdec hlocks
      | return_ =>
        obtain ⟨hdec, hk⟩ := key2 hk
        obtain ⟨rfl, h⟩ := qe_inv h
        cases h
        have e1 : cells = R.cells := by omega
        have e2 : slots = R.slots := by omega
        rw [← e1, ← e2]
        exact W.vret hx hb (hr.trans (of_decide_eq_true hk)) (fun t ht _ => ⟨⟨rfl, by rw [ht]; exact hP⟩, hS.F ht⟩) hS.2.2 hdec hlocks
      | invokevirtual i =>
        obtain ⟨hdec, hk⟩ := key2 hk
        obtain ⟨_, _, kd, k, _, rfl, h⟩ := sk_inv h
        have hk : (Nat.beq kd 0 && chkC m i A' B C k 0) = true := hk
        rw [Bool.and_eq_true] at hk
        obtain ⟨hlink, hBm, hkn, hkd, hroom⟩ := k_call hk.2
        obtain ⟨as, r, rfl, hlen, h⟩ := pp_inv h
        rw [List.append_nil] at h
        obtain ⟨h8, h⟩ := qb_inv h
        rw [Bool.and_eq_true] at h8
        obtain ⟨a, t, rfl, h⟩ := qr_inv h
        obtain ⟨sl, ha, h⟩ := qo_inv h
        obtain ⟨rv, G1, hg1, hg2, hM, nx⟩ := ncl A' B _ r h hBm (Nat.le_of_ble_eq_true h8.2)
        obtain ⟨m1, m2, m3, m4, m5, m6⟩ := k_md A'
        obtain ⟨m7, m8⟩ := m4 hkd.symm
        refine e_calls hC0 hinj hAd hA hI0 hg1 hg2 hM (fun free mc ms Qc hMet emc ems hrm hPc => ?_) nx
        have hci : (md A').2.2.2.2.1 < 10 := by
          obtain ⟨r0, h1, -⟩ := hP a _ (wd_at ha)
          exact (List.getElem?_eq_some_iff.mp h1).1
        have hrec := va_recv hK hP (kCls_at _ hci) (wd_at ha)
        have hnm : kNm (md A').2.2.2.2.1 = (md A').1.cls := kNm_own A'
        rw [hnm] at hrec
        refine va_runV (n := (md A').2.2.2.2.2.2.2.1) (C := (md A').1.cls) (b := ad a) (As := t.map (cv ad)) ⟨hx, hb, hml, hown, hts⟩ hMet ⟨callB_of _ hts (wsm_in m1) rfl emc.symm ems.symm (hts' _ m2) (hts' _ hlink) m3 (k_room hroom hRf hRl), hts' _ m7, hts' _ m8⟩ ⟨Pcm_blind _ _ _ _ _ _, hrec, hPc⟩ rfl ?_ hl.1 ?_ (lv_room (by rw [cats_map]; exact Nat.le_of_ble_eq_true h8.1)) hdec hrm
        · rw [List.length_map]
          simp only [List.length_cons] at hlen
          omega
        · show ((.inr (.inr (some a)) :: t).reverse ++ r).map (cv ad) = (t.map (cv ad)).reverse ++ .ref (ad a) :: r.map (cv ad)
          simp [cv]
      | invokestatic i =>
        obtain ⟨hdec, hk⟩ := key2 hk
        obtain ⟨_, _, kd, k, _, rfl, h⟩ := sk_inv h
        match kd, h, hk with
        | 1, h, hk =>
          have hk : chkC m i A' B C k 1 = true := hk
          obtain ⟨hlink, hBm, hkn, hkd, hroom⟩ := k_call hk
          obtain ⟨as, r, rfl, hlen, h⟩ := pp_inv h
          rw [List.append_nil] at h
          obtain ⟨h8, h⟩ := qb_inv h
          rw [Bool.and_eq_true] at h8
          obtain ⟨rv, G1, hg1, hg2, hM, nx⟩ := ncl A' B _ r h hBm (Nat.le_of_ble_eq_true h8.2)
          obtain ⟨m1, m2, m3, m4, m5, m6⟩ := k_md A'
          refine e_calls hC0 hinj hAd hA hI0 hg1 hg2 hM (fun free mc ms Qc hMet emc ems hrm hPc => ?_) nx
          refine va_runS (n := (md A').2.2.2.2.2.2.2.1) (As := as.map (cv ad)) ⟨hx, hb, hml, hown, hts⟩ hMet ⟨callB_of _ hts (wsm_in m1) rfl emc.symm ems.symm (hts' _ m2) (hts' _ hlink) m3 (k_room hroom hRf hRl), hts' _ (m5 hkd.symm)⟩ ⟨Pcm_blind _ _ _ _ _ _, hPc⟩ rfl ?_ hl.1 ?_ (lv_room (by rw [cats_map]; exact Nat.le_of_ble_eq_true h8.1)) hdec hrm
          · rw [List.length_map]
            omega
          · show (as.reverse ++ r).map (cv ad) = (as.map (cv ad)).reverse ++ r.map (cv ad)
            simp
        | 5, h, hk =>
          obtain ⟨hlink, hf1, hf2⟩ := k_prim (kd := 5) hk
          obtain ⟨x, r, rfl, h⟩ := q1_inv h
          obtain ⟨h8, h⟩ := qb_inv h
          refine va_mabs hx hb (hml.trans hl.1.symm) hown (hts' _ hlink) (hts' _ (inT_ok mabs_ok.1)) (hts' _ (inT_ok math_ok)) (hts' _ (inT_ok mabs_ok.2)) (by rw [hRf]; exact hf1) (by have := Nat.le_of_ble_eq_true h8; rw [cats_map, hRl]; omega) (by omega) (by omega) hdec ?_
          rw [c_ab]
          exact nx0 _ _ h
        | 6, h, hk =>
          obtain ⟨hlink, hf1, hf2⟩ := k_prim (kd := 6) hk
          obtain ⟨x, y, r, rfl, h⟩ := q2_inv h
          obtain ⟨h8, h⟩ := qb_inv h
          refine va_mmax hx hb (hml.trans hl.1.symm) hown (hts' _ hlink) (hts' _ (inT_ok mmax_ok.1)) (hts' _ (inT_ok math_ok)) (hts' _ (inT_ok mmax_ok.2)) (by rw [hRf]; exact hf1) (by have := Nat.le_of_ble_eq_true h8; rw [cats_map, hRl]; omega) (by omega) (by omega) hdec ?_
          rw [c_mx]
          exact nx0 _ _ h
        | 7, h, hk =>
          obtain ⟨hlink, hf1, hf2⟩ := k_prim (kd := 7) hk
          obtain ⟨x, y, r, rfl, h⟩ := q2_inv h
          obtain ⟨h8, h⟩ := qb_inv h
          refine va_mmin hx hb (hml.trans hl.1.symm) hown (hts' _ hlink) (hts' _ (inT_ok mmin_ok.1)) (hts' _ (inT_ok math_ok)) (hts' _ (inT_ok mmin_ok.2)) (by rw [hRf]; exact hf1) (by have := Nat.le_of_ble_eq_true h8; rw [cats_map, hRl]; omega) (by omega) (by omega) hdec ?_
          rw [c_mn]
          exact nx0 _ _ h
      | invokespecial i =>
        obtain ⟨hdec, hk⟩ := key2 hk
        obtain ⟨_, _, kd, k, _, rfl, h⟩ := sk_inv h
        match kd, h, hk with
        | 2, h, hk =>
          have hk : chkC m i A' B C k 2 = true := hk
          obtain ⟨hlink, hBm, hkn, hkd, hroom⟩ := k_call hk
          obtain ⟨as, r, rfl, hlen, h⟩ := pp_inv h
          rw [List.append_nil] at h
          obtain ⟨h8, h⟩ := qb_inv h
          rw [Bool.and_eq_true] at h8
          obtain ⟨a, t, rfl, h⟩ := qr_inv h
          obtain ⟨rv, G1, hg1, hg2, hM, nx⟩ := ncl A' B _ r h hBm (Nat.le_of_ble_eq_true h8.2)
          obtain ⟨m1, m2, m3, m4, m5, m6⟩ := k_md A'
          obtain ⟨m7, m8, m9⟩ := m6 hkd.symm
          refine e_calls hC0 hinj hAd hA hI0 hg1 hg2 hM (fun free mc ms Qc hMet emc ems hrm hPc => ?_) nx
          refine va_runI (n := (md A').2.2.2.2.2.2.2.1) (b := ad a) (As := t.map (cv ad)) ⟨hx, hb, hml, hown, hts⟩ hMet ⟨callB_of _ hts (wsm_in m1) (by unfold wsm; rw [m9]) emc.symm ems.symm (hts' _ m2) (hts' _ hlink) m3 (k_room hroom hRf hRl), m8, hts' _ m7⟩ ⟨Pcm_blind _ _ _ _ _ _, hPc⟩ rfl ?_ hl.1 ?_ (lv_room (by rw [cats_map]; exact Nat.le_of_ble_eq_true h8.1)) hdec hrm
          · rw [List.length_map]
            simp only [List.length_cons] at hlen
            omega
          · show ((.inr (.inr (some a)) :: t).reverse ++ r).map (cv ad) = (t.map (cv ad)).reverse ++ .ref (ad a) :: r.map (cv ad)
            simp [cv]
        | 3, h, hk =>
          have hk : (at3 nls C (fun q => Nat.beq q.1 (own m) && (Nat.beq q.2.1 i && Nat.beq q.2.2 A')) && (Nat.beq B (md A').2.2.1 && (Nat.beq k (md A').2.2.2.2.2.2.2.1 && (Nat.beq 2 (md A').2.2.2.2.2.2.2.2 && chkR m A')))) = true := hk
          simp only [Bool.and_eq_true] at hk
          obtain ⟨hk0, hBm, hkn, hkd, hroom⟩ := hk
          obtain ⟨q, hq, hk1⟩ := at3_inv hk0
          simp only [Bool.and_eq_true] at hk1
          obtain ⟨g1, g2, g3⟩ := hk1
          have hnw := hN q hq
          rw [Nat.eq_of_beq_eq_true g1, Nat.eq_of_beq_eq_true g2, Nat.eq_of_beq_eq_true g3, kNm_own] at hnw
          have hBm := Nat.eq_of_beq_eq_true hBm
          have hkn := Nat.eq_of_beq_eq_true hkn
          have hkd := Nat.eq_of_beq_eq_true hkd
          obtain ⟨as, r, rfl, hlen, h⟩ := pp_inv h
          rw [List.append_nil] at h
          obtain ⟨h8, h⟩ := qb_inv h
          rw [Bool.and_eq_true] at h8
          obtain ⟨a, t, rfl, h⟩ := qr_inv h
          obtain ⟨rv, G1, hg1, hg2, hM, nx⟩ := ncl A' B _ r h hBm (Nat.le_of_ble_eq_true h8.2)
          obtain ⟨m1, m2, m3, m4, m5, m6⟩ := k_md A'
          obtain ⟨m7, m8, m9⟩ := m6 hkd.symm
          refine e_calls hC0 hinj hAd hA hI0 hg1 hg2 hM (fun free mc ms Qc hMet emc ems hrm hPc => ?_) nx
          refine va_runIN (n := (md A').2.2.2.2.2.2.2.1) (b := ad a) (As := t.map (cv ad)) ⟨hx, hb, hml, hown, hts⟩ hMet ⟨va_cnB _ hts (wsm_in m1) (by unfold wsm; rw [m9]) emc.symm ems.symm hnw (hts' _ m2) m3 (k_room hroom hRf hRl), m8, hts' _ m7⟩ ⟨Pcm_blind _ _ _ _ _ _, hPc⟩ rfl ?_ hl.1 ?_ (lv_room (by rw [cats_map]; exact Nat.le_of_ble_eq_true h8.1)) hdec hrm
          · rw [List.length_map]
            simp only [List.length_cons] at hlen
            omega
          · show ((.inr (.inr (some a)) :: t).reverse ++ r).map (cv ad) = (t.map (cv ad)).reverse ++ .ref (ad a) :: r.map (cv ad)
            simp [cv]
        | 4, h, hk =>
          obtain ⟨hlink, hf1, hf2⟩ := k_prim (kd := 4) hk
          obtain ⟨x, r, rfl, h⟩ := qr_inv h
          obtain ⟨h8, h⟩ := qb_inv h
          refine W.objInit hx hb hown (hts' _ hlink) (hts' _ (inT_ok obj_ok.1)) (hts' _ (inT_ok obj_ok.2)) rfl (hl.1.trans hml.symm) rfl hdec (by rw [hRf]; exact hf1) (by have := Nat.le_of_ble_eq_true h8; rw [hRl]; show 2 * 0 + ((r.map (cv ad)).map fun v => v.category).sum + 12 ≤ _; rw [cats_map]; omega) ?_
          exact nx0 (pc + 3) r h
      | _ => cases h
/-- a method's runs give its contract -/
theorem ctr (l : Launch) (D : va_G) {z mL : Nat} {as : List AV} {G G' : GM} {v : Option AV} {n : Nat} (hm : mL = (md z).2.2.1) (hc : cats as ≤ mL) (h : exec n z 0 (alocs mL as) [] G = some (v, G')) : Ctr l D z as G v G' := by
  subst hm
  exact Ctr_of (snd l D _ _ _ _ _ _ _ _ h) hc (exec_grow _ _ _ _ _ _ _ h)

/-! the law's loop, and its start -/
theorem and63 (w : Int32) : ∃ j : Nat, j < 64 ∧ (w &&& 63).toInt = (j : Int) := by
  have h1 : (w &&& 63).toBitVec = w.toBitVec &&& 63#32 := rfl
  have h2 : (w.toBitVec &&& 63#32).toNat < 64 := by
    rw [BitVec.toNat_and]
    exact Nat.lt_of_le_of_lt Nat.and_le_right (by decide)
  refine ⟨(w.toBitVec &&& 63#32).toNat, h2, ?_⟩
  show (w &&& 63).toBitVec.toInt = _
  rw [h1, BitVec.toInt_eq_toNat_of_lt (by omega)]
section LAWS
variable {p : Program} {l : Launch} {e : Env} {s : State} {m : MethodId} {below : List Frame} {meth : Method} {c : Code} {b L : Nat} {xs : Nat → Int32} {D : va_G} {cA : ClassId}
theorem law_loop (C : LCx p s m meth c b L xs D cA) {cells slots : Nat} (hcl : cells ≤ 600000) (hsl : slots ≤ 7302250) : ∀ (n i : Nat) (S : ST) (H : Heap) (locs : List Loc) (ls : Array Slot), L + 8 ≤ i + n → i ≤ L + 7 → SOK S → LW D cA s S H locs → lv_has ls 4 [(0, .ref b), (1, .ref (ad1 s 0)), (2, .ref (ad2 s 0)), (3, .int (nI i))] →
    W p l e room_1 s m #[Value.ref b] below meth c H locs cells slots (lw_Z below #[Value.ref b] s) (F0 m 18 ls []) := by
  have C' := C
  obtain ⟨⟨hx, hb, hr, hml, hown, hts, hX, hbl, hlocks, hgv⟩, hL5, hK, hN⟩ := C
  have hbA : ¬ lA s b := Nat.not_le.mpr hbl
  intro n
  induction n with
  | zero => intro i S H locs ls h1 h2; omega
  | succ n ih =>
    intro i S H locs ls hin hil hS hLW hl
    have hLW0 := hLW
    obtain ⟨q, M1, M2, hRC, hRM, hP1, hP2, hSS⟩ := hLW
    have g0 := lv_at hl 0 rfl
    have g3 := lv_at hl 3 rfl
    refine lv_iload_n hx hb d_law_18 rfl g3 (lv_aload_n hx hb d_law_19 rfl g0 (va_slen hx hb hX hbl hbA hSS d_law_20 (lv_bipush (v := 7) hx hb d_law_21 (by decide) (lv_isub hx hb d_law_23 ?_))))
    have e7 : Int32.ofNat L - 7 = Int32.ofInt ((L : Int) - 7) := by
      rw [Int32.ofInt_sub]
      show Int32.ofNat L - 7 = Int32.ofInt ((L : Nat) : Int) - Int32.ofInt 7
      rw [Int32.ofInt_eq_ofNat]; rfl
    have ei : nI i = Int32.ofInt ((i : Nat) : Int) := by
      show Int32.ofNat i = _
      rw [Int32.ofInt_eq_ofNat]
    rw [e7]
    refine lv_icmp_gt (tgt := 2388) hx hb d_law_24 (by decide) (fun _ => ?_) (fun z => ?_)
    · refine lv_iconst (v := 1) hx hb d_law_2388 (by decide) ?_
      refine va_forget (fun q hq => hSS.2.2 q hq) ?_
      refine W.widen (k := 600000) (n := 7302250) hcl hsl ?_
      exact lw_ret hx hb hr hlocks d_law_2389
    · rw [ei, c_lt, wlt (by omega) (by omega) (by omega) (by omega)] at z
      have hi : i + 7 ≤ L := by omega
      refine lv_aload_n hx hb d_law_27 rfl g0 (lv_iload_n hx hb d_law_28 rfl g3 ?_)
      refine va_sld hx hb hX hbl hbA hSS (vp_in_nI (show i < L by omega) (by omega)) d_law_29 ?_
      refine lv_bipush (v := 63) hx hb d_law_30 (by decide) (lv_iand hx hb d_law_32 ?_)
      obtain ⟨j, hj, ej⟩ := and63 (xs (nI i).toNatClampNeg)
      have nxt : ∀ S' H1 locs1, SOK S' → LW D cA s S' H1 locs1 → W p l e room_1 s m #[Value.ref b] below meth c H1 locs1 cells slots (lw_Z below #[Value.ref b] s) (F0 m 2382 ls []) := by
        intro S' H1 locs1 hS' hLW'
        refine lv_iinc (v := nI (i + 7)) (lv' := [(3, .int (nI (i + 7))), (0, .ref b), (1, .ref (ad1 s 0)), (2, .ref (ad2 s 0))]) hx hb d_law_2382 hl (k := 3) rfl (nI_add i 7) (by decide) rfl (fun ls' hl' => ?_)
        refine lv_goto (tgt := 18) hx hb d_law_2385 (by decide) ?_
        exact ih (i + 7) S' H1 locs1 ls' (by omega) (by omega) hS' hLW' (lv_sub hl' [1, 2, 3, 0] rfl)
      by_cases g : j < 54
      · have hsw := of_decide_eq_true (List.all_eq_true.mp sw_ok j (List.mem_range.mpr g))
        refine lv_tableIn (tgt := tgs.getD j 0) hx hb d_sw (by rw [ej]; omega) (by rw [ej]; omega) (by rw [ej, show ((j : Int) - 0).toNat = j by omega]; exact hsw) (by show (33 : Int) + (((tgs.getD j 0 : Nat) : Int) - 33) = _; omega) ?_
        exact law_cases C' hi j g S H locs ls cells slots _ hcl hsl hS hLW0 hl nxt
      · refine lv_tableOut (tgt := 2382) hx hb d_sw (Or.inr (by rw [ej]; omega)) (by decide) ?_
        exact nxt S H locs hS hLW0
theorem law_world (hts : ∀ w ∈ lw_tbl, w.before #[Value.ref b] s = true) : ∃ (D : va_G) (cA : ClassId), va_K D kCls [(cA, .int)] s ∧ nestOk s := by
  have h1 : ∀ k, ∃ (cC : ClassId) (iS : Nat → Nat), k < 10 → u_Kn s (kNm k) (kT k) (kN k) cC iS := by
    intro k
    by_cases hk : k < 10
    · have hins : Cond.instantiable (kNm k) (kN k) ∈ lw_tbl := List.mem_of_getElem? (of_decide_eq_true (List.all_eq_true.mp inst_ok k (List.mem_range.mpr hk)))
      obtain ⟨cC, iS, h⟩ := u_known (C := kNm k) (T := kT k) (N := kN k) (n := kN k) hts (fun w hw => tbl_in (cls_in k hk w hw)) (hts _ hins)
      exact ⟨cC, iS, fun _ => h⟩
    · exact ⟨default, default, fun h => absurd h hk⟩
  obtain ⟨cA, kA, comp, f1, f2, f3⟩ := Cond.arrayClass_spec (hts _ (tbl_in (inT_ok arr_ok)))
  refine ⟨(fun k => Classical.choose (h1 k), fun k => Classical.choose (Classical.choose_spec (h1 k))), cA, ⟨fun k q hq => ?_, fun k q hq => ?_⟩, fun q hq => ?_⟩
  · have hk : k < 10 := (List.getElem?_eq_some_iff.mp hq).1
    rw [kCls_at k hk] at hq
    cases hq
    exact Classical.choose_spec (Classical.choose_spec (h1 k)) hk
  · have hk : k < 1 := (List.getElem?_eq_some_iff.mp hq).1
    rw [show k = 0 by omega] at hq
    cases hq
    exact ⟨fun n z => ⟨fun k h => (by cases h), kA, f2, comp, f3⟩, f1⟩
  · obtain ⟨k, hk⟩ := List.getElem?_of_mem hq
    have h2 := List.all_eq_true.mp nest_in k (List.mem_range.mpr (List.getElem?_eq_some_iff.mp hk).1)
    rw [hk] at h2
    exact va_Nw.of rfl (hts _ (List.mem_of_getElem? (of_decide_eq_true h2)))
end LAWS
theorem siz_C : siz LC ≤ 20000 := by decide +kernel
theorem siz_M : siz (LM none) ≤ 20000 := by decide +kernel

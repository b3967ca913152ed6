/-! lots: both sides answer alike -/
theorem iand_nn (x : Int) : 0 ≤ iand x 2147483647 := by
  unfold iand
  have h : (Int32.ofInt x &&& Int32.ofInt 2147483647).toBitVec.msb = false := by
    rw [Int32.toBitVec_and, BitVec.msb_and]
    have : (Int32.ofInt 2147483647).toBitVec.msb = false := by decide
    rw [this, Bool.and_false]
  show 0 ≤ (Int32.ofInt x &&& Int32.ofInt 2147483647).toBitVec.toInt
  rw [BitVec.toInt_eq_msb_cond, h]
  simp
def dr (s : Int) : Int := rmd (dv (iand s 2147483647) 65536) 10
theorem iand_hi (x : Int) : iand x 2147483647 < 2147483648 := Int32.toInt_lt _
theorem dr_le (s : Int) : 0 ≤ dr s ∧ dr s ≤ 9 := by
  have h1 := iand_nn s
  have h2 := iand_hi s
  unfold dr
  rw [dv_nat h1 h2 (by omega) (by omega), rmd_nat (by omega) (by omega) (by omega) (by omega)]
  omega
def sd (z : Int) : Nat → Int
  | 0 => z
  | n + 1 => sd z n * 1103515245 + 12345
/-- the figures that are drawn behind b draws -/
def fD (z : Int) (b : Nat) : Nat → Int := fun y => dr (sd z (b + y + 1))
def setFg (F : FS) (g : Nat → Int) : FS := (yd F, ln F, pn F, kd F, g, ar F, hv F, hd F)
def gD (F : FS) (z : Int) (b : Nat) : Nat → Int := fun i => if 20 * (ln F).toNat ≤ i ∧ i < 20 * (ln F).toNat + (yd F).toNat then fD z b (i - 20 * (ln F).toNat) else fg F i
abbrev rL (F : FS) (p : Nat) (h pace z : Int) (i : Nat) : RS := sRun (lk F (ln F).toNat) (fD z (i * (yd F).toNat)) (ar F p) (hv F p) (hd F p) h pace (some (ar F p, 0, 0, 0)) (yd F).toNat
theorem FOK.fg {F : FS} (hF : FOK F) {g : Nat → Int} (hg : ∀ i, i < 40 → 0 ≤ g i ∧ g i ≤ 9) : FOK (setFg F g) := ⟨hF.1, hF.2.1, hF.2.2.1, hF.2.2.2.1, hg, hF.2.2.2.2.2⟩
theorem TB_rL {F : FS} (hF : FOK F) {p : Nat} (hp : p < 6) {h pace : Int} (hb : BOK h pace) (z : Int) (i : Nat) : TB (rL F p h pace z i) := by
  have hG : FOK (setFg F (gD F z (i * (yd F).toNat))) := hF.fg (fun j hj => by
    unfold gD
    split
    · exact dr_le _
    · exact hF.2.2.2.2.1 j hj)
  have t := TB_race (lane := (ln F).toNat) (p := p) hG (hln hF) hp hb
  have e : sRace (setFg F (gD F z (i * (yd F).toNat))) (ln F).toNat p h pace = rL F p h pace z i := by
    refine sRun_ext (yd F).toNat (fun y hy => ⟨rfl, ?_⟩)
    show gD F z (i * (yd F).toNat) (20 * (ln F).toNat + y) = _
    unfold gD
    rw [if_pos ⟨by omega, by omega⟩, show 20 * (ln F).toNat + y - 20 * (ln F).toNat = y by omega]
  rw [e] at t; exact t
def va (s : RS) : Int := match s with
  | none => 999
  | some (_, t, _, _) => t
def nv (s : RS) : Int := match s with
  | none => 1
  | some _ => 0
theorem vaC {s : RS} (h : TB s) : (if wr (tvC s) < wr 10000000 then tvC s else 999) = va s ∧ (if wr (tvC s) < wr 10000000 then (0 : Int) else 1) = nv s := by
  have hle := tvC_le h
  rw [wr_id (x := tvC s) (by omega) (by omega), wr_id (x := 10000000) (by omega) (by omega)]
  cases s with
  | none => exact ⟨rfl, rfl⟩
  | some z =>
    obtain ⟨l, t, a, b⟩ := z
    have h2 : 0 ≤ t ∧ t ≤ 9000 := h
    show (if t < 10000000 then t else 999) = t ∧ (if t < 10000000 then (0 : Int) else 1) = 0
    rw [if_pos (by omega), if_pos (by omega)]; exact ⟨rfl, rfl⟩
theorem vaM {s : RS} (h : TB s) : (if wr (tvM s) = wr 9999999 then 999 else tvM s) = va s ∧ (if wr (tvM s) = wr 9999999 then (1 : Int) else 0) = nv s := by
  have hle := tvM_le h
  rw [wr_id (x := tvM s) (by omega) (by omega), wr_id (x := 9999999) (by omega) (by omega)]
  cases s with
  | none => exact ⟨rfl, rfl⟩
  | some z =>
    obtain ⟨l, t, a, b⟩ := z
    have h2 : 0 ≤ t ∧ t ≤ 9000 := h
    show (if t = 9999999 then 999 else t) = t ∧ (if t = 9999999 then (1 : Int) else 0) = 0
    rw [if_neg (by omega), if_neg (by omega)]; exact ⟨rfl, rfl⟩
def lo1 (F : FS) (p : Nat) (h pace z : Int) : Nat → Int
  | 0 => 0
  | i + 1 => lo1 F p h pace z i + va (rL F p h pace z i)
def lo2 (F : FS) (p : Nat) (h pace z : Int) : Nat → Int
  | 0 => 0
  | i + 1 => lo2 F p h pace z i + nv (rL F p h pace z i)
/-- a course whose figures are being drawn -/
def CD (F : FS) (M : Mem) (f : Nat → Int) (y : Nat) : Prop := M 36 0 = yd F ∧ (∀ j, j < (yd F).toNat → M 38 j = lk F (ln F).toNat j) ∧ ∀ j, j < y → M 40 j = f j
theorem L_lotC1 {S : ST} (hF : FOK (sF S)) {p : Nat} (hp : p < 6) {h pace : Int} (hb : BOK h pace) {z n w : Int} {i : Nat} {x9 x10 : Int} {Post : Option AV → GM → Prop}
    (hN : ∀ M, RC S M → CD (sF S) M (fD z ((i + 1) * (yd (sF S)).toNat)) 0 → TA i9_lots 98 [some (vr 0), some (vi (p : Int)), some (vi h), some (vi pace), some (vi n), none, some (vi w), none, some (vi (sd z ((i + 1) * (yd (sF S)).toNat))), some (vi (x9 + va (rL (sF S) p h pace z i))), some (vi (x10 + nv (rL (sF S) p h pace z i))), some (vi ((i : Int) + 1)), none] [] (LC, M) Post) : ∀ (k y : Nat) (M : Mem), y + k = (yd (sF S)).toNat → RC S M → CD (sF S) M (fD z (i * (yd (sF S)).toNat)) y →
    TA i9_lots 108 [some (vr 0), some (vi (p : Int)), some (vi h), some (vi pace), some (vi n), none, some (vi w), none, some (vi (sd z (i * (yd (sF S)).toNat + y))), some (vi x9), some (vi x10), some (vi (i : Int)), some (vi (y : Int))] [] (LC, M) Post
  | 0, y, M, hy, hM, hC => by
    obtain ⟨hy1, hy2⟩ := hF.1
    obtain ⟨pa, ph, pd⟩ := hF.P hp
    have e : y = (yd (sF S)).toNat := by omega
    subst e
    obtain ⟨c0, c1, c2⟩ := hC
    have tb := TB_rL hF hp hb z i
    have hCO : CO M 36 (yd (sF S)).toNat (lk (sF S) (ln (sF S)).toNat) (fD z (i * (yd (sF S)).toNat)) := ⟨by rw [c0]; omega, by omega, fun j hj => ⟨c1 j hj, c2 j hj, (hF.K (hln hF) (by omega)).1, dr_le _⟩⟩
    refine W9_lots_108 ⟨fun z => ?_, fun _ => ⟨wb0, ?_⟩⟩
    · rw [c0, wlt (by omega) (by omega) (by omega) (by omega)] at z; omega
    · rw [starts_eq hM.1 hp]
      refine T_overA hCO pa ph pd hb (fun M1 f1 _ => W9_lots_207 (W9_lots_224 ?_))
      have hv := vaC tb
      rw [hv.1, hv.2]
      have hsd : i * (yd (sF S)).toNat + (yd (sF S)).toNat = (i + 1) * (yd (sF S)).toNat := by rw [Nat.add_mul, Nat.one_mul]
      rw [hsd]
      exact hN M1 (hM.fr (FrC.of41 f1)) ⟨by rw [f1 36 (by omega)]; exact c0, fun j hj => by rw [f1 38 (by omega)]; exact c1 j hj, fun j hj => absurd hj (Nat.not_lt_zero _)⟩
  | k + 1, y, M, hy, hM, hC => by
    obtain ⟨hy1, hy2⟩ := hF.1
    obtain ⟨c0, c1, c2⟩ := hC
    have en : ((y + 1 : Nat) : Int) = (y : Int) + 1 := by omega
    have n2 : ((y : Int)).toNat = y := by omega
    refine W9_lots_108 ⟨fun _ => ⟨by decide, by decide, ?_⟩, fun z => ?_⟩
    · rw [wt_in (by omega) (by omega) (by omega), n2]
      have ih := L_lotC1 hF hp hb hN k (y + 1) (up M 40 y (dr (sd z (i * (yd (sF S)).toNat + y + 1)))) (by omega) (hM.fr (fun i hi => up_fr (by omega))) ⟨by rw [up_fr (by omega)]; exact c0, fun j hj => by rw [up_fr (by omega)]; exact c1 j hj, fun j hj => by
        by_cases e : j = y
        · rw [e, up_eq]; rfl
        · rw [up_sl e]; exact c2 j (by omega)⟩
      rw [en] at ih
      exact ih
    · rw [c0, wlt (by omega) (by omega) (by omega) (by omega)] at z; omega
theorem L_lotC2 {S : ST} (hF : FOK (sF S)) {p : Nat} (hp : p < 6) {h pace : Int} (hb : BOK h pace) {z w : Int} (iw : IR w) {n : Nat} (hn : n ≤ 20) : ∀ (k i : Nat) (M : Mem), i + k = n → RC S M → CD (sF S) M (fD z (i * (yd (sF S)).toNat)) 0 →
    TA i9_lots 98 [some (vr 0), some (vi (p : Int)), some (vi h), some (vi pace), some (vi (n : Int)), none, some (vi w), none, some (vi (sd z (i * (yd (sF S)).toNat))), some (vi (lo1 (sF S) p h pace z i)), some (vi (lo2 (sF S) p h pace z i)), some (vi (i : Int)), none] [] (LC, M) (CP S (if w = 0 then lo1 (sF S) p h pace z n else lo2 (sF S) p h pace z n))
  | 0, i, M, hi, hM, hC => by
    have e : i = n := by omega
    subst e
    refine W9_lots_98 ⟨fun z => ?_, fun _ => W9_lots_245 ⟨M, ?_, rfl, hM⟩⟩
    · rw [wlt (by omega) (by omega) (by omega) (by omega)] at z; omega
    · rw [iw.w]
  | k + 1, i, M, hi, hM, hC => by
    have en : ((i + 1 : Nat) : Int) = (i : Int) + 1 := by omega
    refine W9_lots_98 ⟨fun _ => ?_, fun z => ?_⟩
    · refine L_lotC1 hF hp hb (fun M1 hM1 hC1 => ?_) (yd (sF S)).toNat 0 M (by omega) hM hC
      have ih := L_lotC2 hF hp hb iw hn k (i + 1) M1 (by omega) hM1 hC1
      rw [en] at ih
      exact ih
    · rw [wlt (by omega) (by omega) (by omega) (by omega)] at z; omega
/-- the reference's field, its figures being drawn -/
def RD (F : FS) (M : Mem) (f : Nat → Int) (y : Nat) : Prop := RMf (setFg F (M 2)) M ∧ (∀ j, j < 40 → ¬ (20 * (ln F).toNat ≤ j ∧ j < 20 * (ln F).toNat + (yd F).toNat) → M 2 j = fg F j) ∧ ∀ j, j < y → M 2 (20 * (ln F).toNat + j) = f j
def FrL (M0 M : Mem) : Prop := (∀ i, (i = 6 ∨ i = 8 ∨ i = 13 ∨ i = 14 ∨ i = 24) → M i = M0 i) ∧ (∀ j, (j = 21 ∨ j = 30 ∨ j = 36 ∨ j = 48) → M 0 j = M0 0 j)
theorem L_lotM1 {S : ST} (hF : FOK (sF S)) {p : Nat} (hp : p < 6) {h pace : Int} (hb : BOK h pace) {z n w : Int} {i : Nat} {x9 x10 : Int} {M0 : Mem} {Post : Option AV → GM → Prop}
    (hN : ∀ M, RD (sF S) M (fD z ((i + 1) * (yd (sF S)).toNat)) 0 → Snap (sF S) (M 12) 0 → FrL M0 M → TA i10_lots 110 [some (vr 0), some (vi (p : Int)), some (vi h), some (vi pace), some (vi n), none, some (vi w), none, some (vi (sd z ((i + 1) * (yd (sF S)).toNat))), some (vi (x9 + va (rL (sF S) p h pace z i))), some (vi (x10 + nv (rL (sF S) p h pace z i))), some (vi ((i : Int) + 1)), none] [] (LM (some 12), M) Post) : ∀ (k y : Nat) (M : Mem), y + k = (yd (sF S)).toNat → RD (sF S) M (fD z (i * (yd (sF S)).toNat)) y → Snap (sF S) (M 12) 0 → FrL M0 M →
    TA i10_lots 120 [some (vr 0), some (vi (p : Int)), some (vi h), some (vi pace), some (vi n), none, some (vi w), none, some (vi (sd z (i * (yd (sF S)).toNat + y))), some (vi x9), some (vi x10), some (vi (i : Int)), some (vi (y : Int))] [] (LM (some 12), M) Post
  | 0, y, M, hy, hD, hS, hX => by
    obtain ⟨hy1, hy2⟩ := hF.1
    obtain ⟨hl1, hl2⟩ := hF.2.1
    have e : y = (yd (sF S)).toNat := by omega
    subst e
    obtain ⟨d0, d1, d2⟩ := hD
    have e2 : M 0 2 = yd (sF S) := d0.1
    have tb := TB_rL hF hp hb z i
    have hG : FOK (setFg (sF S) (M 2)) := hF.fg (fun j hj => by
      by_cases g : 20 * (ln (sF S)).toNat ≤ j ∧ j < 20 * (ln (sF S)).toNat + (yd (sF S)).toNat
      · have := d2 (j - 20 * (ln (sF S)).toNat) (by omega)
        rw [show 20 * (ln (sF S)).toNat + (j - 20 * (ln (sF S)).toNat) = j by omega] at this
        rw [this]; exact dr_le _
      · rw [d1 j hj g]; exact hF.2.2.2.2.1 j hj)
    have er : sRace (setFg (sF S) (M 2)) (ln (setFg (sF S) (M 2))).toNat p h pace = rL (sF S) p h pace z i := sRun_ext (yd (sF S)).toNat (fun y hy => ⟨rfl, d2 y hy⟩)
    refine W10_lots_120 ⟨fun z => ?_, fun _ => T_plainRun hG hb hp d0 (fun M1 hL => W10_lots_201 (W10_lots_218 ?_))⟩
    · rw [e2, wlt (by omega) (by omega) (by omega) (by omega)] at z; omega
    · have hv := vaM tb
      rw [er, hv.1, hv.2]
      have hsd : i * (yd (sF S)).toNat + (yd (sF S)).toNat = (i + 1) * (yd (sF S)).toNat := by rw [Nat.add_mul, Nat.one_mul]
      rw [hsd]
      have f := hL.1
      have m2 : M1 2 = M 2 := f.1 2 (by omega) (by omega)
      refine hN M1 ⟨?_, fun j hj g => ?_, fun j hj => absurd hj (Nat.not_lt_zero _)⟩ (by rw [f.1 12 (by omega) (by omega)]; exact hS) ⟨fun i hi => by rw [f.1 i (by omega) (by omega)]; exact hX.1 i hi, fun j hj => by rw [f.2 j (by omega)]; exact hX.2 j hj⟩
      · rw [m2]; exact f.F d0
      · rw [m2]; exact d1 j hj g
  | k + 1, y, M, hy, hD, hS, hX => by
    obtain ⟨hy1, hy2⟩ := hF.1
    obtain ⟨hl1, hl2⟩ := hF.2.1
    obtain ⟨d0, d1, d2⟩ := hD
    have e2 : M 0 2 = yd (sF S) := d0.1
    have e3 : M 0 3 = ln (sF S) := d0.2.1
    have en : ((y + 1 : Nat) : Int) = (y : Int) + 1 := by omega
    have e20 : wr (20 * ln (sF S) + (y : Int)) = 20 * ln (sF S) + (y : Int) := wr_id (by omega) (by omega)
    have n20 : (20 * ln (sF S) + (y : Int)).toNat = 20 * (ln (sF S)).toNat + y := by omega
    refine W10_lots_120 ⟨fun _ => ⟨by decide, by decide, ?_⟩, fun z => ?_⟩
    · rw [e3, e20, n20]
      refine ⟨by omega, ?_⟩
      have ih := L_lotM1 hF hp hb hN k (y + 1) (up M 2 (20 * (ln (sF S)).toNat + y) (dr (sd z (i * (yd (sF S)).toNat + y + 1)))) (by omega) ⟨?_, fun j hj g => ?_, fun j hj => ?_⟩ (by rw [up_fr (by omega)]; exact hS) ⟨fun i hi => by rw [up_fr (by omega)]; exact hX.1 i hi, fun j hj => by rw [up_fr (by omega)]; exact hX.2 j hj⟩
      · rw [en] at ih; exact ih
      · obtain ⟨h1, h2, h3, h4, h5, h6⟩ := d0
        exact ⟨by rw [up_fr (by omega)]; exact h1, by rw [up_fr (by omega)]; exact h2, by rw [up_fr (by omega)]; exact h3, fun j hj => by rw [up_fr (by omega)]; exact h4 j hj, fun j hj => rfl, fun j hj => by rw [up_fr (i := 3) (by omega), up_fr (i := 4) (by omega), up_fr (i := 5) (by omega)]; exact h6 j hj⟩
      · rw [up_sl (by omega)]; exact d1 j hj g
      · by_cases e : j = y
        · rw [e, up_eq]; rfl
        · rw [up_sl (by omega)]; exact d2 j (by omega)
    · rw [e2, wlt (by omega) (by omega) (by omega) (by omega)] at z; omega
theorem L_lotM2 {S : ST} (hF : FOK (sF S)) {p : Nat} (hp : p < 6) {h pace : Int} (hb : BOK h pace) {z w : Int} (iw : IR w) {n : Nat} (hn : n ≤ 20) {M0 : Mem} (hM0 : RM S M0) : ∀ (k i : Nat) (M : Mem), i + k = n → RD (sF S) M (fD z (i * (yd (sF S)).toNat)) 0 → Snap (sF S) (M 12) 0 → FrL M0 M →
    TA i10_lots 110 [some (vr 0), some (vi (p : Int)), some (vi h), some (vi pace), some (vi (n : Int)), none, some (vi w), none, some (vi (sd z (i * (yd (sF S)).toNat))), some (vi (lo1 (sF S) p h pace z i)), some (vi (lo2 (sF S) p h pace z i)), some (vi (i : Int)), none] [] (LM (some 12), M) (MP S (if w = 0 then lo1 (sF S) p h pace z n else lo2 (sF S) p h pace z n))
  | 0, i, M, hi, hD, hS, hX => by
    have e : i = n := by omega
    subst e
    refine W10_lots_110 ⟨fun z => ?_, fun _ => T_put_12 (G := sF S) hS (fun M2 g1 g2 r2 => W10_lots_248 ⟨_, M2, ?_, rfl, hM0.x (fun i hi => ?_) (fun j hj => ?_) r2⟩)⟩
    · rw [wlt (by omega) (by omega) (by omega) (by omega)] at z; omega
    · rw [iw.w]
    · rw [g1 i (by omega)]; exact hX.1 i hi
    · rw [g2 j (by omega) (by omega) (by omega) (by omega) (by omega)]; exact hX.2 j hj
  | k + 1, i, M, hi, hD, hS, hX => by
    have en : ((i + 1 : Nat) : Int) = (i : Int) + 1 := by omega
    refine W10_lots_110 ⟨fun _ => ?_, fun z => ?_⟩
    · refine L_lotM1 hF hp hb (M0 := M0) (fun M1 hD1 hS1 hX1 => ?_) (yd (sF S)).toNat 0 M (by omega) hD hS hX
      have ih := L_lotM2 hF hp hb iw hn hM0 k (i + 1) M1 (by omega) hD1 hS1 hX1
      rw [en] at ih
      exact ih
    · rw [wlt (by omega) (by omega) (by omega) (by omega)] at z; omega
theorem SIM_lots {a h p n z w : Int} (ia : IR a) (ih : IR h) (ip : IR p) (it : IR n) (iw : IR w) : SIM i9_lots 13 i10_lots 13 [vi a, vi h, vi p, vi n, vi z, vi w] := by
  intro S hS
  have hF := hS.1
  have hy := hF.1
  have i1 : IR 1 := by unfold IR; omega
  obtain ⟨V, hV⟩ : ∃ V : Int, V = s3t (sF S) a h p n 1 20 := ⟨_, rfl⟩
  have hVb : -6 ≤ V ∧ V ≤ 0 := by rw [hV]; exact s3t_le _ _ _ _ _ _ _
  obtain ⟨W, hW⟩ : ∃ W : Int, W = sBit V w 1 := ⟨_, rfl⟩
  have hWb : -6 ≤ W ∧ W ≤ 0 := by rw [hW]; exact sBit_le hVb
  have kC : ∀ M Post, RC S M → ((W = 0 → TV i2_takes 4 [vr 36, vr 1, vi (M 1 1)] (LC, M) (fun M1 => TA i9_lots 98 [some (vr 0), some (vi a), some (vi h), some (vi p), some (vi n), none, some (vi w), none, some (vi z), some (vi 0), some (vi 0), some (vi 0), none] [] (LC, M1) Post)) ∧ (W ≠ 0 → Post (some (vi (f9_refuse W))) (LC, g9_refuse M W))) → TC i9_lots 13 [vr 0, vi a, vi h, vi p, vi n, vi z, vi w] (LC, M) Post := by
    intro M Post hM hAB
    refine W9_lots_0 (W9_lots_24 (W9_lots_44 ?_))
    have e3 : f9_orOther (f9_firstOf (f9_nobody M a) (if wr (f9_low h p) = 0 then (if wr n < wr 1 then (1 : Int) else 0) else 1) (if wr (f9_high h p) = 0 then (if wr 20 < wr n then (1 : Int) else 0) else 1)) w 1 = W := by
      rw [low3 ih ip, high3 ih ip, nob3 hF hM.1 ia, first_eq, it.w, wr1, wr_id (x := 20) (by omega) (by omega)]
      show f9_orOther (s3t (sF S) a h p n 1 20) w 1 = W
      rw [← hV, orOther_eq (by unfold IR; omega) iw i1, hW]
    rw [e3, wr_id (by omega) (by omega)]
    exact hAB
  have kM : ∀ q M Post, RM S M → TA i10_lots 66 [some (vr 0), some (vi a), some (vi h), some (vi p), some (vi n), some (vi z), some (vi w), some (vi V), none, none, none, none, none] [] (LM q, up M 0 8 0) Post → TC i10_lots 13 [vr 0, vi a, vi h, vi p, vi n, vi z, vi w] (LM q, M) Post := by
    intro q M Post hM k
    refine W10_lots_0 ⟨isOne_01 hF hM.1 ia, fun z => ?_, fun z => ?_⟩
    · have g : ¬ sWho (sF S) a := by
        intro g
        rw [isOne_eq hF hM.thr.1 ia, if_pos g, wr1] at z; omega
      rw [hV, s3t_1 g] at k; exact k
    · have g : sWho (sF S) a := by
        apply Classical.byContradiction
        intro c
        rw [isOne_eq hF hM.thr.1 ia, if_neg c] at z; exact z wr0
      have h4 : (h < 0 ∨ p < 1 ∨ n < 1) → TA i10_lots 37 [some (vr 0), some (vi a), some (vi h), some (vi p), some (vi n), some (vi _), some (vi w), none, none, none, none, none, none] [] (LM q, up M 0 8 0) Post := fun z => W10_lots_37 (by rw [hV, s3t_4 g z] at k; exact k)
      have h6 : ¬ (h < 0 ∨ p < 1 ∨ n < 1) → (2 < h ∨ 9 < p ∨ 20 < n) → TA i10_lots 62 [some (vr 0), some (vi a), some (vi h), some (vi p), some (vi n), some (vi _), some (vi w), none, none, none, none, none, none] [] (LM q, up M 0 8 0) Post := fun z y => W10_lots_62 (by rw [hV, s3t_6 g z y] at k; exact k)
      rw [ih.w, ip.w, it.w, wr1, wr_id (x := 2) (by omega) (by omega), wr_id (x := 9) (by omega) (by omega), wr_id (x := 20) (by omega) (by omega)]
      refine ⟨fun z => h4 (by omega), fun z1 => ⟨fun z => h4 (by omega), fun z2 => ⟨fun z => h4 (by omega), fun z3 => ⟨fun z => h6 (by omega) (by omega), fun z4 => ⟨fun z => h6 (by omega) (by omega), fun z5 => ⟨fun z => h6 (by omega) (by omega), fun z6 => ?_⟩⟩⟩⟩⟩⟩
      rw [hV, s3t_0 g (by omega) (by omega)] at k; exact k
  have k66 : f10_wrongBit V w 1 = W := by rw [wrongBit_eq (by unfold IR; omega) iw i1, hW]
  by_cases e : W = 0
  · obtain ⟨e1, w0, w1⟩ := sBit_ok (hW ▸ e)
    obtain ⟨ha, hB, t1, t20⟩ := s3t_ok (hV ▸ e1)
    obtain ⟨u, hu6, rfl, -⟩ := ha.n hF
    obtain ⟨m, rfl⟩ : ∃ m : Nat, n = (m : Int) := ⟨n.toNat, by omega⟩
    have e0 : (0 : Nat) * (yd (sF S)).toNat = 0 := Nat.zero_mul _
    refine ⟨if w = 0 then lo1 (sF S) u h p z m else lo2 (sF S) u h p z m, S, hS, fun M hM => kC M _ hM ⟨fun _ => ?_, fun y => absurd e y⟩, fun q M hM => kM q M _ hM (W10_lots_66 ⟨fun y => ?_, fun _ => T_take_12 (fun M2 hk => ?_)⟩)⟩
    · rw [hM.1.2.1]
      refine T_takes_36 hF hF.2.1 hM.1 (fun M1 f1 hC => ?_)
      have g1 : FrC M M1 := fun i hi => f1 i (by omega) (by omega) (by omega)
      have := L_lotC2 hF hu6 hB (z := z) iw (n := m) (by omega) m 0 M1 (by omega) (hM.fr g1) ⟨by rw [hC.1]; omega, fun j hj => (hC.2.2 j hj).1, fun j hj => absurd hj (Nat.not_lt_zero _)⟩
      rw [e0] at this
      exact this
    · rw [k66, e, wr0] at y; omega
    · have hT := hM.thr
      obtain ⟨g1, g2, -, -, g5⟩ := hk
      have hR2 : RMf (sF S) M2 := hT.1.fr (fun i a b => g1 i (by omega) (by omega)) (fun j a b => g2 j (by omega) (by omega))
      have := L_lotM2 hF hu6 hB (z := z) iw (n := m) (by omega) hT m 0 M2 (by omega) ⟨⟨hR2.1, hR2.2.1, hR2.2.2.1, hR2.2.2.2.1, fun j hj => rfl, hR2.2.2.2.2.2⟩, fun j hj _ => hR2.2.2.2.2.1 j hj, fun j hj => absurd hj (Nat.not_lt_zero _)⟩ (snap_reg hT.1 g5) ⟨fun i hi => g1 i (by omega) (by omega), fun j hj => g2 j (by omega) (by omega)⟩
      rw [e0] at this
      exact this
  · refine ⟨W, sRef S W, hS.ref _, fun M hM => kC M _ hM ⟨fun y => absurd y e, fun _ => C_ref hM (by omega)⟩, fun q M hM => kM q M _ hM (W10_lots_66 ?_)⟩
    rw [k66]
    refine ⟨fun _ => ⟨by rw [wr_id (by omega) (by omega)]; omega, M_ref hM.thr (by omega)⟩, fun y => ?_⟩
    rw [wr_id (by omega) (by omega)] at y; omega

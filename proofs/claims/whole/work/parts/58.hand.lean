/-! handicap, practice: both sides answer alike -/
def setW (F : FS) (p : Nat) (a h d : Int) : FS := (yd F, ln F, pn F, kd F, fg F, upn (ar F) p a, upn (hv F) p h, upn (hd F) p d)
theorem FOK.setW {F : FS} (hF : FOK F) {p : Nat} {a h d : Int} (ha : 1 ≤ a ∧ a ≤ 60) (hh : 1 ≤ h ∧ h ≤ 9) (hd' : 1 ≤ d ∧ d ≤ 9) : FOK (setW F p a h d) := by
  obtain ⟨h1, h2, h3, h4, h5, h6, h7⟩ := hF
  refine ⟨h1, h2, h3, h4, h5, fun j hj => ?_, fun j hj => ?_⟩
  · show 0 ≤ upn (ar F) p a j ∧ upn (ar F) p a j ≤ 60 ∧ 0 ≤ upn (hv F) p h j ∧ upn (hv F) p h j ≤ 9 ∧ 0 ≤ upn (hd F) p d j ∧ upn (hd F) p d j ≤ 9
    unfold upn
    by_cases e : j = p
    · rw [if_pos e, if_pos e, if_pos e]; omega
    · rw [if_neg e, if_neg e, if_neg e]; exact h6 j hj
  · show 1 ≤ upn (ar F) p a j ∧ 1 ≤ upn (hv F) p h j ∧ 1 ≤ upn (hd F) p d j
    unfold upn
    by_cases e : j = p
    · rw [if_pos e, if_pos e, if_pos e]; omega
    · rw [if_neg e, if_neg e, if_neg e]; exact h7 j hj
theorem race_setW {F : FS} {lane p : Nat} {a h d hold pace : Int} : sRace (setW F p a h d) lane p hold pace = sRun (lk F lane) (lf F lane) a h d hold pace (some (a, 0, 0, 0)) (yd F).toNat := by
  show sRun (lk F lane) (lf F lane) (upn (ar F) p a p) (upn (hv F) p h p) (upn (hd F) p d p) hold pace (some (upn (ar F) p a p, 0, 0, 0)) (yd F).toNat = _
  rw [upn_eq, upn_eq, upn_eq]
theorem u3_3 {M : Mem} {p : Nat} {a h d : Int} : up (up (up M 3 p a) 4 p h) 5 p d 3 = up M 3 p a 3 := by rw [up_fr (by omega), up_fr (by omega)]
theorem u3_4 {M : Mem} {p : Nat} {a h d : Int} : up (up (up M 3 p a) 4 p h) 5 p d 4 = up M 4 p h 4 := by
  rw [up_fr (by omega)]
  funext j
  by_cases e : j = p
  · rw [e, up_eq, up_eq]
  · rw [up_sl e, up_sl e, up_fr (by omega)]
theorem u3_5 {M : Mem} {p : Nat} {a h d : Int} : up (up (up M 3 p a) 4 p h) 5 p d 5 = up M 5 p d 5 := by
  funext j
  by_cases e : j = p
  · rw [e, up_eq, up_eq]
  · rw [up_sl e, up_sl e, up_fr (by omega), up_fr (by omega)]
theorem u3_o {M : Mem} {p : Nat} {a h d : Int} {i : Nat} (h3 : i ≠ 3) (h4 : i ≠ 4) (h5 : i ≠ 5) : up (up (up M 3 p a) 4 p h) 5 p d i = M i := by rw [up_fr h5, up_fr h4, up_fr h3]
theorem u_u {M : Mem} {c p j : Nat} {a a' x : Int} {f : Nat → Int} (h : up M c p a c j = f j) (hx : x = upn f p a' j) : up M c p a' c j = x := by
  rw [hx]
  unfold upn
  by_cases e : j = p
  · rw [if_pos e, e, up_eq]
  · rw [if_neg e, up_sl e]; rw [up_sl e] at h; exact h
theorem RMf.setW {F : FS} {M : Mem} {p : Nat} {a h d a' h' d' : Int} (hR : RMf F (up (up (up M 3 p a) 4 p h) 5 p d)) : RMf (setW F p a' h' d') (up (up (up M 3 p a') 4 p h') 5 p d') := by
  obtain ⟨h1, h2, h3, h4, h5, h6⟩ := hR
  rw [u3_o (by omega) (by omega) (by omega)] at h1 h2 h3
  refine ⟨?_, ?_, ?_, fun j hj => ?_, fun j hj => ?_, fun j hj => ?_⟩
  · rw [u3_o (by omega) (by omega) (by omega)]; exact h1
  · rw [u3_o (by omega) (by omega) (by omega)]; exact h2
  · rw [u3_o (by omega) (by omega) (by omega)]; exact h3
  · have := h4 j hj
    rw [u3_o (by omega) (by omega) (by omega)] at this ⊢; exact this
  · have := h5 j hj
    rw [u3_o (by omega) (by omega) (by omega)] at this ⊢; exact this
  · obtain ⟨q1, q2, q3⟩ := h6 j hj
    rw [u3_3] at q1 ⊢
    rw [u3_4] at q2 ⊢
    rw [u3_5] at q3 ⊢
    exact ⟨u_u q1 rfl, u_u q2 rfl, u_u q3 rfl⟩
theorem FrR.re3 {M M' : Mem} {p : Nat} {a h d a' h' d' : Int} (f : FrR (up (up (up M 3 p a') 4 p h') 5 p d') M') : FrR (up (up (up M 3 p a) 4 p h) 5 p d) (up (up (up M' 3 p a) 4 p h) 5 p d) := by
  obtain ⟨f1, f2⟩ := f
  have un : ∀ (c : Nat) (x y : Int), M' c = up M c p x c → up M' c p y c = up M c p y c := by
    intro c x y e
    funext j
    have ej := congrFun e j
    by_cases g : j = p
    · rw [g, up_eq, up_eq]
    · rw [up_sl g] at ej ⊢
      rw [up_sl g]; exact ej
  refine ⟨fun i i0 i7 => ?_, fun j hj => ?_⟩
  · have fi := f1 i i0 i7
    by_cases e3 : i = 3
    · subst e3
      rw [u3_3] at fi ⊢
      rw [u3_3]; exact un 3 _ _ fi
    · by_cases e4 : i = 4
      · subst e4
        rw [u3_4] at fi ⊢
        rw [u3_4]; exact un 4 _ _ fi
      · by_cases e5 : i = 5
        · subst e5
          rw [u3_5] at fi ⊢
          rw [u3_5]; exact un 5 _ _ fi
        · rw [u3_o e3 e4 e5] at fi ⊢
          rw [u3_o e3 e4 e5]; exact fi
  · have := f2 j hj
    rw [u3_o (by omega) (by omega) (by omega)] at this ⊢
    rw [u3_o (by omega) (by omega) (by omega)]; exact this
/-- the person p as she was -/
abbrev Ro (F : FS) (p : Nat) (M : Mem) : Mem := up (up (up M 3 p (ar F p)) 4 p (hv F p)) 5 p (hd F p)
theorem Ro_id {F : FS} {M : Mem} (hR : RMf F M) {p : Nat} (hp : p < 6) : Ro F p M = M := by
  obtain ⟨q1, q2, q3⟩ := hR.2.2.2.2.2 p hp
  unfold Ro
  rw [up_idv q1, up_idv q2, up_idv q3]
/-- a race of one whose numbers are other ones for once -/
theorem T_runW {q : Option Nat} {S : ST} (hF : FOK (sF S)) {p : Nat} (hp : p < 6) {a h d : Int} (ha : 1 ≤ a ∧ a ≤ 60) (hh : 1 ≤ h ∧ h ≤ 9) (hd' : 1 ≤ d ∧ d ≤ 9) {hold pace : Int} (hb : BOK hold pace) {M : Mem} (hM : RM S (Ro (sF S) p M)) {K : Int → Mem → Prop}
    (hK : ∀ M', RM S (Ro (sF S) p M') → (M' 4 p = h ∧ M' 5 p = d) → K (tvM (sRace (setW (sF S) p a h d) (ln (sF S)).toNat p hold pace)) M') : TI i10_plainRun 4 [vr 0, vi (p : Int), vi hold, vi pace] (LM q, up (up (up M 3 p a) 4 p h) 5 p d) K := by
  refine T_plainRun (F := setW (sF S) p a h d) (hF.setW ha hh hd') hb hp hM.1.setW (fun M' hL => hK M' (hM.fr (FrR.re3 hL.1).q) ?_)
  rw [hL.1.1 4 (by omega) (by omega), hL.1.1 5 (by omega) (by omega), up_eq, up_fr (by omega), up_eq]
  exact ⟨rfl, rfl⟩
abbrev fHan (F : FS) (p : Nat) (h pace : Int) (v : Nat) : RS := sRace (setW F p (v : Int) (hv F p) (hd F p)) (ln F).toNat p h pace
def sHan (F : FS) (p : Nat) (h pace t : Int) : Nat → Nat → Int
  | 0, _ => -9
  | k + 1, v => if t < tvM (fHan F p h pace v) then sHan F p h pace t k (v + 1) else (v : Int)
theorem sHan_lt {F : FS} {p : Nat} {h pace t : Int} {k v : Nat} (g : t < tvM (fHan F p h pace v)) : sHan F p h pace t (k + 1) v = sHan F p h pace t k (v + 1) := if_pos g
theorem sHan_ge {F : FS} {p : Nat} {h pace t : Int} {k v : Nat} (g : ¬ t < tvM (fHan F p h pace v)) : sHan F p h pace t (k + 1) v = (v : Int) := if_neg g
theorem TB_setW {F : FS} (hF : FOK F) {p : Nat} (hp : p < 6) {a h d : Int} (ha : 1 ≤ a ∧ a ≤ 60) (hh : 1 ≤ h ∧ h ≤ 9) (hd' : 1 ≤ d ∧ d ≤ 9) {hold pace : Int} (hb : BOK hold pace) : TB (sRace (setW F p a h d) (ln F).toNat p hold pace) := TB_race (hF.setW ha hh hd') (hln hF) hp hb
theorem tvC9 {s : RS} (h : TB s) {t : Int} (ht : t ≤ 9999) : t < tvC s ↔ t < tvM s := by
  cases s with
  | none => exact ⟨fun _ => by show t < 9999999; omega, fun _ => by show t < 10000000; omega⟩
  | some z => exact Iff.rfl
theorem L_hanC {S : ST} (hF : FOK (sF S)) {p : Nat} (hp : p < 6) (h1 : 1 ≤ hv (sF S) p ∧ 1 ≤ hd (sF S) p) {h pace : Int} (hb : BOK h pace) {t : Int} (ht : 0 ≤ t ∧ t ≤ 9999) : ∀ (k v : Nat) (M : Mem), v + k = 61 → 1 ≤ v → RC S M → CO M 36 (yd (sF S)).toNat (lk (sF S) (ln (sF S)).toNat) (lf (sF S) (ln (sF S)).toNat) →
    TA i9_handicap 82 [some (vr 0), some (vi (p : Int)), some (vi h), some (vi pace), some (vi t), none, some (vi (v : Int))] [] (LC, M) (CP S (sHan (sF S) p h pace t k v))
  | 0, v, M, hv', h1', hM, hC => by
    have e : v = 61 := by omega
    subst e
    exact W9_handicap_82 ⟨fun _ => ⟨M, rfl, rfl, hM⟩, fun z => absurd (by decide) z⟩
  | k + 1, v, M, hv', h1', hM, hC => by
    obtain ⟨pa, ph, pd⟩ := hF.P hp
    have e1 : ((v + 1 : Nat) : Int) = (v : Int) + 1 := by omega
    have tb : TB (fHan (sF S) p h pace v) := TB_setW hF hp (a := (v : Int)) (h := hv (sF S) p) (d := hd (sF S) p) (by omega) (by omega) (by omega) hb
    have hle := tvC_le tb
    obtain ⟨-, o2, o3⟩ := ofP_eq hM.1 hp
    refine W9_handicap_82 ⟨fun z => ?_, fun _ => ⟨wb0, ?_⟩⟩
    · rw [wlt (by omega) (by omega) (by omega) (by omega)] at z; omega
    · rw [o2, o3]
      refine T_overA hC (by omega) (by omega) (by omega) hb (fun M' f hW => ?_)
      have er : sRun (lk (sF S) (ln (sF S)).toNat) (lf (sF S) (ln (sF S)).toNat) (v : Int) (hv (sF S) p) (hd (sF S) p) h pace (some ((v : Int), 0, 0, 0)) (yd (sF S)).toNat = fHan (sF S) p h pace v := race_setW.symm
      rw [er]
      have hM' := hM.fr (FrC.of41 f)
      have ih := L_hanC hF hp h1 hb ht k (v + 1) M' (by omega) (by omega) hM' (hC.fr f)
      rw [e1] at ih
      rw [wlt (by omega) (by omega) (by omega) (by omega), tvC9 tb ht.2]
      refine ⟨fun z => ?_, fun z => ?_⟩
      · rw [sHan_lt z]; exact ih
      · rw [sHan_ge z]; exact ⟨M', rfl, rfl, hM'⟩
theorem L_hanM {S : ST} (hF : FOK (sF S)) {p : Nat} (hp : p < 6) (h1 : 1 ≤ hv (sF S) p ∧ 1 ≤ hd (sF S) p) {h pace : Int} (hb : BOK h pace) {t : Int} (ht : 0 ≤ t ∧ t ≤ 9999) {q : Option Nat} : ∀ (k v : Nat) (M : Mem), v + k = 61 → 1 ≤ v → RM S (Ro (sF S) p M) → (M 4 p = hv (sF S) p ∧ M 5 p = hd (sF S) p) →
    TA i10_handicap 93 [some (vr 0), some (vi (p : Int)), some (vi h), some (vi pace), some (vi t), none, some (vi (ar (sF S) p)), some (vi (-9)), some (vi (v : Int))] [] (LM q, M) (MP S (sHan (sF S) p h pace t k v)) := by
  have fin : ∀ (r : Int) (M : Mem), RM S (Ro (sF S) p M) → (M 4 p = hv (sF S) p ∧ M 5 p = hd (sF S) p) → TA i10_handicap 140 [some (vr 0), some (vi (p : Int)), none, none, none, none, some (vi (ar (sF S) p)), some (vi r), none] [] (LM q, M) (MP S r) := by
    intro r M hM hk
    refine W10_handicap_140 ⟨by rw [wr_id (by omega) (by omega)]; omega, ?_⟩
    rw [wr_id (x := (p : Int)) (by omega) (by omega), show ((p : Int)).toNat = p by omega]
    have e : Ro (sF S) p M = up M 3 p (ar (sF S) p) := by
      unfold Ro
      rw [up_idv (M := up M 3 p (ar (sF S) p)) (a := 4) (by rw [up_fr (by omega)]; exact hk.1), up_idv (M := up M 3 p (ar (sF S) p)) (a := 5) (by rw [up_fr (by omega)]; exact hk.2)]
    rw [← e]
    exact ⟨q, _, rfl, rfl, hM⟩
  intro k
  induction k with
  | zero =>
    intro v M hv' h1' hM hk
    have e : v = 61 := by omega
    subst e
    exact W10_handicap_93 ⟨fun _ => fin _ M hM hk, fun z => absurd (by decide) z⟩
  | succ k ih =>
    intro v M hv' h1' hM hk
    obtain ⟨pa, ph, pd⟩ := hF.P hp
    have e1 : ((v + 1 : Nat) : Int) = (v : Int) + 1 := by omega
    have tb : TB (fHan (sF S) p h pace v) := TB_setW hF hp (a := (v : Int)) (h := hv (sF S) p) (d := hd (sF S) p) (by omega) (by omega) (by omega) hb
    have hle := tvM_le tb
    refine W10_handicap_93 ⟨fun z => ?_, fun _ => ⟨fun _ => ⟨by rw [wr_id (by omega) (by omega)]; omega, ?_⟩, fun z => absurd (by decide) z⟩⟩
    · rw [wlt (by omega) (by omega) (by omega) (by omega)] at z; omega
    · rw [wr_id (x := (p : Int)) (by omega) (by omega), show ((p : Int)).toNat = p by omega]
      have e : up M 3 p (v : Int) = up (up (up M 3 p (v : Int)) 4 p (hv (sF S) p)) 5 p (hd (sF S) p) := by
        rw [up_idv (M := up M 3 p (v : Int)) (a := 4) (by rw [up_fr (by omega)]; exact hk.1), up_idv (M := up M 3 p (v : Int)) (a := 5) (by rw [up_fr (by omega)]; exact hk.2)]
      rw [e]
      refine T_runW hF hp (by omega) (by omega) (by omega) hb hM (fun M' hM' hk' => W10_handicap_132 ?_)
      rw [wr_id (x := t) (by omega) (by omega), show sRace (setW (sF S) p (v : Int) (hv (sF S) p) (hd (sF S) p)) (ln (sF S)).toNat p h pace = fHan (sF S) p h pace v from rfl, wr_id (x := tvM (fHan (sF S) p h pace v)) (by omega) (by omega)]
      by_cases g : t < tvM (fHan (sF S) p h pace v)
      · rw [if_pos g, sHan_lt g]
        have ih2 := ih (v + 1) M' (by omega) (by omega) hM' hk'
        rw [e1] at ih2; exact ih2
      · rw [if_neg g, sHan_ge g]
        refine W10_handicap_93 ⟨fun _ => fin _ M' hM' hk', fun _ => ⟨fun z => ?_, fun _ => fin _ M' hM' hk'⟩⟩
        rw [wr_id (by omega) (by omega)] at z; omega
theorem SIM_handicap {a h p t : Int} (ia : IR a) (ih : IR h) (ip : IR p) (it : IR t) : SIM i9_handicap 7 i10_handicap 9 [vi a, vi h, vi p, vi t] := by
  intro S hS
  have hF := hS.1
  have hy := hF.1
  obtain ⟨W, hW⟩ : ∃ W : Int, W = s3t (sF S) a h p t 0 9999 := ⟨_, rfl⟩
  have hWb : -6 ≤ W ∧ W ≤ 0 := by rw [hW]; exact s3t_le _ _ _ _ _ _ _
  have kC : ∀ M Post, RC S M → ((W = 0 → TV i2_takes 4 [vr 36, vr 1, vi (M 1 1)] (LC, M) (fun M1 => TA i9_handicap 82 [some (vr 0), some (vi a), some (vi h), some (vi p), some (vi t), none, some (vi 1)] [] (LC, M1) Post)) ∧ (W ≠ 0 → Post (some (vi (f9_refuse W))) (LC, g9_refuse M W))) → TC i9_handicap 7 [vr 0, vi a, vi h, vi p, vi t] (LC, M) Post := by
    intro M Post hM hAB
    refine W9_handicap_0 (W9_handicap_23 (W9_handicap_44 ?_))
    have e3 : f9_firstOf (f9_nobody M a) (if wr (f9_low h p) = 0 then (if wr t < 0 then (1 : Int) else 0) else 1) (if wr (f9_high h p) = 0 then (if wr 9999 < wr t then (1 : Int) else 0) else 1) = W := by
      rw [low3 ih ip, high3 ih ip, nob3 hF hM.1 ia, first_eq, it.w, wr_id (x := 9999) (by omega) (by omega), hW]; rfl
    rw [e3, wr_id (by omega) (by omega)]
    exact hAB
  have kM : ∀ q M Post, RM S M → TA i10_handicap 66 [some (vr 0), some (vi a), some (vi h), some (vi p), some (vi t), some (vi W), none, none, none] [] (LM q, up M 0 8 0) Post → TC i10_handicap 9 [vr 0, vi a, vi h, vi p, vi t] (LM q, M) Post := by
    intro q M Post hM k
    refine W10_handicap_0 ⟨isOne_01 hF hM.1 ia, fun z => ?_, fun z => ?_⟩
    · have g : ¬ sWho (sF S) a := by
        intro g
        rw [isOne_eq hF hM.thr.1 ia, if_pos g, wr1] at z; omega
      rw [hW, s3t_1 g] at k; exact k
    · have g : sWho (sF S) a := by
        apply Classical.byContradiction
        intro c
        rw [isOne_eq hF hM.thr.1 ia, if_neg c] at z; exact z wr0
      have h4 : (h < 0 ∨ p < 1 ∨ t < 0) → TA i10_handicap 36 [some (vr 0), some (vi a), some (vi h), some (vi p), some (vi t), none, none, none, none] [] (LM q, up M 0 8 0) Post := fun z => W10_handicap_36 (by rw [hW, s3t_4 g z] at k; exact k)
      have h6 : ¬ (h < 0 ∨ p < 1 ∨ t < 0) → (2 < h ∨ 9 < p ∨ 9999 < t) → TA i10_handicap 62 [some (vr 0), some (vi a), some (vi h), some (vi p), some (vi t), none, none, none, none] [] (LM q, up M 0 8 0) Post := fun z y => W10_handicap_62 (by rw [hW, s3t_6 g z y] at k; exact k)
      rw [ih.w, ip.w, it.w, wr1, wr_id (x := 2) (by omega) (by omega), wr_id (x := 9) (by omega) (by omega), wr_id (x := 9999) (by omega) (by omega)]
      refine ⟨fun z => h4 (by omega), fun z1 => ⟨fun z => h4 (by omega), fun z2 => ⟨fun z => h4 (by omega), fun z3 => ⟨fun z => h6 (by omega) (by omega), fun z4 => ⟨fun z => h6 (by omega) (by omega), fun z5 => ⟨fun z => h6 (by omega) (by omega), fun z6 => ?_⟩⟩⟩⟩⟩⟩
      rw [hW, s3t_0 g (by omega) (by omega)] at k; exact k
  by_cases e : W = 0
  · obtain ⟨ha, hB, t0, t9⟩ := s3t_ok (hW ▸ e)
    obtain ⟨n, hn6, rfl, hnp⟩ := ha.n hF
    have h1 := (hF.2.2.2.2.2.2 n hnp).2
    refine ⟨sHan (sF S) n h p t 60 1, S, hS, fun M hM => kC M _ hM ⟨fun _ => ?_, fun z => absurd e z⟩, fun q M hM => kM q M _ hM (W10_handicap_66 ⟨fun z => ?_, fun _ => ⟨by rw [wr_id (by omega) (by omega)]; omega, ?_⟩⟩)⟩
    · rw [hM.1.2.1]
      refine T_takes_36 hF hF.2.1 hM.1 (fun M1 f1 hC => ?_)
      have g1 : FrC M M1 := fun i hi => f1 i (by omega) (by omega) (by omega)
      exact L_hanC hF hn6 h1 hB ⟨t0, t9⟩ 60 1 M1 rfl (by omega) (hM.fr g1) hC
    · rw [e, wr0] at z; omega
    · have hT := hM.thr
      obtain ⟨q1, q2, q3⟩ := hT.1.2.2.2.2.2 n hn6
      rw [wr_id (x := (n : Int)) (by omega) (by omega), show ((n : Int)).toNat = n by omega, q1]
      exact L_hanM hF hn6 h1 hB ⟨t0, t9⟩ 60 1 _ rfl (by omega) (by rw [Ro_id hT.1 hn6]; exact hT) ⟨q2, q3⟩
  · refine ⟨W, sRef S W, hS.ref _, fun M hM => kC M _ hM ⟨fun z => absurd z e, fun _ => C_ref hM (by omega)⟩, fun q M hM => kM q M _ hM (W10_handicap_66 ⟨fun _ => ⟨by rw [wr_id (by omega) (by omega)]; omega, M_ref hM.thr (by omega)⟩, fun z => ?_⟩)⟩
    rw [wr_id (by omega) (by omega)] at z; omega
/-- practice -/
abbrev fPr (F : FS) (p : Nat) (h pace : Int) : Nat → RS := fun n => sRace (setW F p (if n = 0 then min 60 (ar F p + 5) else ar F p) (if n = 1 then max (hv F p - 1) 1 else hv F p) (if n = 2 then min 9 (hd F p + 1) else hd F p)) (ln F).toNat p h pace
theorem TB_fPr {F : FS} (hF : FOK F) {p : Nat} (hp : p < 6) (h1 : 1 ≤ ar F p ∧ 1 ≤ hv F p ∧ 1 ≤ hd F p) {h pace : Int} (hb : BOK h pace) (n : Nat) : TB (fPr F p h pace n) := by
  obtain ⟨pa, ph, pd⟩ := hF.P hp
  exact TB_setW hF hp (by split <;> omega) (by split <;> omega) (by split <;> omega) hb
theorem L_prM {S : ST} (hF : FOK (sF S)) {p : Nat} (hp : p < 6) (h1 : 1 ≤ ar (sF S) p ∧ 1 ≤ hv (sF S) p ∧ 1 ≤ hd (sF S) p) {h pace : Int} (hb : BOK h pace) {s0 : RS} (hs0 : TB s0) {q : Option Nat} : ∀ (k n : Nat) (M : Mem), n + k = 3 → RM S (Ro (sF S) p M) →
    TA i10_practice 76 [some (vr 0), some (vi (p : Int)), some (vi h), some (vi pace), none, some (vi (ar (sF S) p)), some (vi (hv (sF S) p)), some (vi (hd (sF S) p)), some (vi (bestN (fPr (sF S) p h pace) vId s0 n).1), some (vi (tvM (bestN (fPr (sF S) p h pace) vId s0 n).2)), some (vi (n : Int)), none] [] (LM q, M) (MP S (bestN (fPr (sF S) p h pace) vId s0 3).1)
  | 0, n, M, hn, hM => by
    have e : n = 3 := by omega
    subst e
    have b6 : 0 ≤ wr (p : Int) ∧ wr (p : Int) < ((6 : Nat) : Int) := by rw [wr_id (by omega) (by omega)]; omega
    refine W10_practice_76 ⟨fun z => absurd z (by decide), fun _ => ⟨b6, b6, b6, q, _, rfl, rfl, ?_⟩⟩
    rw [wr_id (x := (p : Int)) (by omega) (by omega), show ((p : Int)).toNat = p by omega]
    exact hM
  | k + 1, n, M, hn, hM => by
    obtain ⟨pa, ph, pd⟩ := hF.P hp
    have b6 : 0 ≤ wr (p : Int) ∧ wr (p : Int) < ((6 : Nat) : Int) := by rw [wr_id (by omega) (by omega)]; omega
    have ewp : (wr (p : Int)).toNat = p := by rw [wr_id (by omega) (by omega)]; omega
    have en : ((n + 1 : Nat) : Int) = (n : Int) + 1 := by omega
    have t1 := TB_fPr hF hp h1 hb n
    have t2 : TB (bestN (fPr (sF S) p h pace) vId s0 n).2 := TB_best hs0 (m := n) (fun j _ => TB_fPr hF hp h1 hb j) n (by omega)
    have ea : (if wr (n : Int) = 0 then f10_lesser 60 (ar (sF S) p + 5) else ar (sF S) p) = if n = 0 then min 60 (ar (sF S) p + 5) else ar (sF S) p := by
      rw [wr_id (by omega) (by omega), les (by omega) (by omega) (by omega) (by omega)]
      by_cases g : n = 0
      · rw [if_pos g, if_pos (by omega)]
      · rw [if_neg g, if_neg (by omega)]
    have eh : (if wr (n : Int) = wr 1 then f10_atLeastOne (hv (sF S) p - 1) else hv (sF S) p) = if n = 1 then max (hv (sF S) p - 1) 1 else hv (sF S) p := by
      rw [wr_id (by omega) (by omega), wr1, al1 (by omega) (by omega)]
      by_cases g : n = 1
      · rw [if_pos g, if_pos (by omega)]
      · rw [if_neg g, if_neg (by omega)]
    have ed : (if wr (n : Int) = wr 2 then f10_lesser 9 (hd (sF S) p + 1) else hd (sF S) p) = if n = 2 then min 9 (hd (sF S) p + 1) else hd (sF S) p := by
      rw [wr_id (by omega) (by omega), wr_id (x := 2) (by omega) (by omega), les (by omega) (by omega) (by omega) (by omega)]
      by_cases g : n = 2
      · rw [if_pos g, if_pos (by omega)]
      · rw [if_neg g, if_neg (by omega)]
    refine W10_practice_76 ⟨fun _ => W10_practice_106 ⟨b6, W10_practice_130 ⟨b6, W10_practice_156 ⟨b6, ?_⟩⟩⟩, fun z => ?_⟩
    · rw [ewp, ea, eh, ed]
      refine T_runW hF hp (by split <;> omega) (by split <;> omega) (by split <;> omega) hb hM (fun M' hM' _ => W10_practice_180 (W10_practice_196 ?_))
      have ih := L_prM hF hp h1 hb hs0 (q := q) k (n + 1) M' (by omega) hM'
      rw [en, ← best_1, ← best_2] at ih
      simp only [← tlM t1 t2] at ih
      exact ih
    · rw [wlt (by omega) (by omega) (by omega) (by omega)] at z; omega
theorem SIM_practice {a h p : Int} (ia : IR a) (ih : IR h) (ip : IR p) : SIM i9_practice 13 i10_practice 12 [vi a, vi h, vi p] := by
  intro S hS
  have hF := hS.1
  have hy := hF.1
  have c1 := sOne_le (sF S) a h p
  have k1 : ∀ M, RC S M → f9_badOne M a h p = sOne (sF S) a h p := fun M hM => badOne_eq hF hM.1 ia ih ip
  have k2 : ∀ M, RM S M → (if wr (f10_isOne (up M 0 8 0) a) = 0 then (-1) else f10_wrongBy h p) = sOne (sF S) a h p := fun M hM => one_eq hF hM.thr.1 ia ih ip
  by_cases e : sOne (sF S) a h p = 0
  · obtain ⟨ha, hB⟩ := sOne_ok e
    obtain ⟨n, hn6, rfl, hnp⟩ := ha.n hF
    have h1 := hF.2.2.2.2.2.2 n hnp
    obtain ⟨pa, ph, pd⟩ := hF.P hn6
    obtain ⟨s0, hs⟩ : ∃ s0, s0 = sRace (sF S) (ln (sF S)).toNat n h p := ⟨_, rfl⟩
    have t0 : TB s0 := by rw [hs]; exact TB_race hF (hln hF) hn6 hB
    obtain ⟨f, hf⟩ : ∃ f, f = fPr (sF S) n h p := ⟨_, rfl⟩
    have tf : ∀ j, TB (f j) := fun j => by rw [hf]; exact TB_fPr hF hn6 h1 hB j
    have tb : ∀ j, TB (bestN f vId s0 j).2 := fun j => TB_best t0 (m := j) (fun i _ => tf i) j (by omega)
    have r0 : sRun (lk (sF S) (ln (sF S)).toNat) (lf (sF S) (ln (sF S)).toNat) (min (ar (sF S) n + 5) 60) (hv (sF S) n) (hd (sF S) n) h p (some (min (ar (sF S) n + 5) 60, 0, 0, 0)) (yd (sF S)).toNat = f 0 := by
      rw [hf]
      show _ = sRace (setW (sF S) n (min 60 (ar (sF S) n + 5)) (hv (sF S) n) (hd (sF S) n)) (ln (sF S)).toNat n h p
      rw [race_setW, Int.min_comm 60]
    have r1 : sRun (lk (sF S) (ln (sF S)).toNat) (lf (sF S) (ln (sF S)).toNat) (ar (sF S) n) (max (hv (sF S) n - 1) 1) (hd (sF S) n) h p (some (ar (sF S) n, 0, 0, 0)) (yd (sF S)).toNat = f 1 := by
      rw [hf]
      show _ = sRace (setW (sF S) n (ar (sF S) n) (max (hv (sF S) n - 1) 1) (hd (sF S) n)) (ln (sF S)).toNat n h p
      rw [race_setW]
    have r2 : sRun (lk (sF S) (ln (sF S)).toNat) (lf (sF S) (ln (sF S)).toNat) (ar (sF S) n) (hv (sF S) n) (min (hd (sF S) n + 1) 9) h p (some (ar (sF S) n, 0, 0, 0)) (yd (sF S)).toNat = f 2 := by
      rw [hf]
      show _ = sRace (setW (sF S) n (ar (sF S) n) (hv (sF S) n) (min 9 (hd (sF S) n + 1))) (ln (sF S)).toNat n h p
      rw [race_setW, Int.min_comm 9]
    refine ⟨(bestN f vId s0 3).1, S, hS, fun M hM => W9_practice_0 ⟨fun _ => T_timeOf hF hM.1 hn6 hB (fun M1 hL => ⟨wb0, ?_⟩), fun z => ?_⟩, fun q M hM => W10_practice_0 ⟨isOne_01 hF hM.1 ia, ?_⟩⟩
    · obtain ⟨o1, o2, o3⟩ := ofP_eq hM.1 hn6
      rw [o1, o2, o3, mn_eq (by omega) (by omega) (by omega) (by omega), ← hs]
      have hM1 := hM.fr hL.C
      have hC1 := hL.2.1
      refine T_overA hC1 (by omega) ph pd hB (fun M2 f2 _ => ?_)
      rw [r0]
      have hM2 := hM1.fr (FrC.of41 f2)
      have hC2 := hC1.fr f2
      have h116 : ∀ b : Int × RS, b = bestN f vId s0 1 → TA i9_practice 116 [some (vr 0), none, some (vi h), some (vi p), none, some (vi (ar (sF S) n)), some (vi (hv (sF S) n)), some (vi (hd (sF S) n)), some (vi b.1), some (vi (tvC b.2)), none, none, none] [] (LC, M2) (CP S (bestN f vId s0 3).1) := by
        intro b eb
        refine W9_practice_116 ⟨wb0, ?_⟩
        rw [mx_eq (by omega) (by omega) (by omega) (by omega)]
        refine T_overA hC2 pa (by omega) pd hB (fun M3 f3 _ => ?_)
        rw [r1]
        have hM3 := hM2.fr (FrC.of41 f3)
        have hC3 := hC2.fr f3
        have h164 : ∀ b : Int × RS, b = bestN f vId s0 2 → TA i9_practice 164 [some (vr 0), none, some (vi h), some (vi p), none, some (vi (ar (sF S) n)), some (vi (hv (sF S) n)), some (vi (hd (sF S) n)), some (vi b.1), some (vi (tvC b.2)), none, none, none] [] (LC, M3) (CP S (bestN f vId s0 3).1) := by
          intro b eb
          refine W9_practice_164 ⟨wb0, ?_⟩
          rw [mn_eq (by omega) (by omega) (by omega) (by omega)]
          refine T_overA hC3 pa ph (by omega) hB (fun M4 f4 _ => W9_practice_212 ⟨M4, ?_, rfl, hM3.fr (FrC.of41 f4)⟩)
          rw [r2, eb]
          simp only [tlC (tf 2) (tb 2)]
          exact congrArg (fun x => some (vi x)) (best_1 (f := f) (v := vId) (s0 := s0) (n := 2))
        rw [eb]
        refine ⟨fun z => ?_, fun z => ?_⟩
        · exact h164 (1, f 1) (best_lt ((tlC (tf 1) (tb 1)).1 z)).symm
        · exact h164 _ (best_ge (fun y => z ((tlC (tf 1) (tb 1)).2 y))).symm
      refine ⟨fun z => ?_, fun z => ?_⟩
      · exact h116 (0, f 0) (best_lt ((tlC (tf 0) (tb 0)).1 z)).symm
      · exact h116 _ (best_ge (fun y => z ((tlC (tf 0) (tb 0)).2 y))).symm
    · rw [k1 M hM, e] at z; exact absurd wr0 z
    · rw [k2 M hM, e]
      have b6 : 0 ≤ wr (n : Int) ∧ wr (n : Int) < ((6 : Nat) : Int) := by rw [wr_id (by omega) (by omega)]; omega
      refine W10_practice_22 ⟨fun z => ?_, fun _ => ⟨b6, b6, b6, T_plainRun hF hB hn6 hM.thr.1 (fun M' hL => ?_)⟩⟩
      · rw [wr0] at z; omega
      · obtain ⟨q1, q2, q3⟩ := hM.thr.1.2.2.2.2.2 n hn6
        rw [wr_id (x := (n : Int)) (by omega) (by omega), show ((n : Int)).toNat = n by omega, q1, q2, q3, ← hs, hf]
        have hM' := hM.thr.fr hL.1.q
        exact L_prM hF hn6 h1 hB t0 3 0 M' rfl (by rw [Ro_id hM'.1 hn6]; exact hM')
  · refine ⟨sOne (sF S) a h p, sRef S (sOne (sF S) a h p), hS.ref _, fun M hM => W9_practice_0 ⟨fun z => ?_, fun _ => ?_⟩, fun q M hM => W10_practice_0 ⟨isOne_01 hF hM.1 ia, ?_⟩⟩
    · rw [k1 M hM, wr_id (by omega) (by omega)] at z; exact absurd z e
    · rw [k1 M hM]; exact C_ref hM (by omega)
    · rw [k2 M hM]
      refine W10_practice_22 ⟨fun _ => ⟨by rw [wr_id (by omega) (by omega)]; omega, M_ref hM.thr (by omega)⟩, fun z => ?_⟩
      rw [wr_id (by omega) (by omega)] at z; omega

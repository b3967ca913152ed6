/-! field: both sides answer alike -/
def app (f : Nat → Int) (n : Nat) : Nat → Nat → FS → Int × FS
  | 0, i, F => ((i : Int), F)
  | k + 1, i, F => if stN f i < n then (match stm f (stN f i) F with
    | none => (-2000 - (stN f i : Int), F)
    | some F' => app f n k (i + 1) F') else ((i : Int), F)
theorem app_s {f : Nat → Int} {n k i : Nat} {F F' : FS} (h : stN f i < n) (e : stm f (stN f i) F = some F') : app f n (k + 1) i F = app f n k (i + 1) F' := by
  simp only [app]
  rw [if_pos h, e]
theorem app_n {f : Nat → Int} {n k i : Nat} {F : FS} (h : stN f i < n) (e : stm f (stN f i) F = none) : app f n (k + 1) i F = (-2000 - (stN f i : Int), F) := by
  simp only [app]
  rw [if_pos h, e]
theorem app_e {f : Nat → Int} {n k i : Nat} {F : FS} (h : ¬ stN f i < n) : app f n k i F = ((i : Int), F) := by
  cases k with
  | zero => rfl
  | succ k => simp only [app]; rw [if_neg h]
theorem stN_3 {f : Nat → Int} {n i : Nat} (h : Wf f n (stN f i)) : stN f i + 3 ≤ stN f (i + 1) ∧ stN f (i + 1) ≤ n := by
  have e : stN f (i + 1) = stN f i + dN (f (stN f i)) + 2 := rfl
  have h4 := h.2.2.2
  have : 1 ≤ dN (f (stN f i)) := by
    rcases h.c with e | e | e | e <;> rw [e] <;> decide
  omega
theorem app_ok {f : Nat → Int} {n : Nat} (hn : 0 < n) : ∀ (k i : Nat) (F : FS), FOK F → stN f i ≤ n → cls f n (n - stN f i) (-1) (stN f i) = -1 → FOK (app f n k i F).2 ∧ -3000 ≤ (app f n k i F).1 ∧ (app f n k i F).1 ≤ (i : Int) + (k : Int) ∨ 900 < n
  | 0, i, F, hF, hi, hc => Or.inl ⟨hF, by show -3000 ≤ (i : Int); omega, by show (i : Int) ≤ _; omega⟩
  | k + 1, i, F, hF, hi, hc => by
    by_cases g : stN f i < n
    · obtain ⟨hs, hc2⟩ := cls_step g hc
      have hW := (stB_wf hs).1
      have h3 := stN_3 hW
      cases e : stm f (stN f i) F with
      | none =>
        rw [app_n g e]
        by_cases g9 : 900 < n
        · exact Or.inr g9
        · exact Or.inl ⟨hF, by show -3000 ≤ -2000 - (stN f i : Int); omega, by show -2000 - (stN f i : Int) ≤ _; omega⟩
      | some F' =>
        rw [app_s g e]
        rcases app_ok hn k (i + 1) F' (stm_ok hW hF e) h3.2 hc2 with ⟨a1, a2, a3⟩ | a
        · exact Or.inl ⟨a1, a2, by omega⟩
        · exact Or.inr a
    · rw [app_e g]
      exact Or.inl ⟨hF, by show -3000 ≤ (i : Int); omega, by show (i : Int) ≤ _; omega⟩
theorem L_tells {f : Nat → Int} {n : Nat} (hn : n ≤ 96) {M0 : Mem} (hL : Lc f n M0) {K : Int → Mem → Prop} : ∀ (m k i p : Nat) (F : FS) (M : Mem), p + m = n → stN f i ≤ p → (stN f i < n → p < stN f (i + 1)) → n ≤ stN f i + k → stN f i ≤ n → 3 * i ≤ stN f i → cls f n (n - stN f i) (-1) (stN f i) = -1 → FOK F → RCf F M 15 → FrX M0 M →
    (∀ M', FrX M0 M' → (0 ≤ (app f n k i F).1 → RCf (app f n k i F).2 M' 15) → K (app f n k i F).1 M') →
    TA i7_tells 24 [some (vr 29), some (vr 15), none, some (vi (i : Int)), some (vi (stN f i : Int)), some (vi (p : Int))] [] (LC, M) (fun rv G' => ∃ r M', rv = some (vi r) ∧ G' = (LC, M') ∧ K r M')
  | 0, k, i, p, F, M, hm, hp, hq, hk, hi, hi3, hc, hF, hR, hX, h => by
    have hL1 := hX.L hL
    have g : ¬ stN f i < n := fun g => by
      have h1 := hq g
      have h3 := stN_3 (stB_wf (cls_step g hc).1).1
      omega
    rw [app_e g] at h
    refine W7_tells_24_29_15 ⟨fun z => ?_, fun _ => ⟨_, M, rfl, rfl, h M hX (fun _ => hR)⟩⟩
    rw [hL1.1, wlt (by omega) (by omega) (by omega) (by omega)] at z; omega
  | m + 1, k, i, p, F, M, hm, hp, hq, hk, hi, hi3, hc, hF, hR, hX, h => by
    have hL1 := hX.L hL
    have g : stN f i < n := by omega
    obtain ⟨k', rfl⟩ : ∃ k', k = k' + 1 := ⟨k - 1, by omega⟩
    obtain ⟨hs, hc2⟩ := cls_step g hc
    obtain ⟨hW, -, h59⟩ := stB_wf hs
    have h3 := stN_3 hW
    have hb := hW.2.2.1
    have hq1 := hq g
    have e1 : stN f (i + 1) = stN f i + dN (f (stN f i)) + 2 := rfl
    have hpn : p < n := by omega
    have er : rd M 31 96 (p : Int) = f p := by
      rw [rd_in (by omega) (by omega) (by omega), show ((p : Int)).toNat = p by omega]
      exact (hL1.2 p hpn).1
    have eb := (hL.2 p hpn).2
    have e5 : ((p + 1 : Nat) : Int) = (p : Int) + 1 := by omega
    have e6 : ((i + 1 : Nat) : Int) = (i : Int) + 1 := by omega
    have c01 : ∀ x : Int, (x = 0 ∨ x = 1) → (wr x = 0 ∨ wr x = 1) := by
      intro x hx
      rcases hx with rfl | rfl
      · exact wb0
      · exact wb1
    refine W7_tells_24_29_15 ⟨fun _ => ⟨fun y => ⟨c01 _ ?_, c01 _ ?_, c01 _ ?_, c01 _ ?_, fun z => ?_, fun z => ?_⟩, fun y => ?_⟩, fun z => ?_⟩
    · unfold f7_yardsCome; (repeat' split) <;> simp
    · unfold f7_personComes; (repeat' split) <;> simp
    · unfold f7_groundComes; (repeat' split) <;> simp
    · unfold f7_laneComes; (repeat' split) <;> simp
    · rcases into_eq hn hW hF hL1 hR with ⟨e, e1, e2⟩ | ⟨F', e, e1, e2, e3⟩
      · rw [app_n g e] at h
        exact ⟨_, _, rfl, rfl, h _ (hX.tr e2) (fun z => by have z2 : 0 ≤ -2000 - (stN f i : Int) := z; omega)⟩
      · rw [e1, wr1] at z; omega
    · rw [er, weq (by omega) (by omega) (by omega) (by omega)] at y
      have ep : p + 1 = stN f (i + 1) := by
        by_cases ea : p = stN f i
        · rw [ea] at y
          rcases hW.c with e | e | e | e <;> omega
        · by_cases eq : p = stN f i + dN (f (stN f i)) + 1
          · omega
          · have hj := hb (p - stN f i - 1) (by omega)
            rw [show stN f i + 1 + (p - stN f i - 1) = p by omega] at hj
            omega
      rcases into_eq hn hW hF hL1 hR with ⟨e, e1, e2⟩ | ⟨F', e, e1, e2, e3⟩
      · rw [e1] at z; exact absurd wr0 z
      · rw [app_s g e] at h
        have ih := L_tells hn hL m k' (i + 1) (p + 1) F' _ (by omega) (by omega) (fun _ => by show p + 1 < stN f (i + 1) + _ + 2; omega) (by omega) h3.2 (by omega) hc2 (stm_ok hW hF e) e3 (hX.tr e2) h
        rw [← ep, e6, e5] at ih
        exact ih
    · rw [er, weq (by omega) (by omega) (by omega) (by omega)] at y
      have ep : ¬ p = stN f i + dN (f (stN f i)) + 1 := fun ep => by
        rw [show stN f i + 1 + dN (f (stN f i)) = p by omega] at h59
        exact y h59
      have ih := L_tells hn hL m (k' + 1) i (p + 1) F M (by omega) (by omega) (fun _ => by omega) hk hi hi3 hc hF hR hX h
      rw [e5] at ih
      exact ih
    · rw [hL1.1, wlt (by omega) (by omega) (by omega) (by omega)] at z; omega
theorem Tel_congr {f : Nat → Int} {a : Nat} {g g' : Nat → Int} {t : Nat} (h : ∀ x, x < 4 → g' (t + x) = g (t + x)) (hT : Tel f a g t) : Tel f a g' t := by
  have h0 := h 0 (by omega)
  have h1 := h 1 (by omega)
  have h2 := h 2 (by omega)
  have h3 := h 3 (by omega)
  rw [Nat.add_zero] at h0
  obtain ⟨t1, t2, t3, t4⟩ := hT
  refine ⟨fun e => ?_, fun e => ?_, fun e => ?_, fun e => ?_⟩
  · rw [h0]; exact t1 e
  · rw [h0, h1, h2]; exact t2 e
  · rw [h0, h1, h2, h3]; exact t3 e
  · rw [h0]; exact t4 e
/-- the statements up to i are there -/
def Rd (f : Nat → Int) (n : Nat) (M : Mem) (i : Nat) : Prop := ∀ j, j < i → M 9 j = (stN f j : Int) ∧ M 10 j = f (stN f j) ∧ Tel f (stN f j) (M 11) (4 * j) ∧ Wf f n (stN f j)
def FrP (M M' : Mem) : Prop := (∀ i, i ≠ 0 → i ≠ 9 → i ≠ 10 → i ≠ 11 → M' i = M i) ∧ (∀ j, j ≠ 22 → j ≠ 23 → j ≠ 24 → M' 0 j = M 0 j)
theorem FrP.rf (M : Mem) : FrP M M := ⟨fun _ _ _ _ _ => rfl, fun _ _ _ _ => rfl⟩
theorem L_parse {q : Option Nat} {f : Nat → Int} {n : Nat} (hn : n ≤ 96) {M0 : Mem} (h21 : M0 0 21 = (n : Int)) (hf : Lt f n M0) {Post : Option AV → GM → Prop}
    (hgood : ∀ (M' : Mem) (N : Nat), 1 ≤ N → N ≤ 33 → stN f N = n → FrP M0 M' → M' 0 24 = (N : Int) → Rd f n M' N → cls f n n (-1) 0 = -1 → TQ i10_carryAll 4 [vr 0, vr 12, vi 1] 12 (LM q, up M' 0 21 0) (fun M3 => TA i10_field 84 [some (vr 0), some (vi 0)] [] (LM (some 12), M3) Post))
    (hbad : ∀ (M' : Mem) (p : Nat), FrP M0 M' → cls f n n (-1) 0 = (p : Int) → Post (some (vi (-1000 - (p : Int)))) (LM q, up M' 0 21 0)) :
    ∀ (k i : Nat) (M : Mem), n ≤ stN f i + k → stN f i ≤ n → 3 * i ≤ stN f i → FrP M0 M → M 0 22 = (stN f i : Int) → M 0 23 = 0 → M 0 24 = (i : Int) → Rd f n M i → cls f n (n - stN f i) (-1) (stN f i) = cls f n n (-1) 0 →
    TA i10_field 20 [some (vr 0), none] [] (LM q, M) Post
  | k, i, M, hk, hi, hi3, hX, h22, h23, h24, hRd, hc => by
    have q21 : M 0 21 = (n : Int) := by rw [hX.2 21 (by omega) (by omega) (by omega)]; exact h21
    have qf : Lt f n M := fun j hj => by rw [hX.1 8 (by omega) (by omega) (by omega) (by omega)]; exact hf j hj
    by_cases g : stN f i < n ∨ i = 0
    · have rdS : TV i10_readStatement 4 [vr 0] (LM q, M) (fun M1 => TA i10_field 20 [some (vr 0), none] [] (LM q, M1) Post) := by
        refine T_stmt hn hi (by omega) q21 h22 h23 h24 qf (fun M1 f1 f2 a24 f9 f10 f11 hor => ?_)
        have hX1 : FrP M0 M1 := ⟨fun j j0 j9 j10 j11 => by rw [f1 j j0 j9 j10 j11]; exact hX.1 j j0 j9 j10 j11, fun j j1 j2 j3 => by rw [f2 j j1 j2 j3]; exact hX.2 j j1 j2 j3⟩
        rcases hor with ⟨p, e, a23, a22⟩ | ⟨e, a23, a22, a9, a10, aT⟩
        · have hb := hbad M1 p hX1 (by
            rw [← hc]
            have h0 : stN f 0 = 0 := rfl
            refine cls_some (by omega) ?_ e
            rcases g with g | g
            · omega
            · subst g; omega)
          have hn0 : ¬ wr (M1 0 23) = 0 := by rw [a23, wr1]; omega
          refine W10_field_20 ⟨fun z => absurd z hn0, fun _ => ⟨fun z => absurd z hn0, fun _ => ?_⟩⟩
          rw [a22]; exact hb
        · obtain ⟨hW, -, -⟩ := stB_wf e
          have h3 := stN_3 hW
          obtain ⟨k', rfl⟩ : ∃ k', k = k' + 1 := ⟨k - 1, by have := hW.1; omega⟩
          refine L_parse hn h21 hf hgood hbad k' (i + 1) M1 (by omega) h3.2 (by omega) hX1 a22 a23 a24 (fun j hj => ?_) ?_
          · by_cases ej : j = i
            · rw [ej]; exact ⟨a9, a10, aT, hW⟩
            · obtain ⟨b1, b2, b3, b4⟩ := hRd j (by omega)
              exact ⟨by rw [f9 j ej]; exact b1, by rw [f10 j ej]; exact b2, Tel_congr (fun x hx => f11 _ (by omega)) b3, b4⟩
          · rw [← hc, cls_none (k := n - stN f i) (by omega) e]
            show cls f n (n - (stN f i + dN (f (stN f i)) + 2)) (-1) (stN f i + dN (f (stN f i)) + 2) = _
            congr 1; omega
      refine W10_field_20 ⟨fun _ => ⟨fun _ => rdS, fun z => ⟨fun _ => rdS, fun z2 => ?_⟩⟩, fun z => absurd (by rw [h23]; exact wr0) z⟩
      rw [h24, wr_id (by omega) (by omega)] at z
      rw [h22, q21, wlt (by omega) (by omega) (by omega) (by omega)] at z2
      omega
    · have e1 : stN f i = n := by omega
      have hg := hgood M i (by omega) (by omega) e1 hX h24 hRd (by
        rw [← hc, e1, Nat.sub_self]
        simp only [cls]
        rw [if_pos (by omega), if_neg (by omega)])
      refine W10_field_20 ⟨fun z => ⟨fun z2 => ?_, fun _ => ⟨fun z3 => ?_, fun _ => ⟨fun _ => hg, fun z4 => absurd z z4⟩⟩⟩, fun z => absurd (by rw [h23]; exact wr0) z⟩
      · rw [h24, wr_id (by omega) (by omega)] at z2; omega
      · rw [h22, q21, wlt (by omega) (by omega) (by omega) (by omega)] at z3; omega
theorem stN_lt {f : Nat → Int} {i : Nat} : ∀ k : Nat, stN f i < stN f (i + (k + 1))
  | 0 => by show stN f i < stN f i + _ + 2; omega
  | k + 1 => by
    have := stN_lt (f := f) (i := i) k
    show stN f i < stN f (i + (k + 1)) + _ + 2
    omega
theorem L_appM {f : Nat → Int} {n N : Nat} (hn : n ≤ 96) (hN : stN f N = n) (hN33 : N ≤ 33) {M0 : Mem} {F0 : FS} (hS : Snap F0 (M0 12) 0) (h24 : M0 0 24 = (N : Int)) (hRd : Rd f n M0 N) {Post : Option AV → GM → Prop} :
    ∀ (k i : Nat) (F : FS) (M : Mem), n ≤ stN f i + k → i ≤ N → FOK F → RMf F M → FrA M0 M →
    (∀ M', FrA M0 M' → 0 ≤ (app f n k i F).1 → RMf (app f n k i F).2 M' → Post (some (vi (app f n k i F).1)) (LM (some 12), up M' 0 36 0)) →
    (∀ M', (∀ i, 5 < i → M' i = M0 i) → (∀ j, j ≠ 2 → j ≠ 3 → j ≠ 4 → j ≠ 31 → j ≠ 32 → M' 0 j = M0 0 j) → (app f n k i F).1 < 0 → RMf F0 M' → Post (some (vi (app f n k i F).1)) (LM (some 12), M')) →
    TA i10_field 84 [some (vr 0), some (vi (i : Int))] [] (LM (some 12), M) Post
  | k, i, F, M, hk, hi, hF, hR, hX, hok, hbad => by
    have q24 : M 0 24 = (N : Int) := by rw [hX.2 24 (by omega) (by omega) (by omega)]; exact h24
    have ei : wr (i : Int) = (i : Int) := wr_id (by omega) (by omega)
    have ni : ((i : Int)).toNat = i := by omega
    by_cases g : i < N
    · have gn : stN f i < n := by
        have := stN_lt (f := f) (i := i) (N - i - 1)
        rw [show i + (N - i - 1 + 1) = N by omega, hN] at this
        exact this
      obtain ⟨k', rfl⟩ : ∃ k', k = k' + 1 := ⟨k - 1, by omega⟩
      obtain ⟨b1, b2, b3, b4⟩ := hRd i g
      refine W10_field_84 ⟨fun _ => ?_, fun z => ?_⟩
      · refine T_told b4 (by omega) hF hR (by rw [hX.1 10 (by omega)]; exact b2) (by rw [hX.1 11 (by omega)]; exact b3) (fun e M1 x1 => ?_) (fun F' M1 e x1 r1 => ?_)
        · rw [app_n gn e] at hbad
          refine ⟨fun _ => T_put_12 (G := F0) (by rw [x1.1 12 (by omega), hX.1 12 (by omega)]; exact hS) (fun M2 y1 y2 r2 => ⟨by omega, ?_⟩), fun z => absurd wr0 z⟩
          have := hbad M2 (fun j hj => by rw [y1 j hj, x1.1 j hj]; exact hX.1 j hj) (fun j j2 j3 j4 j31 j32 => by rw [y2 j j2 j3 j4 j31 j32, x1.2 j j2 j3 j4]; exact hX.2 j j2 j3 j4) (by show -2000 - (stN f i : Int) < 0; omega) r2
          rw [ei, ni, y1 9 (by omega), x1.1 9 (by omega), hX.1 9 (by omega), b1]
          exact this
        · rw [app_s gn e] at hok hbad
          refine ⟨fun z => ?_, fun _ => ?_⟩
          · rw [wr1] at z; omega
          · have h3 := stN_3 b4
            have e6 : ((i + 1 : Nat) : Int) = (i : Int) + 1 := by omega
            have ih := L_appM hn hN hN33 hS h24 hRd k' (i + 1) F' M1 (by omega) (by omega) (stm_ok b4 hF e) r1 (hX.tr x1) hok hbad
            rw [e6] at ih
            exact ih
      · rw [q24, wlt (by omega) (by omega) (by omega) (by omega)] at z; omega
    · have e1 : i = N := by omega
      have gn : ¬ stN f i < n := by rw [e1, hN]; omega
      rw [app_e gn] at hok
      refine W10_field_84 ⟨fun z => ?_, fun _ => ?_⟩
      · rw [q24, wlt (by omega) (by omega) (by omega) (by omega)] at z; omega
      · rw [q24, ← e1]
        exact hok M hX (by show (0 : Int) ≤ (i : Int); omega) hR
theorem cls_rng {f : Nat → Int} {n : Nat} : ∀ (k : Nat) (lack : Int) (p : Nat), p + k = n → cls f n k lack p = -1 ∨ (0 ≤ cls f n k lack p ∧ cls f n k lack p ≤ n)
  | 0, lack, p, h => by
    simp only [cls]
    (repeat' split) <;> omega
  | k + 1, lack, p, h => by
    have h1 := cls_rng (f := f) (n := n) k (dB (f p)) (p + 1) (by omega)
    have h2 := cls_rng (f := f) (n := n) k (lack + -1) (p + 1) (by omega)
    have h3 := cls_rng (f := f) (n := n) k (-1) (p + 1) (by omega)
    rw [cls_s]
    (repeat' split) <;> omega
theorem SIM_field : SIM i9_field 2 i10_field 2 [] := by
  intro S hS
  have hF := hS.1
  obtain ⟨hn, hv⟩ := hS.2.1
  obtain ⟨n, hnn⟩ : ∃ n, n = (sL S).1 := ⟨_, rfl⟩
  obtain ⟨f, hff⟩ : ∃ f, f = (sL S).2 := ⟨_, rfl⟩
  rw [← hnn, ← hff] at hv
  rw [← hnn] at hn
  have lc : ∀ M, RC S M → Lc f n M := fun M hM => ⟨by rw [hnn]; exact hM.2.1.1, fun j hj => ⟨by rw [hff]; exact hM.2.1.2 j (by omega), hv j hj⟩⟩
  have lt : ∀ M, RM S M → M 0 21 = (n : Int) ∧ Lt f n M := fun M hM => ⟨by rw [hnn]; exact hM.2.1.1, fun j hj => ⟨by rw [hff]; exact hM.2.1.2 j (by omega), hv j hj⟩⟩
  obtain ⟨C, hC⟩ : ∃ C, C = cls f n n (-1) 0 := ⟨_, rfl⟩
  have hCr : C = -1 ∨ (0 ≤ C ∧ C ≤ n) := by rw [hC]; exact cls_rng n (-1) 0 (by omega)
  have hSL : ∀ (S2 : ST), SOK S2 → SOK (sF S2, (0, f), sR S2, sC S2, sI S2, sT S2) := fun S2 h2 => ⟨h2.1, ⟨Nat.zero_le _, fun j hj => absurd hj (Nat.not_lt_zero _)⟩, h2.2.2⟩
  have cl0 : ∀ (S2 : ST) M, RC S2 M → RC (sF S2, (0, f), sR S2, sC S2, sI S2, sT S2) (up M 29 0 0) := fun S2 M h2 => h2.lt (fun i _ a _ => up_fr a) ⟨up_eq, fun j hj => absurd hj (Nat.not_lt_zero _)⟩
  -- the reference's beginning
  obtain ⟨Bg, hBg⟩ : ∃ Bg : Mem → Mem, Bg = fun M => up (up (up (up M 0 8 0) 0 22 0) 0 23 0) 0 24 0 := ⟨_, rfl⟩
  have bf : ∀ M i, i ≠ 0 → Bg M i = M i := fun M i hi => by rw [hBg]; show up (up (up (up M 0 8 0) 0 22 0) 0 23 0) 0 24 0 i = M i; rw [up_fr hi, up_fr hi, up_fr hi, up_fr hi]
  have bs : ∀ M j, j ≠ 8 → j ≠ 22 → j ≠ 23 → j ≠ 24 → Bg M 0 j = M 0 j := fun M j j8 j22 j23 j24 => by rw [hBg]; show up (up (up (up M 0 8 0) 0 22 0) 0 23 0) 0 24 0 0 j = M 0 j; rw [up_sl j24, up_sl j23, up_sl j22, up_sl j8]
  have b22 : ∀ M, Bg M 0 22 = 0 ∧ Bg M 0 23 = 0 ∧ Bg M 0 24 = 0 := fun M => by rw [hBg]; exact ⟨by simp [up], by simp [up], by simp [up]⟩
  by_cases e : C = -1
  · have hn0 : 0 < n := by
      apply Classical.byContradiction
      intro c
      have e0 : n = 0 := by omega
      rw [hC, e0] at e
      simp [cls] at e
    obtain ⟨R, hR⟩ : ∃ R, R = app f n n 0 (sF S) := ⟨_, rfl⟩
    have hA : FOK R.2 ∧ -3000 ≤ R.1 ∧ R.1 ≤ (0 : Int) + (n : Int) := by
      rw [hR]
      have h0 : stN f 0 = 0 := rfl
      rcases app_ok (f := f) hn0 n 0 (sF S) hF (by omega) (by rw [h0, Nat.sub_zero, ← hC]; exact e) with a | a
      · exact a
      · omega
    by_cases g : 0 ≤ R.1
    · refine ⟨R.1, (R.2, (0, f), sR S, sC S, sI S, []), ⟨hA.1, ⟨Nat.zero_le _, fun j hj => absurd hj (Nat.not_lt_zero _)⟩, hS.2.2.1, hS.2.2.2.1, fun G hG => absurd hG (by simp [sT]), Nat.zero_le _⟩, fun M hM => W9_field_0 (T_fb_15_1 hM.1 (fun M1 f1 r1 => ?_)), fun q M hM => W10_field_0 ⟨wb0, ?_⟩⟩
      · have x1 : FrX M M1 := fun i i15 i17 i19 i21 => f1 i i15 i17 i19 i21
        have hL1 := x1.L (lc M hM)
        refine W7_tells_0_29_15 (W7_firstWithoutSense_0_29 (L_sense hn hL1.1 hL1.2 n (-1) 0 (by omega) (by omega) ?_))
        rw [← hC, e]
        refine ⟨fun _ => ?_, fun z => absurd rfl z⟩
        refine L_tells hn hL1 n n 0 0 (sF S) M1 (by omega) (Nat.le_refl 0) (fun _ => by show 0 < 0 + _ + 2; omega) (by show n ≤ 0 + n; omega) (by show 0 ≤ n; omega) (by show 0 ≤ 0; omega) (by show cls f n (n - 0) (-1) 0 = -1; rw [Nat.sub_zero, ← hC]; exact e) hF r1 (FrX.rf _) (fun M2 x2 r2 => ?_)
        rw [← hR] at r2 ⊢
        refine ⟨fun z => ?_, fun _ => ?_⟩
        · rw [wr_id (by omega) (by omega)] at z; omega
        · have h2 := cl0 S M2 (hM.dr (x1.tr x2))
          refine T_fb_1_15 (G := R.2) ((r2 g).frb (up_fr (by omega)) (up_fr (by omega)) (up_fr (by omega)) (up_fr (by omega))) (fun M3 f3 r3 => ⟨_, rfl, rfl, ?_⟩)
          unfold g1_forgets
          exact h2.chF (fun i _ a b _ _ _ => by rw [up_fr b]; exact f3 i (by omega) (by omega) (by omega) (by omega)) (by rw [up_fr (by omega)]; exact f3 0 (by omega) (by omega) (by omega) (by omega)) (r3.frb (up_fr (by omega)) (up_fr (by omega)) (up_fr (by omega)) (up_fr (by omega))) (by rw [up_eq]; rfl) True.intro
      · have hB : (up (up (up (up M 0 8 0) 0 22 0) 0 23 0) 0 24 0) = Bg M := by rw [hBg]
        rw [hB]
        obtain ⟨l1, l2⟩ := lt M hM
        obtain ⟨k22, k23, k24⟩ := b22 M
        refine L_parse hn (M0 := Bg M) (by rw [bs M 21 (by omega) (by omega) (by omega) (by omega)]; exact l1) (fun j hj => by rw [bf M 8 (by omega)]; exact l2 j hj) (fun M1 N n1 n33 sN x1 m24 rd1 _ => ?_) (fun M1 p x1 hp => ?_) n 0 (Bg M) (by show n ≤ 0 + n; omega) (by show 0 ≤ n; omega) (by show 0 ≤ 0; omega) (FrP.rf _) k22 k23 k24 (fun j hj => absurd hj (Nat.not_lt_zero _)) (by show cls f n (n - 0) (-1) 0 = _; rw [Nat.sub_zero])
        · have hRM1 : RMf (sF S) (up M1 0 21 0) := hM.1.fr (fun i a b => by rw [up_fr (by omega), x1.1 i (by omega) (by omega) (by omega) (by omega), bf M i (by omega)]) (fun j a b => by rw [up_sl (by omega), x1.2 j (by omega) (by omega) (by omega), bs M j (by omega) (by omega) (by omega) (by omega)])
          refine T_take_12 (fun M2 hk => ?_)
          obtain ⟨t1, t2, -, -, t5⟩ := hk
          have m2f : ∀ i, i ≠ 0 → i ≠ 12 → M2 i = M1 i := fun i i0 i12 => by rw [t1 i i0 i12, up_fr i0]
          have m2s : ∀ j, j ≠ 31 → j ≠ 32 → j ≠ 21 → M2 0 j = M1 0 j := fun j j1 j2 j3 => by rw [t2 j j1 j2, up_sl j3]
          refine L_appM hn sN n33 (snap_reg hRM1 t5) (by rw [m2s 24 (by omega) (by omega) (by omega)]; exact m24) (fun j hj => by rw [m2f 9 (by omega) (by omega), m2f 10 (by omega) (by omega), m2f 11 (by omega) (by omega)]; exact rd1 j hj) n 0 (sF S) M2 (by show n ≤ 0 + n; omega) (Nat.zero_le _) hF (hRM1.fr (fun i a b => t1 i (by omega) (by omega)) (fun j a b => t2 j (by omega) (by omega))) (FrA.rf _) (fun M3 x3 _ r3 => ?_) (fun M3 _ _ hlt _ => ?_)
          · rw [← hR] at r3 ⊢
            refine ⟨_, _, rfl, rfl, ?_⟩
            have hE : RM (sF S, (0, f), sR S, sC S, sI S, sT S) (up (Bg M) 0 21 0) := hM.lt (fun i a b => by rw [up_fr (by omega), bf M i (by omega)]) (fun j hj => by rw [up_sl (by omega), bs M j (by omega) (by omega) (by omega) (by omega)]) ⟨up_eq, fun j hj => absurd hj (Nat.not_lt_zero _)⟩
            refine hE.chF (fun i hi => ?_) (fun j hj => ?_) (r3.fr (fun i a b => up_fr (by omega)) (fun j a b => up_sl (by omega))) (by rw [up_eq]; rfl) True.intro
            · rw [up_fr (by omega), x3.1 i (by omega), m2f i (by omega) (by omega), x1.1 i (by omega) (by omega) (by omega) (by omega), up_fr (by omega)]
            · rw [up_sl (by omega), x3.2 j (by omega) (by omega) (by omega), t2 j (by omega) (by omega)]
              by_cases ej : j = 21
              · rw [ej, up_eq, up_eq]
              · rw [up_sl ej, up_sl ej, x1.2 j (by omega) (by omega) (by omega)]
          · rw [← hR] at hlt; omega
        · rw [← hC, e] at hp; omega
    · refine ⟨R.1, (sF S, (0, f), sR S, sC S, sI S, sT S), hSL S hS, fun M hM => W9_field_0 (T_fb_15_1 hM.1 (fun M1 f1 r1 => ?_)), fun q M hM => W10_field_0 ⟨wb0, ?_⟩⟩
      · have x1 : FrX M M1 := fun i i15 i17 i19 i21 => f1 i i15 i17 i19 i21
        have hL1 := x1.L (lc M hM)
        refine W7_tells_0_29_15 (W7_firstWithoutSense_0_29 (L_sense hn hL1.1 hL1.2 n (-1) 0 (by omega) (by omega) ?_))
        rw [← hC, e]
        refine ⟨fun _ => ?_, fun z => absurd rfl z⟩
        refine L_tells hn hL1 n n 0 0 (sF S) M1 (by omega) (Nat.le_refl 0) (fun _ => by show 0 < 0 + _ + 2; omega) (by show n ≤ 0 + n; omega) (by show 0 ≤ n; omega) (by show 0 ≤ 0; omega) (by show cls f n (n - 0) (-1) 0 = -1; rw [Nat.sub_zero, ← hC]; exact e) hF r1 (FrX.rf _) (fun M2 x2 _ => ?_)
        rw [← hR]
        refine ⟨fun _ => ⟨_, rfl, rfl, cl0 S M2 (hM.dr (x1.tr x2))⟩, fun z => ?_⟩
        rw [wr_id (by omega) (by omega)] at z; omega
      · have hB : (up (up (up (up M 0 8 0) 0 22 0) 0 23 0) 0 24 0) = Bg M := by rw [hBg]
        rw [hB]
        obtain ⟨l1, l2⟩ := lt M hM
        obtain ⟨k22, k23, k24⟩ := b22 M
        refine L_parse hn (M0 := Bg M) (by rw [bs M 21 (by omega) (by omega) (by omega) (by omega)]; exact l1) (fun j hj => by rw [bf M 8 (by omega)]; exact l2 j hj) (fun M1 N n1 n33 sN x1 m24 rd1 _ => ?_) (fun M1 p x1 hp => ?_) n 0 (Bg M) (by show n ≤ 0 + n; omega) (by show 0 ≤ n; omega) (by show 0 ≤ 0; omega) (FrP.rf _) k22 k23 k24 (fun j hj => absurd hj (Nat.not_lt_zero _)) (by show cls f n (n - 0) (-1) 0 = _; rw [Nat.sub_zero])
        · have hRM1 : RMf (sF S) (up M1 0 21 0) := hM.1.fr (fun i a b => by rw [up_fr (by omega), x1.1 i (by omega) (by omega) (by omega) (by omega), bf M i (by omega)]) (fun j a b => by rw [up_sl (by omega), x1.2 j (by omega) (by omega) (by omega), bs M j (by omega) (by omega) (by omega) (by omega)])
          refine T_take_12 (fun M2 hk => ?_)
          obtain ⟨t1, t2, -, -, t5⟩ := hk
          have m2f : ∀ i, i ≠ 0 → i ≠ 12 → M2 i = M1 i := fun i i0 i12 => by rw [t1 i i0 i12, up_fr i0]
          have m2s : ∀ j, j ≠ 31 → j ≠ 32 → j ≠ 21 → M2 0 j = M1 0 j := fun j j1 j2 j3 => by rw [t2 j j1 j2, up_sl j3]
          refine L_appM hn sN n33 (snap_reg hRM1 t5) (by rw [m2s 24 (by omega) (by omega) (by omega)]; exact m24) (fun j hj => by rw [m2f 9 (by omega) (by omega), m2f 10 (by omega) (by omega), m2f 11 (by omega) (by omega)]; exact rd1 j hj) n 0 (sF S) M2 (by show n ≤ 0 + n; omega) (Nat.zero_le _) hF (hRM1.fr (fun i a b => t1 i (by omega) (by omega)) (fun j a b => t2 j (by omega) (by omega))) (FrA.rf _) (fun M3 _ hge _ => ?_) (fun M3 y1 y2 _ r3 => ?_)
          · rw [← hR] at hge; omega
          · rw [← hR]
            refine ⟨_, _, rfl, rfl, ?_⟩
            have s3 : ∀ j, j ≠ 2 → j ≠ 3 → j ≠ 4 → j ≠ 21 → j ≠ 22 → j ≠ 23 → j ≠ 24 → j ≠ 31 → j ≠ 32 → j ≠ 8 → M3 0 j = M 0 j := fun j j2 j3 j4 j21 j22 j23 j24 j31 j32 j8 => by rw [y2 j j2 j3 j4 j31 j32, m2s j j31 j32 j21, x1.2 j j22 j23 j24, bs M j j8 j22 j23 j24]
            have c3 : ∀ i, 5 < i → i ≠ 9 → i ≠ 10 → i ≠ 11 → i ≠ 12 → M3 i = M i := fun i i5 i9 i10 i11 i12 => by rw [y1 i i5, m2f i (by omega) i12, x1.1 i (by omega) i9 i10 i11, bf M i (by omega)]
            have hE : RM (sF S, (0, f), sR S, sC S, sI S, sT S) (up (Bg M) 0 21 0) := hM.lt (fun i a b => by rw [up_fr (by omega), bf M i (by omega)]) (fun j hj => by rw [up_sl (by omega), bs M j (by omega) (by omega) (by omega) (by omega)]) ⟨up_eq, fun j hj => absurd hj (Nat.not_lt_zero _)⟩
            refine hE.chF (fun i hi => ?_) (fun j hj => ?_) r3 (by rw [s3 36 (by omega) (by omega) (by omega) (by omega) (by omega) (by omega) (by omega) (by omega) (by omega) (by omega)]; exact hM.2.2.2.2.2.1) (by rw [c3 14 (by omega) (by omega) (by omega) (by omega) (by omega)]; exact hM.2.2.2.2.2.2)
            · rw [c3 i (by omega) (by omega) (by omega) (by omega) (by omega), up_fr (by omega), bf M i (by omega)]
            · by_cases ej : j = 21
              · rw [ej, up_eq, y2 21 (by omega) (by omega) (by omega) (by omega) (by omega), t2 21 (by omega) (by omega), up_eq]
              · rw [up_sl ej, s3 j (by omega) (by omega) (by omega) ej (by omega) (by omega) (by omega) (by omega) (by omega) (by omega), bs M j (by omega) (by omega) (by omega) (by omega)]
        · rw [← hC, e] at hp; omega
  · refine ⟨-1000 - C, (sF S, (0, f), sR S, sC S, sI S, sT S), hSL S hS, fun M hM => W9_field_0 (T_fb_15_1 hM.1 (fun M1 f1 r1 => ?_)), fun q M hM => W10_field_0 ⟨wb0, ?_⟩⟩
    · have x1 : FrX M M1 := fun i i15 i17 i19 i21 => f1 i i15 i17 i19 i21
      have hL1 := x1.L (lc M hM)
      refine W7_tells_0_29_15 (W7_firstWithoutSense_0_29 (L_sense hn hL1.1 hL1.2 n (-1) 0 (by omega) (by omega) ?_))
      rw [← hC]
      refine ⟨fun z => ?_, fun _ => ⟨_, M1, rfl, rfl, fun _ => ⟨_, rfl, rfl, cl0 S M1 (hM.dr x1)⟩, fun z => ?_⟩⟩
      · rw [weq (by omega) (by omega) (by omega) (by omega)] at z; exact absurd z e
      · rw [wr_id (by omega) (by omega)] at z; omega
    · have hB : (up (up (up (up M 0 8 0) 0 22 0) 0 23 0) 0 24 0) = Bg M := by rw [hBg]
      rw [hB]
      obtain ⟨l1, l2⟩ := lt M hM
      obtain ⟨k22, k23, k24⟩ := b22 M
      refine L_parse hn (M0 := Bg M) (by rw [bs M 21 (by omega) (by omega) (by omega) (by omega)]; exact l1) (fun j hj => by rw [bf M 8 (by omega)]; exact l2 j hj) (fun M1 N n1 n33 sN x1 m24 rd1 hc => ?_) (fun M1 p x1 hp => ?_) n 0 (Bg M) (by show n ≤ 0 + n; omega) (by show 0 ≤ n; omega) (by show 0 ≤ 0; omega) (FrP.rf _) k22 k23 k24 (fun j hj => absurd hj (Nat.not_lt_zero _)) (by show cls f n (n - 0) (-1) 0 = _; rw [Nat.sub_zero])
      · rw [← hC] at hc; exact absurd hc e
      · rw [← hC] at hp
        rw [← hp]
        refine ⟨_, _, rfl, rfl, hM.lt (fun i a b => by rw [up_fr (by omega), x1.1 i (by omega) (by omega) (by omega) (by omega), bf M i (by omega)]) (fun j hj => by rw [up_sl (by omega), x1.2 j (by omega) (by omega) (by omega), bs M j (by omega) (by omega) (by omega) (by omega)]) ⟨up_eq, fun j hj => absurd hj (Nat.not_lt_zero _)⟩⟩

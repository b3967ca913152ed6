/-! pairs: both sides answer alike -/
def frG (m k : Nat) : Nat → Nat → Nat → Nat
  | 0, _, _ => 0
  | f + 1, j, a => if m / 2 ^ j % 2 = 1 then (if a = k then j else frG m k f (j + 1) (a + 1)) else frG m k f (j + 1) a
def frF (m k : Nat) : Nat := frG m k 6 0 0
def wo (m k : Nat) : Nat := if m / 2 ^ k % 2 = 1 then m - 2 ^ k else m
def dfa : Nat → Nat
  | 0 => 1
  | 1 => 1
  | 2 => 3
  | _ => 15
def tn : Nat → Nat
  | 0 => 0
  | 1 => 1
  | 2 => 10
  | _ => 100
theorem bitQ : ∀ m, m < 64 → ∀ j, j < 7 → wr (iand (shr ((m : Nat) : Int) ((j : Nat) : Int)) 1) = if m / 2 ^ j % 2 = 1 then 1 else 0 := by decide +kernel
theorem woF : ∀ m, m < 64 → ∀ k, k < 6 → f9_without ((m : Nat) : Int) ((k : Nat) : Int) = ((wo m k : Nat) : Int) ∧ wo m k < 64 := by decide +kernel
theorem frF_lt : ∀ m, m < 64 → ∀ k, k < 6 → frF m k < 6 := by decide +kernel
theorem orF : ∀ t, t < 64 → ∀ h, h < 6 → ∀ w, w < 6 → ior_ ((t : Nat) : Int) (ior_ (shl 1 ((h : Nat) : Int)) (shl 1 ((w : Nat) : Int))) = ((t ||| (2 ^ h ||| 2 ^ w) : Nat) : Int) ∧ (t ||| (2 ^ h ||| 2 ^ w)) < 64 := by decide +kernel
theorem dfF : ∀ k, k < 3 → dv ((dfa (k + 1) : Nat) : Int) (2 * (((k + 1 : Nat)) : Int) - 1) = ((dfa k : Nat) : Int) := by decide +kernel
theorem diF : ∀ k, k < 3 → ∀ i, i < 15 → rmd (dv ((i : Nat) : Int) ((dfa k : Nat) : Int)) (2 * (((k + 1 : Nat)) : Int) - 1) = ((i / dfa k % (2 * k + 1) : Nat) : Int) := by decide +kernel
theorem dfB : ∀ k, k < 4 → 1 ≤ dfa k ∧ dfa k ≤ 15 := by decide +kernel
theorem tnF : ∀ k, k < 3 → 1 ≤ tn (k + 1) ∧ tn (k + 1) ≤ 100 ∧ dv ((tn (k + 1) : Nat) : Int) 10 = ((tn k : Nat) : Int) := by decide +kernel
theorem m0F : ∀ g, g < 4 → shl 1 (((2 * g : Nat)) : Int) - 1 = ((2 ^ (2 * g) - 1 : Nat) : Int) ∧ 2 ^ (2 * g) - 1 < 64 := by decide +kernel
def cW (i : Nat) : Nat → Nat → List Nat
  | 0, _ => []
  | k + 1, m => frF (wo m (frF m 0)) (i / dfa k % (2 * k + 1)) :: cW i k (wo (wo m (frF m 0)) (frF (wo m (frF m 0)) (i / dfa k % (2 * k + 1))))
def ffG (t : Nat) : Nat → Nat → Nat
  | 0, j => j
  | f + 1, j => if t / 2 ^ j % 2 = 1 then ffG t f (j + 1) else j
def ff (t : Nat) : Nat := ffG t 6 0
abbrev wOK (n c k t : Nat) : Prop := ff t < c / tn (k + 1) % 10 ∧ c / tn (k + 1) % 10 < n ∧ ¬ t / 2 ^ (c / tn (k + 1) % 10) % 2 = 1
def wkM (n c : Nat) : Nat → Nat → Option (List Nat)
  | 0, _ => some []
  | k + 1, t => if wOK n c k t then (wkM n c k (t ||| (2 ^ ff t ||| 2 ^ (c / tn (k + 1) % 10)))).map (fun l => (c / tn (k + 1) % 10) :: l) else none
def dgN : List Nat → Nat → Nat
  | [], a => a
  | w :: l, a => dgN l (10 * a + w)
abbrev cL (g i : Nat) : List Nat := cW i g (2 ^ (2 * g) - 1)
abbrev cd (g i : Nat) : Nat := dgN (cL g i) 0
theorem pfA : ∀ g, g < 4 → ∀ i, i < dfa g → wkM (2 * g) (cd g i) g 0 = some (cL g i) := by decide +kernel
theorem pfB : ∀ g, g < 4 → ∀ c, c < 10 ^ g → wkM (2 * g) c g 0 = none ∨ ∃ i, i < dfa g ∧ c = cd g i := by decide +kernel
theorem pfC : ∀ g, g < 4 → ∀ i, i < dfa g → ∀ j, j < dfa g → i < j → cd g i < cd g j := by decide +kernel
theorem pfD : ∀ g, g < 4 → ∀ i, i < dfa g → (∀ w, w ∈ cL g i → w < 2 * g) ∧ (cL g i).length = g ∧ cd g i < 10 ^ g := by decide +kernel
theorem L_free {m k : Nat} (hm : m < 64) (hk : k < 6) {M : Mem} {K : Int → Mem → Prop} : ∀ (f j a : Nat), j + f = 6 → a ≤ j → K ((frG m k f j a : Nat) : Int) M → TA i9_freeOf 4 [some (vi (m : Int)), some (vi (k : Int)), some (vi (a : Int)), some (vi (j : Int))] [] (LC, M) (fun rv G' => ∃ r M', rv = some (vi r) ∧ G' = (LC, M') ∧ K r M')
  | 0, j, a, hj, ha, h => by
    refine W9_freeOf_4 ⟨fun z => ?_, fun _ => ⟨_, M, rfl, rfl, h⟩⟩
    rw [wlt (by omega) (by omega) (by omega) (by omega)] at z; omega
  | f + 1, j, a, hj, ha, h => by
    have en : ((j + 1 : Nat) : Int) = (j : Int) + 1 := by omega
    have ea : ((a + 1 : Nat) : Int) = (a : Int) + 1 := by omega
    refine W9_freeOf_4 ⟨fun _ => ?_, fun z => ?_⟩
    · rw [bitQ m hm j (by omega), wr1]
      unfold frG at h
      by_cases g : m / 2 ^ j % 2 = 1
      · rw [if_pos g] at h ⊢
        refine ⟨fun _ => ⟨fun z => ?_, fun z => ?_⟩, fun z => absurd rfl z⟩
        · rw [weq (by omega) (by omega) (by omega) (by omega)] at z
          rw [if_pos (show a = k by omega)] at h
          exact ⟨_, M, rfl, rfl, h⟩
        · rw [weq (by omega) (by omega) (by omega) (by omega)] at z
          rw [if_neg (show ¬ a = k by omega)] at h
          have := L_free hm hk f (j + 1) (a + 1) (by omega) (by omega) h
          rw [en, ea] at this; exact this
      · rw [if_neg g] at h ⊢
        refine ⟨fun z => absurd z (by decide), fun _ => ?_⟩
        have := L_free hm hk f (j + 1) a (by omega) (by omega) h
        rw [en] at this; exact this
    · rw [wlt (by omega) (by omega) (by omega) (by omega)] at z; omega
theorem T_free {m k : Nat} (hm : m < 64) (hk : k < 6) {M : Mem} {K : Int → Mem → Prop} (h : K ((frF m k : Nat) : Int) M) : TI i9_freeOf 4 [vi (m : Int), vi (k : Int)] (LC, M) K :=
  W9_freeOf_0 (L_free hm hk 6 0 0 rfl (Nat.le_refl _) h)
def tot (T : Nat → Int) : List Nat → Int → Int
  | [], s => s
  | w :: l, s => if T w = 9999999 then 9999999 else tot T l (s + T w)
def sCl (T : Nat → Int) : List Nat → Int → Int
  | [], s => s
  | w :: l, s => sCl T l (s + T w)
theorem sCl_b {T : Nat → Int} : ∀ (l : List Nat) (s : Int), (∀ w, w ∈ l → 0 ≤ T w ∧ T w ≤ 10000000) → s ≤ sCl T l s ∧ sCl T l s ≤ s + 10000000 * (l.length : Int)
  | [], s, _ => by
    show s ≤ s ∧ s ≤ s + 10000000 * ((0 : Nat) : Int)
    omega
  | w :: l, s, h => by
    have hw := h w (List.mem_cons_self ..)
    have ih := sCl_b l (s + T w) (fun x hx => h x (List.mem_cons_of_mem _ hx))
    show s ≤ sCl T l (s + T w) ∧ sCl T l (s + T w) ≤ s + 10000000 * ((l.length + 1 : Nat) : Int)
    omega
theorem tot_rel {T C : Nat → Int} (hT : ∀ w, w < 6 → (T w < 9999999 ∧ 0 ≤ T w ∧ T w ≤ 9000 ∧ C w = T w) ∨ (T w = 9999999 ∧ C w = 10000000)) : ∀ (l : List Nat) (s : Int), (∀ w, w ∈ l → w < 6) → 0 ≤ s → (tot T l s = 9999999 ∧ 10000000 ≤ sCl C l s ∧ sCl C l s ≤ s + 10000000 * (l.length : Int)) ∨ (tot T l s = sCl C l s ∧ s ≤ sCl C l s ∧ sCl C l s ≤ s + 9000 * (l.length : Int))
  | [], s, _, hs => by
    refine Or.inr ⟨rfl, ?_⟩
    show s ≤ s ∧ s ≤ s + 9000 * ((0 : Nat) : Int)
    omega
  | w :: l, s, h, hs => by
    have hw := hT w (h w (List.mem_cons_self ..))
    have el : ((w :: l).length : Int) = (l.length : Int) + 1 := by rw [List.length_cons]; omega
    rw [el]
    have h' : ∀ x, x ∈ l → x < 6 := fun x hx => h x (List.mem_cons_of_mem _ hx)
    have e1 : sCl C (w :: l) s = sCl C l (s + C w) := rfl
    have e2 : tot T (w :: l) s = if T w = 9999999 then 9999999 else tot T l (s + T w) := rfl
    rw [e1, e2]
    rcases hw with ⟨a1, a2, a3, a4⟩ | ⟨a1, a2⟩
    · rw [if_neg (by omega), a4]
      have := tot_rel hT l (s + T w) h' (by omega)
      omega
    · rw [if_pos a1, a2]
      have := sCl_b (T := C) l (s + 10000000) (fun x hx => by have := hT x (h' x hx); omega)
      omega
theorem L_pC {S : ST} (hF : FOK (sF S)) {h p : Int} {M : Mem} (hA : AllC S h p (pn (sF S)).toNat M) {i : Nat} (hi : i < 15) {x3 : Int} {K : Int → Mem → Prop} : ∀ (k m said : Nat) (s : Int), k ≤ 3 → m < 64 → (∀ w, w ∈ cW i k m → w < (pn (sF S)).toNat) → K (if wr x3 = 0 then sCl (fun j => tvC (tA S h p j)) (cW i k m) s else ((dgN (cW i k m) said : Nat) : Int)) M →
    TA i9_pairingOf 33 [some (vr 0), some (vi (i : Int)), none, some (vi x3), some (vi (m : Int)), some (vi ((dfa k : Nat) : Int)), some (vi (said : Int)), some (vi s), some (vi (2 * (k : Int) - 1)), none] [] (LC, M) (fun rv G' => ∃ r M', rv = some (vi r) ∧ G' = (LC, M') ∧ K r M')
  | 0, m, said, s, hk, hm, hw, hK => by
    refine W9_pairingOf_33 ⟨fun _ => W9_pairingOf_133 ⟨_, M, rfl, rfl, hK⟩, fun z => ?_⟩
    exact absurd (by decide) z
  | k + 1, m, said, s, hk, hm, hw, hK => by
    have hp := hF.2.2.1
    have ek : 2 * (((k + 1 : Nat)) : Int) - 1 + (-2) = 2 * (k : Int) - 1 := by omega
    have hd := dfB k (by omega)
    have w0 := frF_lt m hm 0 (by omega)
    have v0 := woF m hm _ w0
    have hq : i / dfa k % (2 * k + 1) < 6 := by
      have := Nat.mod_lt (i / dfa k) (show 2 * k + 1 > 0 by omega)
      omega
    have w1 := frF_lt _ v0.2 _ hq
    have v1 := woF _ v0.2 _ w1
    have hw0 : frF (wo m (frF m 0)) (i / dfa k % (2 * k + 1)) < (pn (sF S)).toNat := hw _ (List.mem_cons_self ..)
    refine W9_pairingOf_33 ⟨fun z => ?_, fun _ => ⟨?_, T_free (k := 0) hm (by omega) ?_⟩⟩
    · rw [wlt (by omega) (by omega) (by omega) (by omega)] at z; omega
    · rw [wr_id (by omega) (by omega)]; omega
    rw [dfF k (by omega), diF k (by omega) i hi, v0.1]
    refine ⟨fun z => ?_, fun _ => ⟨?_, ?_, T_free v0.2 hq ?_⟩⟩
    · rw [wlt (by omega) (by omega) (by omega) (by omega)] at z; omega
    · rw [wr_id (by omega) (by omega)]; omega
    · rw [wr_id (by omega) (by omega)]; omega
    · rw [v1.1, rd_in (by omega) (by omega) (by omega), ek, show (((frF (wo m (frF m 0)) (i / dfa k % (2 * k + 1)) : Nat)) : Int).toNat = frF (wo m (frF m 0)) (i / dfa k % (2 * k + 1)) by omega, hA _ hw0]
      have := L_pC hF hA hi (x3 := x3) (K := K) k _ (10 * said + frF (wo m (frF m 0)) (i / dfa k % (2 * k + 1))) (s + tvC (tA S h p (frF (wo m (frF m 0)) (i / dfa k % (2 * k + 1))))) (by omega) v1.2 (fun w hw' => hw w (List.mem_cons_of_mem _ hw')) hK
      rw [show (((10 * said + frF (wo m (frF m 0)) (i / dfa k % (2 * k + 1)) : Nat)) : Int) = 10 * (said : Int) + ((frF (wo m (frF m 0)) (i / dfa k % (2 * k + 1)) : Nat) : Int) by omega] at this
      exact this
theorem T_pC {S : ST} (hF : FOK (sF S)) {h p : Int} {M : Mem} (hM : RC S M) (hA : AllC S h p (pn (sF S)).toNat M) {g : Nat} (hg : g < 4) (hn : pn (sF S) = ((2 * g : Nat) : Int)) {i : Nat} (hi : i < dfa g) {x3 : Int} {K : Int → Mem → Prop} (hK : K (if wr x3 = 0 then sCl (fun j => tvC (tA S h p j)) (cL g i) 0 else ((cd g i : Nat) : Int)) M) :
    TI i9_pairingOf 10 [vr 0, vi (i : Int), vi ((dfa g : Nat) : Int), vi x3] (LC, M) K := by
  have h1 := m0F g hg
  have hd := dfB g hg
  refine W9_pairingOf_0 ?_
  rw [hM.1.2.2.1, hn, h1.1, show (((2 * g : Nat)) : Int) - 1 = 2 * (g : Int) - 1 by omega]
  exact L_pC hF hA (by omega) g _ 0 0 (by omega) h1.2 (fun w hw => by have := (pfD g hg i hi).1 w hw; omega) hK
def pI (G : Nat → Int) : Nat → Nat → Int × Int → Int × Int
  | 0, _, s => s
  | k + 1, i, s => pI G k (i + 1) (if G i < s.2 then ((i : Int), G i) else s)
theorem pI_y {G : Nat → Int} {k i : Nat} {s : Int × Int} (g : G i < s.2) : pI G (k + 1) i s = pI G k (i + 1) ((i : Int), G i) := by
  show pI G k (i + 1) (if G i < s.2 then ((i : Int), G i) else s) = _
  rw [if_pos g]
theorem pI_n {G : Nat → Int} {k i : Nat} {s : Int × Int} (g : ¬ G i < s.2) : pI G (k + 1) i s = pI G k (i + 1) s := by
  show pI G k (i + 1) (if G i < s.2 then ((i : Int), G i) else s) = _
  rw [if_neg g]
def NP (P : Nat) (s : Int × Int) : Prop := (s.1 = -9 ∧ s.2 = 9999999) ∨ ∃ j : Nat, j < P ∧ s.1 = (j : Int) ∧ 0 ≤ s.2 ∧ s.2 ≤ 27000
abbrev cG (S : ST) (h p : Int) (g : Nat) (i : Nat) : Int := tot (tN' S h p) (cL g i) 0
def pEnd (g : Nat) (w : Int) (s : Int × Int) : Int := if s.1 = -9 then -9 else if w = 0 then s.2 else ((cd g s.1.toNat : Nat) : Int)
theorem tvT {S : ST} (hF : FOK (sF S)) {h p : Int} (hb : BOK h p) : ∀ w, w < 6 → ((tN' S h p) w < 9999999 ∧ 0 ≤ (tN' S h p) w ∧ (tN' S h p) w ≤ 9000 ∧ (fun j => tvC (tA S h p j)) w = (tN' S h p) w) ∨ ((tN' S h p) w = 9999999 ∧ (fun j => tvC (tA S h p j)) w = 10000000) := fun w hw => tv_two (r := tA S h p w) (TB_race hF (hln hF) hw hb)
theorem cG_rel {S : ST} (hF : FOK (sF S)) {h p : Int} (hb : BOK h p) {g : Nat} (hg : g < 4) {i : Nat} (hi : i < dfa g) : (cG S h p g i = 9999999 ∧ 10000000 ≤ sCl (fun j => tvC (tA S h p j)) (cL g i) 0 ∧ sCl (fun j => tvC (tA S h p j)) (cL g i) 0 ≤ 30000000) ∨ (cG S h p g i = sCl (fun j => tvC (tA S h p j)) (cL g i) 0 ∧ 0 ≤ cG S h p g i ∧ cG S h p g i ≤ 27000) := by
  have hD := pfD g hg i hi
  have := tot_rel (tvT hF hb) (cL g i) 0 (fun w hw => by have := hD.1 w hw; omega) (by omega)
  rw [hD.2.1] at this
  show (tot (tN' S h p) (cL g i) 0 = 9999999 ∧ _) ∨ (tot (tN' S h p) (cL g i) 0 = _ ∧ 0 ≤ tot (tN' S h p) (cL g i) 0 ∧ tot (tN' S h p) (cL g i) 0 ≤ 27000)
  omega
theorem L_bpC {S : ST} (hF : FOK (sF S)) {h p : Int} (hb : BOK h p) {M : Mem} (hM : RC S M) (hA : AllC S h p (pn (sF S)).toNat M) {g : Nat} (hg : g < 4) (hn : pn (sF S) = ((2 * g : Nat) : Int)) {x1 : Int} {K : Int → Mem → Prop} : ∀ (k i : Nat) (s : Int × Int), i + k = dfa g → NP (dfa g) s → K (pEnd g (wr x1) (pI (cG S h p g) k i s)) M →
    TA i9_bestPairing 43 [some (vr 0), some (vi x1), some (vi s.1), some (vi (nC s.2)), some (vi ((dfa g : Nat) : Int)), some (vi (i : Int)), none] [] (LC, M) (fun rv G' => ∃ r M', rv = some (vi r) ∧ G' = (LC, M') ∧ K r M')
  | 0, i, s, hi, hs, hK => by
    have hd := dfB g hg
    have hK' : K (pEnd g (wr x1) s) M := hK
    refine W9_bestPairing_43 ⟨fun z => ?_, fun _ => ?_⟩
    · rw [wlt (by omega) (by omega) (by omega) (by omega)] at z; omega
    · unfold pEnd at hK'
      rcases hs with ⟨h1, h2⟩ | ⟨j, hj, h1, h2, h3⟩
      · rw [if_pos h1] at hK'
        rw [h1]
        exact ⟨fun _ => ⟨_, M, rfl, rfl, hK'⟩, fun z => absurd rfl z⟩
      · rw [if_neg (c := s.1 = -9) (by omega)] at hK'
        have e2 : nC s.2 = s.2 := if_neg (by omega)
        rw [weq (by omega) (by omega) (by omega) (by omega), e2]
        refine ⟨fun z => by omega, fun _ => ⟨fun z => ?_, fun z => ?_⟩⟩
        · rw [if_pos z] at hK'
          exact ⟨_, M, rfl, rfl, hK'⟩
        · rw [if_neg z] at hK'
          rw [h1] at hK' ⊢
          refine T_pC hF hM hA hg hn hj ⟨_, M, rfl, rfl, ?_⟩
          rw [if_neg (c := wr 1 = 0) (by rw [wr1]; omega)]
          exact hK'
  | k + 1, i, s, hi, hs, hK => by
    have hd := dfB g hg
    have en : ((i + 1 : Nat) : Int) = (i : Int) + 1 := by omega
    have hr := cG_rel hF hb hg (show i < dfa g by omega)
    refine W9_bestPairing_43 ⟨fun _ => T_pC hF hM hA hg hn (by omega) ?_, fun z => ?_⟩
    · rw [if_pos wr0]
      obtain ⟨v, hv⟩ : ∃ v, v = sCl (fun j => tvC (tA S h p j)) (cL g i) 0 := ⟨_, rfl⟩
      obtain ⟨u, hu⟩ : ∃ u, u = cG S h p g i := ⟨_, rfl⟩
      obtain ⟨x, hx⟩ : ∃ x, x = nC s.2 := ⟨_, rfl⟩
      have hx2 : (s.2 = 9999999 ∧ x = 10000000) ∨ (s.2 ≠ 9999999 ∧ x = s.2) := by
        rw [hx]; unfold nC
        by_cases g : s.2 = 9999999
        · rw [if_pos g]; exact Or.inl ⟨g, rfl⟩
        · rw [if_neg g]; exact Or.inr ⟨g, rfl⟩
      have hs2 : 0 ≤ s.2 ∧ (s.2 ≤ 27000 ∨ s.2 = 9999999) := by
        rcases hs with ⟨h1, h2⟩ | ⟨j, hj, h1, h2, h3⟩ <;> omega
      rw [← hu, ← hv] at hr
      rw [← hv, ← hx]
      refine ⟨fun z => ?_, fun z => ?_⟩
      · rw [wlt (by omega) (by omega) (by omega) (by omega)] at z
        rw [pI_y (by rw [← hu]; omega), ← hu] at hK
        have := L_bpC hF hb hM hA hg hn (x1 := x1) (K := K) k (i + 1) ((i : Int), u) (by omega) (Or.inr ⟨i, by omega, rfl, by show 0 ≤ u; omega, by show u ≤ 27000; omega⟩) hK
        have e3 : nC u = v := by unfold nC; rw [if_neg (by omega)]; omega
        rw [en, show nC ((i : Int), u).2 = v from e3] at this
        exact this
      · rw [wlt (by omega) (by omega) (by omega) (by omega)] at z
        rw [pI_n (by rw [← hu]; omega)] at hK
        have := L_bpC hF hb hM hA hg hn (x1 := x1) (K := K) k (i + 1) s (by omega) hs hK
        rw [en, ← hx] at this
        exact this
    · rw [wlt (by omega) (by omega) (by omega) (by omega)] at z; omega
/-- the reference: the sum of a code -/
theorem L_ff {q : Option Nat} {M : Mem} {x1 x2 x3 x5 x7 : Int} {t : Nat} (ht : t < 64) {Post : Option AV → GM → Prop} (hN : ¬ t / 2 ^ ff t % 2 = 1 → ff t ≤ 6 → TA i10_sumOfPairs 48 [some (vr 0), some (vi x1), some (vi x2), some (vi x3), some (vi (t : Int)), some (vi x5), none, some (vi x7), some (vi ((ff t : Nat) : Int)), none, none] [] (LM q, M) Post) : ∀ (f j : Nat), j + f = 6 → ffG t f j = ff t →
    TA i10_sumOfPairs 48 [some (vr 0), some (vi x1), some (vi x2), some (vi x3), some (vi (t : Int)), some (vi x5), none, some (vi x7), some (vi (j : Int)), none, none] [] (LM q, M) Post
  | 0, j, hj, h => by
    have e : j = ff t := h
    have e6 : j = 6 := by omega
    have := hN (by rw [← e, e6]; have : t / 2 ^ 6 = 0 := Nat.div_eq_of_lt (by omega); rw [this]; decide) (by omega)
    rw [← e] at this; exact this
  | f + 1, j, hj, h => by
    have en : ((j + 1 : Nat) : Int) = (j : Int) + 1 := by omega
    unfold ffG at h
    by_cases g : t / 2 ^ j % 2 = 1
    · rw [if_pos g] at h
      refine W10_sumOfPairs_48 ⟨fun _ => ?_, fun z => ?_⟩
      · have := L_ff (q := q) (M := M) (x1 := x1) (x2 := x2) (x3 := x3) (x5 := x5) (x7 := x7) ht hN f (j + 1) (by omega) h
        rw [en] at this; exact this
      · rw [bitQ t ht j (by omega), if_pos g] at z; exact absurd wr1.symm z
    · rw [if_neg g] at h
      have := hN (by rw [← h]; exact g) (by omega)
      rw [← h] at this; exact this
def gS (T : Nat → Int) (o : Option (List Nat)) (s : Int) : Int := match o with
  | none => 9999999
  | some l => tot T l s
theorem gS_map {T : Nat → Int} {o : Option (List Nat)} {w : Nat} {s : Int} : gS T (o.map (fun l => w :: l)) s = if T w = 9999999 then 9999999 else gS T o (s + T w) := by
  cases o with
  | none => show (9999999 : Int) = if T w = 9999999 then 9999999 else 9999999
            split <;> rfl
  | some l => rfl
theorem cdg {c k : Nat} (hc : c < 1000) (hk : k < 3) : rmd (dv (c : Int) ((tn (k + 1) : Nat) : Int)) 10 = ((c / tn (k + 1) % 10 : Nat) : Int) := by
  have : k = 0 ∨ k = 1 ∨ k = 2 := by omega
  rcases this with rfl | rfl | rfl
  · show rmd (dv (c : Int) 1) 10 = ((c / 1 % 10 : Nat) : Int)
    rw [dv_nat (by omega) (by omega) (by omega) (by omega), rmd_nat (by omega) (by omega) (by omega) (by omega)]; omega
  · show rmd (dv (c : Int) 10) 10 = ((c / 10 % 10 : Nat) : Int)
    rw [dv_nat (by omega) (by omega) (by omega) (by omega), rmd_nat (by omega) (by omega) (by omega) (by omega)]; omega
  · show rmd (dv (c : Int) 100) 10 = ((c / 100 % 10 : Nat) : Int)
    rw [dv_nat (by omega) (by omega) (by omega) (by omega), rmd_nat (by omega) (by omega) (by omega) (by omega)]; omega
theorem L_smM {S : ST} (hF : FOK (sF S)) {h p : Int} (hb : BOK h p) {q : Option Nat} {n c : Nat} (hc : c < 1000) (hn : pn (sF S) = (n : Int)) {K : Int → Mem → Prop} : ∀ (k t : Nat) (s : Int) (M : Mem), k ≤ 3 → t < 64 → 0 ≤ s → s + 9000 * (k : Int) ≤ 27000 → RM S M → (∀ M', RM S M' → K (gS (tN' S h p) (wkM n c k t) s) M') →
    TA i10_sumOfPairs 40 [some (vr 0), some (vi (c : Int)), some (vi h), some (vi p), some (vi (t : Int)), some (vi s), none, some (vi ((tn k : Nat) : Int)), none, none, none] [] (LM q, M) (fun rv G' => ∃ r M', rv = some (vi r) ∧ G' = (LM q, M') ∧ K r M')
  | 0, t, s, M, hk, ht, hs, hs2, hM, hK => by
    refine W10_sumOfPairs_40 ⟨fun z => absurd z (by decide), fun _ => ⟨_, M, rfl, rfl, hK M hM⟩⟩
  | k + 1, t, s, M, hk, ht, hs, hs2, hM, hK => by
    have hp := hF.2.2.1
    have t1 := tnF k (by omega)
    refine W10_sumOfPairs_40 ⟨fun _ => L_ff ht (fun hbit hff => ?_) 6 0 rfl rfl, fun z => ?_⟩
    · refine W10_sumOfPairs_48 ?_
      rw [cdg hc (by omega), bitQ t ht (ff t) (by omega), if_neg hbit]
      obtain ⟨w, hw⟩ : ∃ w, w = c / tn (k + 1) % 10 := ⟨_, rfl⟩
      have hw9 : w < 10 := by rw [hw]; omega
      have bad : ¬ wOK n c k t → K 9999999 = K (gS (tN' S h p) (wkM n c (k + 1) t) s) := by
        intro g
        have : wkM n c (k + 1) t = none := if_neg g
        rw [this]; rfl
      rw [← hw]
      refine ⟨fun z => absurd z (by decide), fun _ => ⟨?_, by decide, fun z1 => ?_, fun z1 => ?_⟩⟩
      · rw [wr_id (by omega) (by omega)]; omega
      · rw [wlt (by omega) (by omega) (by omega) (by omega)] at z1
        refine ⟨fun z2 => ?_, fun z2 => ?_⟩
        · rw [hM.1.2.2.1, wlt (by omega) (by omega) (by omega) (by omega)] at z2
          have hwn : w < n := by omega
          have hw6 : w < 6 := by omega
          rw [bitQ t ht w (by omega)]
          by_cases gb : t / 2 ^ w % 2 = 1
          · rw [if_pos gb]
            refine ⟨fun _ => ⟨_, M, rfl, rfl, ?_⟩, fun z => absurd wr1.symm z⟩
            rw [bad (fun cc => cc.2.2 (by rw [← hw]; exact gb))]; exact hK M hM
          · rw [if_neg gb]
            refine ⟨fun z => absurd z (by decide), fun _ => T_plainRun hF hb hw6 hM.1 (fun M' hL => ?_)⟩
            have ok : wOK n c k t := ⟨by rw [← hw]; omega, by rw [← hw]; exact hwn, by rw [← hw]; exact gb⟩
            have e1 : wkM n c (k + 1) t = (wkM n c k (t ||| (2 ^ ff t ||| 2 ^ w))).map (fun l => w :: l) := by
              rw [hw]; exact if_pos ok
            rw [e1, gS_map] at hK
            have tw := tN_b hF hb hw6
            rw [show sRace (sF S) (ln (sF S)).toNat w h p = tA S h p w from rfl, weq (by omega) (by omega) (by omega) (by omega)]
            have hM' := hM.fr hL.1.q
            refine ⟨fun z => ⟨_, M', rfl, rfl, ?_⟩, fun z => ⟨by decide, ?_⟩⟩
            · rw [if_pos z] at hK; exact hK M' hM'
            · rw [if_neg z] at hK
              have o1 := orF t ht (ff t) (by omega) w hw6
              rw [o1.1, t1.2.2]
              exact L_smM hF hb hc hn k _ _ M' (by omega) o1.2 (by omega) (by omega) hM' hK
        · rw [hM.1.2.2.1, wlt (by omega) (by omega) (by omega) (by omega)] at z2
          refine ⟨_, M, rfl, rfl, ?_⟩
          rw [bad (fun cc => by have := cc.2.1; rw [← hw] at this; omega)]; exact hK M hM
      · rw [wlt (by omega) (by omega) (by omega) (by omega)] at z1
        refine ⟨_, M, rfl, rfl, ?_⟩
        rw [bad (fun cc => by have := cc.1; rw [← hw] at this; omega)]; exact hK M hM
    · rw [wr_id (by omega) (by omega)] at z; omega
theorem T_smM {S : ST} (hF : FOK (sF S)) {h p : Int} (hb : BOK h p) {q : Option Nat} {g c : Nat} (hg : 1 ≤ g ∧ g < 4) (hc : c < 1000) (hn : pn (sF S) = ((2 * g : Nat) : Int)) {K : Int → Mem → Prop} {M : Mem} (hM : RM S M) (hK : ∀ M', RM S M' → K (gS (tN' S h p) (wkM (2 * g) c g 0) 0) M') : TI i10_sumOfPairs 11 [vr 0, vi (c : Int), vi h, vi p] (LM q, M) K := by
  refine W10_sumOfPairs_0 (W10_sumOfPairs_34 ?_)
  have e : (if wr (M 0 4) = wr 6 then (100 : Int) else if wr (M 0 4) = wr 4 then 10 else 1) = ((tn g : Nat) : Int) := by
    rw [hM.1.2.2.1, hn]
    have : g = 1 ∨ g = 2 ∨ g = 3 := by omega
    rcases this with rfl | rfl | rfl <;> decide
  rw [e]
  exact L_smM hF hb hc hn g 0 0 M (by omega) (by omega) (by omega) (by omega) hM hK
def cvP (g : Nat) (x : Int) : Int := if x = -9 then -9 else ((cd g x.toNat : Nat) : Int)
theorem L_pgM {S : ST} (hF : FOK (sF S)) {h p : Int} (hb : BOK h p) {q : Option Nat} {g : Nat} (hg : 1 ≤ g ∧ g < 4) (hn : pn (sF S) = ((2 * g : Nat) : Int)) {x3 R : Int} : ∀ (k c i : Nat) (s : Int × Int) (M : Mem), c + k = 10 ^ g → i ≤ dfa g → (∀ j, j < i → cd g j < c) → (∀ j, i ≤ j → j < dfa g → c ≤ cd g j) → NP (dfa g) s → pEnd g (wr x3) (pI (cG S h p g) (dfa g - i) i s) = R → RM S M →
    TA i10_pairs 199 [some (vr 0), some (vi h), some (vi p), some (vi x3), none, some (vi (cvP g s.1)), some (vi s.2), some (vi ((10 ^ g : Nat) : Int)), some (vi (c : Int)), none] [] (LM q, M) (MP S R)
  | 0, c, i, s, M, hc, hi, h1, h2, hs, hR, hM => by
    have hR3 : 10 ^ g ≤ 1000 := by
      have : g = 1 ∨ g = 2 ∨ g = 3 := by omega
      rcases this with rfl | rfl | rfl <;> decide
    have ei : i = dfa g := by
      apply Classical.byContradiction
      intro z
      have a1 := h2 i (Nat.le_refl _) (by omega)
      have a2 := (pfD g hg.2 i (by omega)).2.2
      omega
    rw [ei, Nat.sub_self] at hR
    have hR' : pEnd g (wr x3) s = R := hR
    refine W10_pairs_199 ⟨fun z => ?_, fun _ => W10_pairs_268 ⟨q, M, ?_, rfl, hM⟩⟩
    · rw [wlt (by omega) (by omega) (by omega) (by omega)] at z; omega
    · rw [← hR']
      unfold pEnd f10_told0 cvP
      rcases hs with ⟨h1, h2⟩ | ⟨j, hj, h1, h2, h3⟩
      · rw [if_pos h1, h2, if_neg (c := wr 9999999 < wr 9999999) (by omega), if_pos h1]
        split <;> rfl
      · have n9 : ¬ s.1 = -9 := by omega
        rw [if_neg (c := s.1 = -9) n9, if_neg (c := s.1 = -9) n9, if_pos (c := wr s.2 < wr 9999999) (by rw [wlt (by omega) (by omega) (by omega) (by omega)]; omega)]
  | k + 1, c, i, s, M, hc, hi, h1, h2, hs, hR, hM => by
    have en : ((c + 1 : Nat) : Int) = (c : Int) + 1 := by omega
    have hR3 : 10 ^ g ≤ 1000 := by
      have : g = 1 ∨ g = 2 ∨ g = 3 := by omega
      rcases this with rfl | rfl | rfl <;> decide
    have hs2 : 0 ≤ s.2 ∧ (s.2 ≤ 27000 ∨ s.2 = 9999999) := by
      rcases hs with ⟨h1, h2⟩ | ⟨j, hj, h1, h2, h3⟩ <;> omega
    refine W10_pairs_199 ⟨fun _ => T_smM hF hb hg (by omega) hn hM (fun M' hM' => W10_pairs_230 (W10_pairs_246 ?_)), fun z => ?_⟩
    · rcases pfB g hg.2 c (by omega) with e | ⟨j, hj, e⟩
      · rw [e]
        show TA i10_pairs 199 [_, _, _, _, _, some (vi (if wr 9999999 < wr s.2 then (c : Int) else cvP g s.1)), some (vi (if wr 9999999 < wr s.2 then 9999999 else s.2)), _, _, _] _ _ _
        rw [if_neg (by rw [wlt (by omega) (by omega) (by omega) (by omega)]; omega), if_neg (by rw [wlt (by omega) (by omega) (by omega) (by omega)]; omega)]
        have := L_pgM hF hb (q := q) hg hn (x3 := x3) k (c + 1) i s M' (by omega) hi (fun j hj => by have := h1 j hj; omega) (fun j a b => by
          have a1 := h2 j a b
          have a2 : c ≠ cd g j := fun z => by
            have := pfA g hg.2 j b
            rw [← z, e] at this
            cases this
          omega) hs hR hM'
        rw [en] at this; exact this
      · have ej : j = i := by
          apply Classical.byContradiction
          intro z
          by_cases y : j < i
          · have := h1 j y; omega
          · have a1 := h2 i (Nat.le_refl _) (by omega)
            have a2 := pfC g hg.2 i (by omega) j hj (by omega)
            omega
        subst ej
        rw [e, pfA g hg.2 j hj]
        have hr := cG_rel hF hb hg.2 hj
        obtain ⟨u, hu⟩ : ∃ u, u = cG S h p g j := ⟨_, rfl⟩
        rw [show gS (tN' S h p) (some (cL g j)) 0 = u from hu.symm]
        rw [← hu] at hr
        have hu2 : 0 ≤ u ∧ u ≤ 9999999 := by omega
        rw [show dfa g - j = (dfa g - (j + 1)) + 1 by omega] at hR
        have nx : ∀ s', NP (dfa g) s' → pEnd g (wr x3) (pI (cG S h p g) (dfa g - (j + 1)) (j + 1) s') = R → TA i10_pairs 199 [some (vr 0), some (vi h), some (vi p), some (vi x3), none, some (vi (cvP g s'.1)), some (vi s'.2), some (vi ((10 ^ g : Nat) : Int)), some (vi (((cd g j : Nat) : Int) + 1)), none] [] (LM q, M') (MP S R) := by
          intro s' hs' hR'
          have := L_pgM hF hb (q := q) hg hn (x3 := x3) k (c + 1) (j + 1) s' M' (by omega) (by omega) (fun j' hj' => by
            by_cases y : j' = j
            · rw [y]; omega
            · have := h1 j' (by omega); omega) (fun j' a b => by have := pfC g hg.2 j hj j' b (by omega); omega) hs' hR' hM'
          rw [en, e] at this; exact this
        by_cases y : u < s.2
        · rw [if_pos (c := wr u < wr s.2) (by rw [wlt (by omega) (by omega) (by omega) (by omega)]; exact y), if_pos (c := wr u < wr s.2) (by rw [wlt (by omega) (by omega) (by omega) (by omega)]; exact y)]
          rw [pI_y (by rw [← hu]; exact y), ← hu] at hR
          have := nx ((j : Int), u) (Or.inr ⟨j, hj, rfl, by show 0 ≤ u; omega, by show u ≤ 27000; omega⟩) hR
          have ec : cvP g (j : Int) = ((cd g j : Nat) : Int) := by
            unfold cvP
            rw [if_neg (by omega), show ((j : Int)).toNat = j by omega]
          rw [show cvP g ((j : Int), u).1 = ((cd g j : Nat) : Int) from ec] at this
          exact this
        · rw [if_neg (c := wr u < wr s.2) (by rw [wlt (by omega) (by omega) (by omega) (by omega)]; exact y), if_neg (c := wr u < wr s.2) (by rw [wlt (by omega) (by omega) (by omega) (by omega)]; exact y)]
          rw [pI_n (by rw [← hu]; exact y)] at hR
          exact nx s hs hR
    · rw [wlt (by omega) (by omega) (by omega) (by omega)] at z; omega
/-- the first two -/
def inP (S : ST) (h p : Int) (a : Nat) : Nat → Nat → Int × RS → Int × RS
  | 0, _, s => s
  | k + 1, b, s => inP S h p a k (b + 1) (bst s (10 * (a : Int) + (b : Int)) (tA S h p b))
def ouP (S : ST) (h p : Int) : Nat → Nat → Int × RS → Int × RS
  | 0, _, s => s
  | k + 1, a, s => ouP S h p k (a + 1) (inP S h p a k (a + 1) s)
theorem TB_inP {S : ST} (hF : FOK (sF S)) {h p : Int} (hb : BOK h p) {a : Nat} : ∀ (k b : Nat) (s : Int × RS), b + k ≤ 6 → TB s.2 → TB (inP S h p a k b s).2
  | 0, _, _, _, t => t
  | k + 1, b, s, hk, t => TB_inP hF hb k (b + 1) _ (by omega) (TB_bst t (TB_race hF (hln hF) (by omega) hb))
theorem L_fiC {S : ST} (hF : FOK (sF S)) {h p : Int} (hb : BOK h p) {M : Mem} (hM : RC S M) (hA : AllC S h p (pn (sF S)).toNat M) {a : Nat} (ha : a < (pn (sF S)).toNat) {Post : Option AV → GM → Prop} : ∀ (k b : Nat) (s : Int × RS), b + k = (pn (sF S)).toNat → TB s.2 →
    TA i9_firstPair 8 [some (vr 0), some (vi (inP S h p a k b s).1), some (vi (tvC (inP S h p a k b s).2)), some (vi ((a : Int) + 1)), none] [] (LC, M) Post →
    TA i9_firstPair 24 [some (vr 0), some (vi s.1), some (vi (tvC s.2)), some (vi (a : Int)), some (vi (b : Int))] [] (LC, M) Post
  | 0, b, s, hk, hs, hN => by
    have hp := hF.2.2.1
    refine W9_firstPair_24 ⟨fun z => ?_, fun _ => hN⟩
    rw [hM.1.2.2.1, wlt (by omega) (by omega) (by omega) (by omega)] at z; omega
  | k + 1, b, s, hk, hs, hN => by
    have hp := hF.2.2.1
    have en : ((b + 1 : Nat) : Int) = (b : Int) + 1 := by omega
    have t1 : TB (tA S h p b) := TB_race hF (hln hF) (show b < 6 by omega) hb
    have ih := L_fiC hF hb hM hA ha k (b + 1) _ (by omega) (TB_bst (v := 10 * (a : Int) + (b : Int)) hs t1) hN
    rw [en] at ih
    refine W9_firstPair_24 ⟨fun _ => ?_, fun z => ?_⟩
    · rw [rd_in (by omega) (by omega) (by omega), show ((b : Int)).toNat = b by omega, hA b (by omega)]
      refine ⟨fun z => ?_, fun z => ?_⟩
      · rw [bst_lt ((tlC t1 hs).1 z)] at ih; exact ih
      · rw [bst_ge (fun y => z ((tlC t1 hs).2 y))] at ih; exact ih
    · rw [hM.1.2.2.1, wr_id (by omega) (by omega), wr_id (by omega) (by omega)] at z; omega
theorem L_foC {S : ST} (hF : FOK (sF S)) {h p : Int} (hb : BOK h p) {M : Mem} (hM : RC S M) (hA : AllC S h p (pn (sF S)).toNat M) {K : Int → Mem → Prop} : ∀ (k a : Nat) (s : Int × RS), a + k = (pn (sF S)).toNat → TB s.2 → K (ouP S h p k a s).1 M →
    TA i9_firstPair 8 [some (vr 0), some (vi s.1), some (vi (tvC s.2)), some (vi (a : Int)), none] [] (LC, M) (fun rv G' => ∃ r M', rv = some (vi r) ∧ G' = (LC, M') ∧ K r M')
  | 0, a, s, hk, hs, hK => by
    have hp := hF.2.2.1
    refine W9_firstPair_8 ⟨fun z => ?_, fun _ => ⟨_, M, rfl, rfl, hK⟩⟩
    rw [hM.1.2.2.1, wlt (by omega) (by omega) (by omega) (by omega)] at z; omega
  | k + 1, a, s, hk, hs, hK => by
    have hp := hF.2.2.1
    have en : ((a + 1 : Nat) : Int) = (a : Int) + 1 := by omega
    refine W9_firstPair_8 ⟨fun _ => ?_, fun z => ?_⟩
    · rw [← en]
      refine L_fiC hF hb hM hA (by omega) k (a + 1) s (by omega) hs ?_
      rw [← en]
      exact L_foC hF hb hM hA k (a + 1) _ (by omega) (TB_inP hF hb k (a + 1) s (by omega) hs) hK
    · rw [hM.1.2.2.1, wr_id (by omega) (by omega), wr_id (by omega) (by omega)] at z; omega
theorem L_fiM {S : ST} (hF : FOK (sF S)) {h p : Int} (hb : BOK h p) {q : Option Nat} {a : Nat} (ha : a < (pn (sF S)).toNat) {Post : Option AV → GM → Prop} : ∀ (k b : Nat) (s : Int × RS) (M : Mem), b + k = (pn (sF S)).toNat → TB s.2 → RM S M →
    (∀ M', RM S M' → TA i10_pairs 77 [some (vr 0), some (vi h), some (vi p), none, none, some (vi (inP S h p a k b s).1), some (vi (tvM (inP S h p a k b s).2)), some (vi ((a : Int) + 1)), none, none] [] (LM q, M') Post) →
    TA i10_pairs 92 [some (vr 0), some (vi h), some (vi p), none, none, some (vi s.1), some (vi (tvM s.2)), some (vi (a : Int)), some (vi (b : Int)), none] [] (LM q, M) Post
  | 0, b, s, M, hk, hs, hM, hN => by
    have hp := hF.2.2.1
    refine W10_pairs_92 ⟨fun z => ?_, fun _ => hN M hM⟩
    rw [hM.1.2.2.1, wlt (by omega) (by omega) (by omega) (by omega)] at z; omega
  | k + 1, b, s, M, hk, hs, hM, hN => by
    have hp := hF.2.2.1
    have en : ((b + 1 : Nat) : Int) = (b : Int) + 1 := by omega
    have t1 : TB (tA S h p b) := TB_race hF (hln hF) (show b < 6 by omega) hb
    refine W10_pairs_92 ⟨fun _ => T_plainRun hF hb (by omega) hM.1 (fun M' hL => W10_pairs_131 (W10_pairs_147 ?_)), fun z => ?_⟩
    · have ih := L_fiM hF hb (q := q) ha k (b + 1) _ M' (by omega) (TB_bst (v := 10 * (a : Int) + (b : Int)) hs t1) (hM.fr hL.1.q) hN
      rw [en, ← bst_1, ← bst_2] at ih
      simp only [← tlM t1 hs] at ih
      exact ih
    · rw [hM.1.2.2.1, wr_id (by omega) (by omega), wr_id (by omega) (by omega)] at z; omega
theorem L_foM {S : ST} (hF : FOK (sF S)) {h p : Int} (hb : BOK h p) {q : Option Nat} : ∀ (k a : Nat) (s : Int × RS) (M : Mem), a + k = (pn (sF S)).toNat → TB s.2 → RM S M →
    TA i10_pairs 77 [some (vr 0), some (vi h), some (vi p), none, none, some (vi s.1), some (vi (tvM s.2)), some (vi (a : Int)), none, none] [] (LM q, M) (MP S (ouP S h p k a s).1)
  | 0, a, s, M, hk, hs, hM => by
    have hp := hF.2.2.1
    refine W10_pairs_77 ⟨fun z => ?_, fun _ => ⟨q, M, rfl, rfl, hM⟩⟩
    rw [hM.1.2.2.1, wlt (by omega) (by omega) (by omega) (by omega)] at z; omega
  | k + 1, a, s, M, hk, hs, hM => by
    have hp := hF.2.2.1
    have en : ((a + 1 : Nat) : Int) = (a : Int) + 1 := by omega
    refine W10_pairs_77 ⟨fun _ => ?_, fun z => ?_⟩
    · rw [← en]
      refine L_fiM hF hb (by omega) k (a + 1) s M (by omega) hs hM (fun M' hM' => ?_)
      rw [← en]
      exact L_foM hF hb k (a + 1) _ M' (by omega) (TB_inP hF hb k (a + 1) s (by omega) hs) hM'
    · rw [hM.1.2.2.1, wr_id (by omega) (by omega), wr_id (by omega) (by omega)] at z; omega
theorem SIM_pairs {h p w : Int} (ih : IR h) (ip : IR p) (iw : IR w) : SIM i9_pairs 5 i10_pairs 10 [vi h, vi p, vi w] := by
  intro S hS
  have hF := hS.1
  have hp := hF.2.2.1
  have i2 : IR 2 := by unfold IR; omega
  have cb := sBy_le h p
  have ib : IR (sBy h p) := by unfold IR; omega
  obtain ⟨V, hV⟩ : ∃ V : Int, V = sBit (sBy h p) w 2 := ⟨_, rfl⟩
  have hVb : -6 ≤ V ∧ V ≤ 0 := by rw [hV]; unfold sBit; (repeat' split) <;> omega
  obtain ⟨n, hn⟩ : ∃ n : Nat, pn (sF S) = (n : Int) := ⟨(pn (sF S)).toNat, by omega⟩
  obtain ⟨W, hW⟩ : ∃ W : Int, W = if V = 0 then (if n < 2 ∨ n % 2 ≠ 0 then -3 else 0) else V := ⟨_, rfl⟩
  have hWb : -6 ≤ W ∧ W ≤ 0 := by rw [hW]; (repeat' split) <;> omega
  have k1 : f9_orOther (f9_firstOf 0 (f9_low h p) (f9_high h p)) w 2 = V := by rw [by0_eq ih ip, orOther_eq ib iw i2, hV]
  have k2 : f10_wrongBit (f10_wrongBy h p) w 2 = V := by rw [wrongBy_eq ih ip, wrongBit_eq ib iw i2, hV]
  have eC : ∀ M Post, RC S M → TA i9_pairs 53 [some (vr 0), some (vi h), some (vi p), some (vi w), some (vi W)] [] (LC, M) Post → TA i9_pairs 0 [some (vr 0), some (vi h), some (vi p), some (vi w), none] [] (LC, M) Post := by
    intro M Post hM hT
    refine W9_pairs_0 ?_
    rw [k1, hM.1.2.2.1, hn, wr_id (x := V) (by omega) (by omega)]
    refine ⟨fun z => ⟨fun y => W9_pairs_49 ?_, fun y => ⟨by decide, fun x => ?_, fun x => W9_pairs_49 ?_⟩⟩, fun z => ?_⟩
    · rw [wlt (by omega) (by omega) (by omega) (by omega)] at y
      rw [hW, if_pos z, if_pos (Or.inl (by omega))] at hT; exact hT
    · rw [wlt (by omega) (by omega) (by omega) (by omega)] at y
      rw [rmd_nat (by omega) (by omega) (by omega) (by omega), wr_id (by omega) (by omega)] at x
      rw [hW, if_pos z, if_neg (by omega)] at hT
      rw [z]; exact hT
    · rw [wlt (by omega) (by omega) (by omega) (by omega)] at y
      rw [rmd_nat (by omega) (by omega) (by omega) (by omega), wr_id (by omega) (by omega)] at x
      rw [hW, if_pos z, if_pos (Or.inr (by omega))] at hT; exact hT
    · rw [hW, if_neg z] at hT; exact hT
  have eM : ∀ q M Post, RM S M → TA i10_pairs 47 [some (vr 0), some (vi h), some (vi p), some (vi w), none, none, none, none, none, none] [vi W] (LM q, up M 0 8 0) Post → TA i10_pairs 0 [some (vr 0), some (vi h), some (vi p), some (vi w), none, none, none, none, none, none] [] (LM q, M) Post := by
    intro q M Post hM hT
    refine W10_pairs_0 ?_
    rw [k2, hM.1.2.2.1, hn, wr_id (x := V) (by omega) (by omega), rmd_nat (by omega) (by omega) (by omega) (by omega), wr1, wr_id (x := (n : Int) % 2) (by omega) (by omega)]
    refine ⟨fun z => ⟨fun y => ?_, fun y => ⟨by decide, ?_⟩⟩, fun z => ?_⟩
    · rw [wlt (by omega) (by omega) (by omega) (by omega)] at y
      rw [hW, if_pos z, if_pos (Or.inl (by omega))] at hT; exact hT
    · rw [wlt (by omega) (by omega) (by omega) (by omega)] at y
      by_cases x : (n : Int) % 2 = 1
      · rw [if_pos x]
        rw [hW, if_pos z, if_pos (Or.inr (by omega))] at hT; exact hT
      · rw [if_neg x]
        rw [hW, if_pos z, if_neg (by omega)] at hT
        rw [z]; exact hT
    · rw [hW, if_neg z] at hT; exact hT
  by_cases e : W = 0
  · have hV0 : V = 0 := by
      apply Classical.byContradiction
      intro c; rw [hW, if_neg c] at e; exact c e
    have hnn : ¬ (n < 2 ∨ n % 2 ≠ 0) := by
      intro c; rw [hW, if_pos hV0, if_pos c] at e; omega
    have hb0 : sBy h p = 0 ∧ 0 ≤ w ∧ w ≤ 2 := by
      rw [hV] at hV0; unfold sBit at hV0
      (repeat' split at hV0) <;> omega
    have hb := sBy_ok hb0.1
    obtain ⟨g, hg⟩ : ∃ g : Nat, n = 2 * g := ⟨n / 2, by omega⟩
    have hg2 : 1 ≤ g ∧ g < 4 := by omega
    have hn2 : pn (sF S) = ((2 * g : Nat) : Int) := by rw [hn, hg]
    have ww : wr w = w := iw.w
    by_cases y : w = 2
    · refine ⟨(ouP S h p (pn (sF S)).toNat 0 (-9, none)).1, S, hS, fun M hM => eC M _ hM (W9_pairs_53 ⟨fun _ => T_all hF hb hM (fun M' hM' hA => ⟨fun _ => W9_firstPair_0 ?_, fun z => absurd (by rw [y]) z⟩), fun z => ?_⟩), fun q M hM => eM q M _ hM (W10_pairs_47 ⟨fun z => ?_, fun _ => ⟨fun _ => ?_, fun z => absurd (by rw [y]) z⟩⟩)⟩
      · exact L_foC hF hb hM' hA (pn (sF S)).toNat 0 (-9, none) (by omega) trivial ⟨M', rfl, rfl, hM'⟩
      · rw [e] at z; exact absurd wr0 z
      · rw [e, wr0] at z; omega
      · exact L_foM hF hb (pn (sF S)).toNat 0 (-9, none) _ (by omega) trivial hM.thr
    · have np : NP (dfa g) ((-9 : Int), (9999999 : Int)) := Or.inl ⟨rfl, rfl⟩
      have wn : ¬ wr w = wr 2 := by rw [ww, wr_id (by omega) (by omega)]; exact y
      refine ⟨pEnd g w (pI (cG S h p g) (dfa g) 0 (-9, 9999999)), S, hS, fun M hM => eC M _ hM (W9_pairs_53 ⟨fun _ => T_all hF hb hM (fun M' hM' hA => ⟨fun z => absurd z wn, fun _ => W9_pairs_94 (W9_bestPairing_0 (W9_bestPairing_38 ?_))⟩), fun z => ?_⟩), fun q M hM => eM q M _ hM (W10_pairs_47 ⟨fun z => ?_, fun _ => ⟨fun z => absurd z wn, fun _ => W10_pairs_194 ?_⟩⟩)⟩
      · have e1 : (if wr (M' 1 2) = wr 2 then (1 : Int) else if wr (M' 1 2) = wr 4 then 3 else 15) = ((dfa g : Nat) : Int) := by
          rw [hM'.1.2.2.1, hn2]
          have : g = 1 ∨ g = 2 ∨ g = 3 := by omega
          rcases this with rfl | rfl | rfl <;> decide
        have e2 : wr (if wr w = wr 1 then (1 : Int) else 0) = w := by
          rw [ww, wr1]
          have : w = 0 ∨ w = 1 := by omega
          rcases this with rfl | rfl <;> decide
        rw [e1]
        refine L_bpC hF hb hM' hA hg2.2 hn2 (dfa g) 0 (-9, 9999999) (by omega) np ?_
        rw [e2]; exact ⟨M', rfl, rfl, hM'⟩
      · rw [e] at z; exact absurd wr0 z
      · rw [e, wr0] at z; omega
      · have hM2 := hM.thr
        have e1 : (if wr (up M 0 8 0 0 4) = wr 6 then (1000 : Int) else if wr (up M 0 8 0 0 4) = wr 4 then 100 else 10) = ((10 ^ g : Nat) : Int) := by
          rw [hM2.1.2.2.1, hn2]
          have : g = 1 ∨ g = 2 ∨ g = 3 := by omega
          rcases this with rfl | rfl | rfl <;> decide
        rw [e1]
        exact L_pgM hF hb hg2 hn2 (x3 := w) (10 ^ g) 0 0 (-9, 9999999) _ (by omega) (by omega) (fun j hj => absurd hj (Nat.not_lt_zero _)) (fun j _ _ => Nat.zero_le _) np (by rw [ww]; rfl) hM2
  · refine ⟨W, sRef S W, hS.ref _, fun M hM => eC M _ hM (W9_pairs_53 ⟨fun z => ?_, fun _ => C_ref hM (by omega)⟩), fun q M hM => eM q M _ hM (W10_pairs_47 ⟨fun _ => ?_, fun z => ?_⟩)⟩
    · rw [wr_id (by omega) (by omega)] at z; exact absurd z e
    · rw [wr_id (x := -_) (by omega) (by omega)]; exact ⟨by omega, M_ref hM.thr (by omega)⟩
    · rw [wr_id (by omega) (by omega)] at z; omega

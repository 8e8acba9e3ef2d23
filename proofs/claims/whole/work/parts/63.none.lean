/-! how few changes leave none: the least of all sets, in two walks -/
def cn1 (v : Int32) : Nat := v.toNatClampNeg
theorem bnd_n (v : Int32) : ∃ n, n ≤ 99 ∧ bnd v = nI n := by
  rw [← bnd_w]
  by_cases a : (0 : Int32) ≤ v
  · rw [if_pos a]
    obtain ⟨n, hn, rfl⟩ := nI_of (x := v) (fun q => (fa_of_lt q).2.1 a)
    by_cases b : nI n ≤ (99 : Int32)
    · rw [if_pos b]
      rw [show (99 : Int32) = nI 99 from rfl, nI_leI hn (by decide)] at b
      exact ⟨n, b, rfl⟩
    · rw [if_neg b]
      exact ⟨99, Nat.le_refl _, rfl⟩
  · rw [if_neg a]
    exact ⟨0, Nat.zero_le _, rfl⟩
def cnn (T : Nat → Nat → (Nat → Int32) → Int32) (g f t r p : Nat) : Nat := (cst T g f t r p).toNatClampNeg
theorem cnn_e (T : Nat → Nat → (Nat → Int32) → Int32) (g f t r p : Nat) : cst T g f t r p = nI (cnn T g f t r p) ∧ cnn T g f t r p ≤ 99 := by
  obtain ⟨n, hn, e⟩ := bnd_n (T r 1 (nm6 (nI (lo p)) (nI (hi p)) 0 (if lkv f t p = 1 then 1 else 0) (if lkv f t p = 2 then 0 else 1) (nI g)))
  have e1 : cst T g f t r p = nI n := e
  unfold cnn
  rw [e1, nI_clamp (by omega)]
  exact ⟨rfl, hn⟩
/-- what a set of pairs costs -/
def csum (w : Nat → Nat) (S : Nat) : Nat := fb_sm (fun p => if S.testBit p = true then w p else 0) 21
def szz (S : Nat) : Nat := fb_ct (fun p => S.testBit p) 21
theorem csum_le {w : Nat → Nat} (hw : ∀ p, w p ≤ 99) (S : Nat) : csum w S ≤ 2079 := fb_sm_bound (c := 99) (n := 21) (fun k _ => by split; exact hw k; exact Nat.zero_le _)
theorem bit_set {C p i : Nat} : (C ||| 2 ^ p).testBit i = if i = p then true else C.testBit i := by
  rw [Nat.testBit_or, Nat.testBit_two_pow]
  by_cases e : i = p
  · rw [if_pos e, decide_eq_true e.symm, Bool.or_true]
  · rw [if_neg e, decide_eq_false (fun q => e q.symm), Bool.or_false]
theorem csum_put {w : Nat → Nat} {C p : Nat} (hp : p < 21) (nx : C.testBit p = false) : csum w (C ||| 2 ^ p) = csum w C + w p := by
  unfold csum
  have e := fb_sm_upd (fun q => if C.testBit q = true then w q else 0) (w p) (i := p) (n := 21) hp
  rw [nx, if_neg (by decide), Nat.add_zero] at e
  rw [← e]
  refine fb_sm_cong (fun k _ => ?_)
  rw [bit_set]
  by_cases u : k = p
  · rw [if_pos u, if_pos u, if_pos rfl, u]
  · rw [if_neg u, if_neg u]
theorem szz_put {C p : Nat} (hp : p < 21) (nx : C.testBit p = false) : szz (C ||| 2 ^ p) = szz C + 1 := by
  unfold szz
  have e := fb_ct_upd (fun q => C.testBit q) true (i := p) (n := 21) hp
  rw [nx, if_neg (by decide), if_pos rfl, Nat.add_zero] at e
  rw [← e]
  exact fb_ct_cong (fun k _ => by rw [bit_set])
theorem sub_eq {C S : Nat} (hC : C < 2 ^ 21) (hS : S < 2 ^ 21) (sub : ∀ p, C.testBit p = true → S.testBit p = true) (e : szz S = szz C) : S = C := by
  apply Nat.eq_of_testBit_eq
  intro p
  cases c : C.testBit p with
  | true => exact sub p c
  | false =>
    cases s : S.testBit p with
    | false => rfl
    | true =>
      have hp := lt_bit hS s
      have := szz_put hp c
      have le : szz (C ||| 2 ^ p) ≤ szz S := fb_ct_sub (fun k _ hk => by
        rw [bit_set] at hk
        by_cases u : k = p
        · rw [u]
          exact s
        · rw [if_neg u] at hk
          exact sub k hk)
      omega
/-- the cheaper, the lesser -/
def leB (w : Nat → Nat) (A B : Nat) : Prop := csum w A < csum w B ∨ (csum w A = csum w B ∧ A ≤ B)
theorem leB_t {w : Nat → Nat} {A B C : Nat} (h : leB w A B) (h2 : leB w B C) : leB w A C := by
  unfold leB at *
  omega
theorem leB_n {w : Nat → Nat} {A B : Nat} (h : ¬ leB w A B) : leB w B A := by
  unfold leB at *
  omega
theorem leB_a {w : Nat → Nat} {A B : Nat} (h : leB w A B) (h2 : leB w B A) : A = B := by
  unfold leB at *
  omega
theorem leB_r (w : Nat → Nat) (A : Nat) : leB w A A := Or.inr ⟨rfl, Nat.le_refl _⟩
def Bst (w : Nat → Nat) (P : Nat → Prop) (b : Option Nat) : Prop := (b = none ∧ ∀ S, ¬ P S) ∨ ∃ B, b = some B ∧ P B ∧ ∀ S, P S → leB w B S
theorem Bst_u {w : Nat → Nat} {P : Nat → Prop} {b b' : Option Nat} (h : Bst w P b) (h2 : Bst w P b') : b = b' := by
  rcases h with ⟨e, n⟩ | ⟨B, e, p, m⟩
  · rcases h2 with ⟨e', n'⟩ | ⟨B', e', p', m'⟩
    · rw [e, e']
    · exact absurd p' (n B')
  · rcases h2 with ⟨e', n'⟩ | ⟨B', e', p', m'⟩
    · exact absurd p (n' B)
    · rw [e, e', leB_a (m _ p') (m' _ p)]
theorem Bst_c {w : Nat → Nat} {P Q : Nat → Prop} {b : Option Nat} (h : Bst w P b) (e : ∀ S, P S ↔ Q S) : Bst w Q b := by
  rcases h with ⟨a, n⟩ | ⟨B, a, p, m⟩
  · exact Or.inl ⟨a, fun S q => n S ((e S).mpr q)⟩
  · exact Or.inr ⟨B, a, (e B).mp p, fun S q => m S ((e S).mpr q)⟩
theorem Bst_new {w : Nat → Nat} {P : Nat → Prop} {C : Nat} (h : Bst w P none) : Bst w (fun S => P S ∨ S = C) (some C) := by
  rcases h with ⟨-, n⟩ | ⟨B, a, -, -⟩
  · exact Or.inr ⟨C, rfl, Or.inr rfl, fun S q => by
      rcases q with q | q
      · exact absurd q (n S)
      · rw [q]
        exact leB_r w C⟩
  · cases a
theorem Bst_y {w : Nat → Nat} {P : Nat → Prop} {B C : Nat} (h : Bst w P (some B)) (l : leB w C B) : Bst w (fun S => P S ∨ S = C) (some C) := by
  rcases h with ⟨a, -⟩ | ⟨B', a, p, m⟩
  · cases a
  · cases a
    exact Or.inr ⟨C, rfl, Or.inr rfl, fun S q => by
      rcases q with q | q
      · exact leB_t l (m S q)
      · rw [q]
        exact leB_r w C⟩
theorem Bst_n {w : Nat → Nat} {P : Nat → Prop} {B C : Nat} (h : Bst w P (some B)) (l : leB w B C) : Bst w (fun S => P S ∨ S = C) (some B) := by
  rcases h with ⟨a, -⟩ | ⟨B', a, p, m⟩
  · cases a
  · cases a
    exact Or.inr ⟨B, rfl, Or.inl p, fun S q => by
      rcases q with q | q
      · exact m S q
      · rw [q]
        exact l⟩
/-- sets of pairs that are looked at, by whose change no three is left -/
def Gd (c d : Nat → Int32) (g f t S : Nat) : Prop := (∀ p, S.testBit p = true → (f ||| t).testBit p = true) ∧ hmt c d g (f ^^^ S) (t ^^^ S) = 0
def Sub (f t C : Nat) : Prop := ∀ p, C.testBit p = true → (f ||| t).testBit p = true
theorem Sub_lt {g f t C : Nat} (hf : f < 2 ^ c2 g) (ht : t < 2 ^ c2 g) (h : Sub f t C) : C < 2 ^ c2 g := bit_lt (fun i hi' => lt_bit (Nat.or_lt_two_pow hf ht) (h i hi'))
theorem Sub_put {f t C p : Nat} (h : Sub f t C) (hp : (f ||| t).testBit p = true) : Sub f t (C ||| 2 ^ p) := by
  intro i hi'
  rw [bit_set] at hi'
  by_cases u : i = p
  · rw [u]
    exact hp
  · rw [if_neg u] at hi'
    exact h i hi'
theorem xor_put {f C p : Nat} (nx : C.testBit p = false) : f ^^^ (C ||| 2 ^ p) = f ^^^ C ^^^ 2 ^ p := by
  apply Nat.eq_of_testBit_eq
  intro i
  rw [Nat.testBit_xor, bit_set, Nat.testBit_xor, Nat.testBit_xor, Nat.testBit_two_pow]
  by_cases u : i = p
  · rw [if_pos u, decide_eq_true u.symm, u, nx]
    simp
  · rw [if_neg u, decide_eq_false (fun q => u q.symm), Bool.xor_false]
theorem chg_or {f t C : Nat} (dj : f &&& t = 0) (h : Sub f t C) : (f ^^^ C) &&& (t ^^^ C) = 0 ∧ (f ^^^ C) ||| (t ^^^ C) = f ||| t := by
  refine ⟨and_nil.mpr ?_, ?_⟩
  · rintro i ⟨a, b⟩
    have h1 := and_nil.mp dj i
    have h2 := h i
    rw [Nat.testBit_xor] at a b
    rw [Nat.testBit_or] at h2
    revert a b h1 h2
    cases f.testBit i <;> cases t.testBit i <;> cases C.testBit i <;> simp
  · apply Nat.eq_of_testBit_eq
    intro i
    have h1 := and_nil.mp dj i
    have h2 := h i
    rw [Nat.testBit_or] at h2
    rw [Nat.testBit_or, Nat.testBit_or, Nat.testBit_xor, Nat.testBit_xor]
    revert h1 h2
    cases f.testBit i <;> cases t.testBit i <;> cases C.testBit i <;> simp
/-- a three that stands goes only by one of its pairs -/
theorem three_hit {c d : Nat → Int32} {g f t C S i : Nat} (g7 : g ≤ 7) (hi' : i < c3 g) (st : sdn c d (st3 (tcn i)) (f ^^^ C) (t ^^^ C) = true) (G : Gd c d g f t S) (sub : ∀ p, C.testBit p = true → S.testBit p = true) : ∃ p, (wi (st3 (tcn i))).testBit p = true ∧ S.testBit p = true ∧ C.testBit p = false := by
  apply Classical.byContradiction
  intro n
  have same : ∀ p, (wi (st3 (tcn i))).testBit p = true → S.testBit p = C.testBit p := fun p hp => by
    cases s : S.testBit p with
    | true =>
      cases e : C.testBit p with
      | true => rfl
      | false => exact absurd ⟨p, hp, s, e⟩ n
    | false =>
      cases e : C.testBit p with
      | true =>
        rw [sub p e] at s
        cases s
      | false => rfl
  have q : ∀ x : Nat, (x ^^^ S) &&& wi (st3 (tcn i)) = (x ^^^ C) &&& wi (st3 (tcn i)) := by
    intro x
    apply Nat.eq_of_testBit_eq
    intro p
    rw [Nat.testBit_and, Nat.testBit_and, Nat.testBit_xor, Nat.testBit_xor]
    cases e : (wi (st3 (tcn i))).testBit p with
    | true => rw [same p e]
    | false => rw [Bool.and_false, Bool.and_false]
  have z : hmy c d (c3 g) (f ^^^ S) (t ^^^ S) = 0 := by
    rw [hmy_t g7]
    exact G.2
  have := fb_ct_zero.mp z i hi'
  unfold sdn at this st
  rw [q, q, st] at this
  cases this
theorem stands_in {c d : Nat → Int32} {x F U p : Nat} (st : sdn c d x F U = true) (hp : (wi x).testBit p = true) : (F ||| U).testBit p = true := by
  unfold sdn at st
  rw [Bool.or_eq_true, Bool.and_eq_true, Bool.and_eq_true, beq_iff_eq, beq_iff_eq] at st
  rw [Nat.testBit_or]
  rcases st with ⟨a, -⟩ | ⟨a, -⟩
  · rw [and_full.mp a p hp]
    rfl
  · rw [and_full.mp a p hp, Bool.or_true]
/-- what the class holds of its best -/
def CB (w : Nat → Nat) (b : Option Nat) (h : xH) : Prop := match b with
  | none => hI h 14 3 = 0
  | some B => hI h 14 3 = 1 ∧ hI h 14 4 = nI B ∧ hI h 14 5 = nI (csum w B)
def dCh (p k : Nat) : Bool := !(decide (p = 14) && (decide (k = 3) || (decide (k = 4) || decide (k = 5))))
def ChS (w : Nat → Nat) (g : Nat) (c d : Nat → Int32) (b : Option Nat) (h : xH) : Prop := Shp h ∧ 51 ≤ hN h ∧ Jseat h ∧ hI h 11 3 = nI (c3 g) ∧ hI h 12 = c ∧ hI h 13 = d ∧ (∀ p, p < 21 → hI h 15 p = nI (w p)) ∧ CB w b h
theorem ChS_fr {w : Nat → Nat} {g : Nat} {c d : Nat → Int32} {b b' : Option Nat} {h h' : xH} (H : ChS w g c d b h) (s : Shp h') (x : Fr dCh h h') (cb : CB w b' h') : ChS w g c d b' h' := by
  obtain ⟨a1, a2, a3, a4, a5, a6, a7, a8⟩ := H
  exact ⟨s, Nat.le_trans a2 x.1, J_seat a2 x (fun p k h1 h2 => by simp [dCh]; omega) a3, (x.v a2 3 (by decide) rfl).trans a4, (funext fun k => x.v a2 k (by decide) rfl).trans a5, (funext fun k => x.v a2 k (by decide) rfl).trans a6, fun p hp => (x.v a2 p (by decide) rfl).trans (a7 p hp), cb⟩
section P63
variable {h : xH}
theorem keepBest_e {w : Nat → Nat} {g C : Nat} {c d : Nat → Int32} {b : Option Nat} {P : Nat → Prop} (hw : ∀ p, w p ≤ 99) (H : ChS w g c d b h) (B : Bst w P b) (bl : ∀ B, b = some B → B < 2 ^ 21) (hC : C < 2 ^ 21) : ∃ b' h', f_Ch_keepBest 14 (nI C) h = some ((), h') ∧ ChS w g c d b' h' ∧ Fr dCh h h' ∧ Bst w (fun S => P S ∨ S = C) b' ∧ ∀ B, b' = some B → B < 2 ^ 21 := by
  have s := H.1
  have rows := H.2.2.2.2.2.2.1
  have L : ∀ K : Int32 → Int32 → xH → Option (Unit × xH), f_Ch_keepBest_L4 14 (nI C) fu (0 : Int32) (0 : Int32) h K = K (nI (csum w C)) (nI 21) h := by
    intro K
    refine lpf (fun n p (v : Int32) => f_Ch_keepBest_L4 14 (nI C) n v p h K) (fun o => o = K (nI (csum w C)) (nI 21) h) (fun p v => v = nI (fb_sm (fun p => if C.testBit p = true then w p else 0) p)) 21 (i := 0) (Nat.zero_le _) (by omega) rfl ?_ ?_
    · intro n p v hp e
      subst e
      refine Or.inr ⟨nI (fb_sm (fun p => if C.testBit p = true then w p else 0) (p + 1)), ?_, rfl⟩
      rw [fb_sm_succ]
      generalize fb_sm (fun p => if C.testBit p = true then w p else 0) p = X
      show f_Ch_keepBest_L4 14 (nI C) (n + 1) (nI X) (nI p) h K = _
      rw [f_Ch_keepBest_L4, if_neg (show ¬ (21 : Int32) ≤ nI p from nI_ge (b := 21) hp (by decide)), tb (show C < 2 ^ 31 by omega) (show p < 31 by omega)]
      simp only [jn]
      cases C.testBit p
      · rw [if_neg (show ¬ b2i false = (1 : Int32) by decide), nI_1]
        rfl
      · rw [if_pos (show b2i true = (1 : Int32) from rfl), gd_t (by simp only [shp s]), gd_t (by simp only [shp s]), gd_t (by simp only [shp s]; exact nI_in hp (by decide)), show hR h 14 2 = 15 by simp only [shp s], nI_clamp (show p < 2 ^ 31 by omega), rows p hp, nI_add, nI_1]
        rfl
    · intro n v e
      subst e
      rw [f_Ch_keepBest_L4, if_pos (show (21 : Int32) ≤ nI 21 by decide)]
      rfl
  have cl := csum_le hw C
  have UP : ChS w g c d (some C) (hIu (hIu (hIu h 14 3 1) 14 4 (nI C)) 14 5 (nI (csum w C))) := ChS_fr H s ((((Fr.refl h).I rfl).I rfl).I rfl) ⟨by rw [iI, if_neg (by omega), iI, if_neg (by omega), iI, if_pos ⟨rfl, rfl⟩], by rw [iI, if_neg (by omega), iI, if_pos ⟨rfl, rfl⟩], by rw [iI, if_pos ⟨rfl, rfl⟩]⟩
  have UF : Fr dCh h (hIu (hIu (hIu h 14 3 1) 14 4 (nI C)) 14 5 (nI (csum w C))) := (((Fr.refl h).I rfl).I rfl).I rfl
  unfold f_Ch_keepBest
  rw [L]
  cases b with
  | none =>
    have h3 : hI h 14 3 = 0 := H.2.2.2.2.2.2.2
    refine ⟨some C, _, ?_, UP, UF, Bst_new B, fun B e => by cases e; exact hC⟩
    rw [gd_t (by simp only [shp s])]
    simp only [jn]
    rw [if_pos h3]
  | some B0 =>
    obtain ⟨h3, h4, h5⟩ : hI h 14 3 = 1 ∧ hI h 14 4 = nI B0 ∧ hI h 14 5 = nI (csum w B0) := H.2.2.2.2.2.2.2
    have b0 := bl B0 rfl
    have cl0 := csum_le hw B0
    have n3 : ¬ hI h 14 3 = 0 := by rw [h3]; decide
    by_cases l : leB w C B0
    · refine ⟨some C, _, ?_, UP, UF, Bst_y B l, fun B e => by cases e; exact hC⟩
      rw [gd_t (by simp only [shp s])]
      simp only [jn]
      rw [if_neg n3, h5, if_neg (show ¬ nI (csum w B0) < nI (csum w C) from nI_nlt (by unfold leB at l; omega) (by omega))]
      by_cases e : csum w C = csum w B0
      · rw [if_pos (by rw [e]), h4, if_pos (nI_le (by unfold leB at l; omega) (by omega))]
      · rw [if_neg (by rw [nI_eq (by omega) (by omega)]; exact e)]
    · refine ⟨some B0, h, ?_, H, Fr.refl h, Bst_n B (leB_n l), bl⟩
      rw [gd_t (by simp only [shp s])]
      simp only [jn]
      rw [if_neg n3, h5]
      by_cases e : csum w B0 < csum w C
      · rw [if_pos (nI_lt e (by omega))]
      · rw [if_neg (nI_nlt (by omega) (by omega)), if_pos (show nI (csum w C) = nI (csum w B0) by congr 1; unfold leB at l; omega), h4, if_neg (show ¬ nI C ≤ nI B0 from nI_ge (by unfold leB at l; omega) (by omega))]
/-- the class's walk: every set of that size that leaves none is met -/
theorem tryChanges_e {w : Nat → Nat} {g f t k : Nat} {c d : Nat → Int32} (hw : ∀ p, w p ≤ 99) (g7 : g ≤ 7) (hf : f < 2 ^ c2 g) (ht : t < 2 ^ c2 g) (dj : f &&& t = 0) (NG : ∀ S, Gd c d g f t S → k ≤ szz S) : ∀ (l n C : Nat) (b : Option Nat) (P : Nat → Prop) (h : xH), l < n → l ≤ 3 → szz C + l = k → Sub f t C → ChS w g c d b h → Bst w P b → (∀ B, b = some B → B < 2 ^ 21) → ∃ b' h', G_Ch_tryChanges n 14 (nI (f ^^^ C)) (nI (t ^^^ C)) (nI C) (nI l) h = some ((), h') ∧ ChS w g c d b' h' ∧ Fr dCh h h' ∧ Bst w (fun S => P S ∨ (Gd c d g f t S ∧ (∀ p, C.testBit p = true → S.testBit p = true) ∧ szz S = k)) b' ∧ ∀ B, b' = some B → B < 2 ^ 21 := by
  have hc := c2_le g g7
  have p21 : 2 ^ c2 g ≤ 2 ^ 21 := Nat.pow_le_pow_right (by decide) hc
  intro l
  induction l with
  | zero =>
    intro n C b P h hn l3 hk sub H B bl
    obtain ⟨n, rfl⟩ : ∃ q, n = q + 1 := ⟨n - 1, by omega⟩
    have CL := Sub_lt hf ht sub
    have F31 : f ^^^ C < 2 ^ 31 := Nat.lt_of_lt_of_le (Nat.xor_lt_two_pow hf CL) (Nat.pow_le_pow_right (by decide) (by omega))
    have U31 : t ^^^ C < 2 ^ 31 := Nat.lt_of_lt_of_le (Nat.xor_lt_two_pow ht CL) (Nat.pow_le_pow_right (by decide) (by omega))
    have AT := anyThree_e H.1 H.2.2.1 (c3_le g g7) H.2.2.2.1 F31 U31
    rw [H.2.2.2.2.1, H.2.2.2.2.2.1] at AT
    have a0 := anyv_0 (c := c) (d := d) (f := f ^^^ C) (t := t ^^^ C) (c3_le g g7)
    rw [hmy_t g7] at a0
    have alt : anyv c d (c3 g) (f ^^^ C) (t ^^^ C) < 2 ^ 31 := by
      unfold anyv
      split
      · rename_i q
        have := st_lt _ (Nat.lt_of_lt_of_le q (c3_le g g7))
        omega
      · decide
    show ∃ b' h', fb_Ch_tryChanges (G_Ch_tryChanges n) 14 (nI (f ^^^ C)) (nI (t ^^^ C)) (nI C) (nI 0) h = some ((), h') ∧ _
    unfold fb_Ch_tryChanges
    rw [gd_t (by simp only [shp H.1]), gd_t (by simp only [shp H.1]), show hR h 14 1 = 11 by simp only [shp H.1], AT, bind_s]
    by_cases z : anyv c d (c3 g) (f ^^^ C) (t ^^^ C) = 0
    · obtain ⟨b', h', k1', k2', k3', k4', k5'⟩ := keepBest_e hw H B bl (show C < 2 ^ 21 by omega)
      refine ⟨b', h', ?_, k2', k3', Bst_c k4' (fun S => ?_), k5'⟩
      · rw [if_pos (by rw [z]; rfl), gd_t (by simp only [shp H.1]), k1', bind_s]
      · constructor
        · rintro (q | q)
          · exact Or.inl q
          · rw [q]
            exact Or.inr ⟨⟨sub, a0.mp z⟩, fun p hp => hp, by omega⟩
        · rintro (q | ⟨q1, q2, q3⟩)
          · exact Or.inl q
          · exact Or.inr (sub_eq (show C < 2 ^ 21 by omega) (Nat.lt_of_lt_of_le (Sub_lt hf ht q1.1) p21) q2 (by omega))
    · refine ⟨b, h, ?_, H, Fr.refl h, Bst_c B (fun S => ?_), bl⟩
      · rw [if_neg (nI_ne0 (by omega) alt), if_neg (by decide)]
      · constructor
        · exact Or.inl
        · rintro (q | ⟨q1, q2, q3⟩)
          · exact q
          · exfalso
            have e := sub_eq (show C < 2 ^ 21 by omega) (Nat.lt_of_lt_of_le (Sub_lt hf ht q1.1) p21) q2 (by omega)
            rw [e] at q1
            exact z (a0.mpr q1.2)
  | succ l ih =>
    intro n C b P h hn l3 hk sub H B bl
    obtain ⟨n, rfl⟩ : ∃ q, n = q + 1 := ⟨n - 1, by omega⟩
    have CL := Sub_lt hf ht sub
    have F31 : f ^^^ C < 2 ^ 31 := Nat.lt_of_lt_of_le (Nat.xor_lt_two_pow hf CL) (Nat.pow_le_pow_right (by decide) (by omega))
    have U31 : t ^^^ C < 2 ^ 31 := Nat.lt_of_lt_of_le (Nat.xor_lt_two_pow ht CL) (Nat.pow_le_pow_right (by decide) (by omega))
    have AT := anyThree_e H.1 H.2.2.1 (c3_le g g7) H.2.2.2.1 F31 U31
    rw [H.2.2.2.2.1, H.2.2.2.2.2.1] at AT
    have a0 := anyv_0 (c := c) (d := d) (f := f ^^^ C) (t := t ^^^ C) (c3_le g g7)
    rw [hmy_t g7] at a0
    have nz : ¬ anyv c d (c3 g) (f ^^^ C) (t ^^^ C) = 0 := fun z => by
      have := NG C ⟨sub, a0.mp z⟩
      omega
    obtain ⟨i, hi', ei, sti⟩ : ∃ i, i < c3 g ∧ anyv c d (c3 g) (f ^^^ C) (t ^^^ C) = st3 (tcn i) ∧ sdn c d (st3 (tcn i)) (f ^^^ C) (t ^^^ C) = true := by
      unfold anyv at nz ⊢
      by_cases q : fa_first (fun t_1 => sdn c d (st3 (tcn t_1)) (f ^^^ C) (t ^^^ C)) (c3 g) < c3 g
      · rw [if_pos q]
        exact ⟨_, q, rfl, fa_first_yes (fun t_1 => sdn c d (st3 (tcn t_1)) (f ^^^ C) (t ^^^ C)) (c3 g) q⟩
      · rw [if_neg q] at nz
        exact absurd rfl nz
    have x128 := st_lt i (Nat.lt_of_lt_of_le hi' (c3_le g g7))
    have x0 : st3 (tcn i) ≠ 0 := by rw [← ei]; exact nz
    have wl := wi_lt _ x128
    have SW := Se_within_e H.1 H.2.2.1 x128
    have hit := fun S (G : Gd c d g f t S) sb => three_hit g7 hi' sti G sb
    have inn := fun p hp => stands_in (p := p) sti hp
    rw [ei] at AT
    generalize hx : wi (st3 (tcn i)) = wx at *
    generalize st3 (tcn i) = x at *
    have al : an wx C < 2 ^ 31 := Nat.lt_trans (an_lt wl) (by decide)
    have LOOP : ∃ b' h', f_Ch_tryChanges_L46 (G_Ch_tryChanges n) 14 (nI (f ^^^ C)) (nI (t ^^^ C)) (nI C) (nI (l + 1)) (nI x) (nI (an wx C)) fu (0 : Int32) h (fun v23 h24 => some ((), h24)) = some ((), h') ∧ ChS w g c d b' h' ∧ Fr dCh h h' ∧ Bst w (fun S => P S ∨ ∃ q, q < 21 ∧ (an wx C).testBit q = true ∧ (Gd c d g f t S ∧ (∀ p, (C ||| 2 ^ q).testBit p = true → S.testBit p = true) ∧ szz S = k)) b' ∧ ∀ B, b' = some B → B < 2 ^ 21 := by
      refine lpf (fun m p (v : Option Nat × xH) => f_Ch_tryChanges_L46 (G_Ch_tryChanges n) 14 (nI (f ^^^ C)) (nI (t ^^^ C)) (nI C) (nI (l + 1)) (nI x) (nI (an wx C)) m p v.2 (fun v23 h24 => some ((), h24))) (fun o => ∃ b' h', o = some ((), h') ∧ ChS w g c d b' h' ∧ Fr dCh h h' ∧ Bst w (fun S => P S ∨ ∃ q, q < 21 ∧ (an wx C).testBit q = true ∧ (Gd c d g f t S ∧ (∀ p, (C ||| 2 ^ q).testBit p = true → S.testBit p = true) ∧ szz S = k)) b' ∧ ∀ B, b' = some B → B < 2 ^ 21) (fun p v => ChS w g c d v.1 v.2 ∧ Fr dCh h v.2 ∧ Bst w (fun S => P S ∨ ∃ q, q < p ∧ (an wx C).testBit q = true ∧ (Gd c d g f t S ∧ (∀ p, (C ||| 2 ^ q).testBit p = true → S.testBit p = true) ∧ szz S = k)) v.1 ∧ ∀ B, v.1 = some B → B < 2 ^ 21) 21 (i := 0) (s := (b, h)) (Nat.zero_le _) (by omega) ⟨H, Fr.refl h, Bst_c B (fun S => ⟨Or.inl, fun q => q.elim id (fun ⟨q, q1, _⟩ => absurd q1 (by omega))⟩), bl⟩ ?_ ?_
      · rintro m p ⟨vb, v⟩ hp ⟨H1, X1, B1, bl1⟩
        have B1 : Bst w (fun S => P S ∨ ∃ q, q < p ∧ (an wx C).testBit q = true ∧ (Gd c d g f t S ∧ (∀ p, (C ||| 2 ^ q).testBit p = true → S.testBit p = true) ∧ szz S = k)) vb := B1
        have H1 : ChS w g c d vb v := H1
        right
        by_cases cp : (an wx C).testBit p = true
        · have cpp := cp
          rw [an_bit, Bool.and_eq_true] at cpp
          have ncp : C.testBit p = false := by simpa using cpp.2
          have seenp : (f ||| t).testBit p = true := by
            rw [← (chg_or dj sub).2]
            exact inn p cpp.1
          obtain ⟨b', h', r1, r2, r3, r4, r5⟩ := ih n (C ||| 2 ^ p) vb _ v (by omega) (by omega) (by rw [szz_put hp ncp]; omega) (Sub_put sub seenp) H1 B1 bl1
          refine ⟨(b', h'), ?_, r2, X1.trans r3, Bst_c r4 (fun S => ?_), r5⟩
          · show f_Ch_tryChanges_L46 (G_Ch_tryChanges n) 14 (nI (f ^^^ C)) (nI (t ^^^ C)) (nI C) (nI (l + 1)) (nI x) (nI (an wx C)) (m + 1) (nI p) v _ = _
            rw [xor_put ncp, xor_put ncp] at r1
            rw [f_Ch_tryChanges_L46, if_neg (show ¬ (21 : Int32) ≤ nI p from nI_ge (b := 21) hp (by decide)), ss p (by omega)]
            simp only [jn]
            rw [if_neg (fun q => by rw [fa_bit (by omega), cp] at q; cases q), fb_xorI, fb_xorI, fa_or, show nI (l + 1) - (1 : Int32) = nI l by rw [k1, li_sub (by omega), Nat.add_sub_cancel], r1, bind_s, nI_1]
          · constructor
            · rintro ((q | ⟨q, q1, q2⟩) | q)
              · exact Or.inl q
              · exact Or.inr ⟨q, by omega, q2⟩
              · exact Or.inr ⟨p, by omega, cp, q⟩
            · rintro (q | ⟨q, q1, q2, q3⟩)
              · exact Or.inl (Or.inl q)
              · rcases (by omega : q < p ∨ q = p) with u | u
                · exact Or.inl (Or.inr ⟨q, u, q2, q3⟩)
                · rw [u] at q3
                  exact Or.inr q3
        · refine ⟨(vb, v), ?_, H1, X1, Bst_c B1 (fun S => ?_), bl1⟩
          · show f_Ch_tryChanges_L46 (G_Ch_tryChanges n) 14 (nI (f ^^^ C)) (nI (t ^^^ C)) (nI C) (nI (l + 1)) (nI x) (nI (an wx C)) (m + 1) (nI p) v _ = _
            rw [f_Ch_tryChanges_L46, if_neg (show ¬ (21 : Int32) ≤ nI p from nI_ge (b := 21) hp (by decide)), ss p (by omega)]
            simp only [jn]
            rw [if_pos ((fa_bit (by omega)).mpr (by simpa using cp)), nI_1]
          · constructor
            · rintro (q | ⟨q, q1, q2⟩)
              · exact Or.inl q
              · exact Or.inr ⟨q, by omega, q2⟩
            · rintro (q | ⟨q, q1, q2, q3⟩)
              · exact Or.inl q
              · rcases (by omega : q < p ∨ q = p) with u | u
                · exact Or.inr ⟨q, u, q2, q3⟩
                · rw [u] at q2
                  exact absurd q2 cp
      · rintro m ⟨vb, v⟩ ⟨H1, X1, B1, bl1⟩
        refine ⟨vb, v, ?_, H1, X1, B1, bl1⟩
        show f_Ch_tryChanges_L46 (G_Ch_tryChanges n) 14 (nI (f ^^^ C)) (nI (t ^^^ C)) (nI C) (nI (l + 1)) (nI x) (nI (an wx C)) (m + 1) (nI 21) v _ = _
        rw [f_Ch_tryChanges_L46, if_pos (show (21 : Int32) ≤ nI 21 by decide)]
    obtain ⟨b', h', r1, r2, r3, r4, r5⟩ := LOOP
    refine ⟨b', h', ?_, r2, r3, Bst_c r4 (fun S => ?_), r5⟩
    · show fb_Ch_tryChanges (G_Ch_tryChanges n) 14 (nI (f ^^^ C)) (nI (t ^^^ C)) (nI C) (nI (l + 1)) h = _
      unfold fb_Ch_tryChanges
      rw [gd_t (by simp only [shp H.1]), gd_t (by simp only [shp H.1]), show hR h 14 1 = 11 by simp only [shp H.1], AT, bind_s, if_neg (nI_ne0 (by omega) (by omega)), if_pos (show (0 : Int32) < nI (l + 1) from nI_lt (a := 0) (by omega) (by omega)), gd_t (by simp only [shp H.1]), gd_t (by simp only [shp H.1]), show hR h 14 0 = 2 by simp only [shp H.1], SW, bind_s, an_I]
      exact r1
    · constructor
      · rintro (q | ⟨q, q1, q2, q3, q4, q5⟩)
        · exact Or.inl q
        · exact Or.inr ⟨q3, fun p hp => q4 p (by rw [Nat.testBit_or, hp]; rfl), q5⟩
      · rintro (q | ⟨q3, q4, q5⟩)
        · exact Or.inl q
        · obtain ⟨p, p1, p2, p3⟩ := hit S q3 q4
          refine Or.inr ⟨p, lt_bit wl p1, by rw [an_bit, p1, p3]; rfl, q3, fun i hi2 => ?_, q5⟩
          rw [bit_set] at hi2
          by_cases u : i = p
          · rw [u]
            exact p2
          · rw [if_neg u] at hi2
            exact q4 i hi2
end P63

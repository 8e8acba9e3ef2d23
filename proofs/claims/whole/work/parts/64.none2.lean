/-! the reference's walk, and the two held together -/
def MB (w : Nat → Nat) (b : Option Nat) (h : xH) : Prop := match b with
  | none => hI h 36 34 = -1
  | some B => hI h 36 34 = nI B ∧ hI h 36 35 = nI (csum w B)
def dLe (p k : Nat) : Bool := !(decide (p = 36) && (decide (k = 34) || decide (k = 35)))
def MoS (w : Nat → Nat) (g f t : Nat) (c d : Nat → Int32) (b : Option Nat) (h : xH) : Prop := Shp h ∧ 51 ≤ hN h ∧ hI h 36 7 = nI g ∧ hI h 36 8 = nI f ∧ hI h 36 9 = nI (f ||| t) ∧ Jga g h ∧ hI h 12 = c ∧ hI h 13 = d ∧ (∀ p, p < c2 g → (f ||| t).testBit p = true → hI h 46 p = nI (w p)) ∧ MB w b h
theorem MoS_fr {w : Nat → Nat} {g f t : Nat} {c d : Nat → Int32} {b b' : Option Nat} {h h' : xH} (H : MoS w g f t c d b h) (s : Shp h') (x : Fr dLe h h') (cb : MB w b' h') : MoS w g f t c d b' h' := by
  obtain ⟨a1, a2, a3, a4, a5, a6, a7, a8, a9, a10⟩ := H
  exact ⟨s, Nat.le_trans a2 x.1, (x.v a2 7 (by decide) rfl).trans a3, (x.v a2 8 (by decide) rfl).trans a4, (x.v a2 9 (by decide) rfl).trans a5, Jga_fr a2 x rfl (fun k => ⟨rfl, rfl, rfl, rfl⟩) (fun k => ⟨rfl, rfl⟩) a6, (funext fun k => x.v a2 k (by decide) rfl).trans a7, (funext fun k => x.v a2 k (by decide) rfl).trans a8, fun p hp hs => (x.v a2 p (by decide) rfl).trans (a9 p hp hs), cb⟩
theorem nI_nm1 {n : Nat} (h : n < 2 ^ 31) : ¬ nI n = (-1 : Int32) := by
  intro q
  have h2 : (0 : Int32) ≤ nI n := nI_le (a := 0) (Nat.zero_le _) h
  rw [q] at h2
  exact absurd h2 (by decide)
section P64
variable {h : xH}
theorem leaf_e {w : Nat → Nat} {g f t C n from' : Nat} {c d : Nat → Int32} {b : Option Nat} {P : Nat → Prop} (hw : ∀ p, w p ≤ 99) (g7 : g ≤ 7) (hf : f < 2 ^ c2 g) (ht : t < 2 ^ c2 g) (dj : f &&& t = 0) (sub : Sub f t C) (H : MoS w g f t c d b h) (B : Bst w P b) (bl : ∀ B, b = some B → B < 2 ^ 21) : ∃ b' h', G_Mo_leaves (n + 1) 36 (nI from') (nI 0) (nI C) (nI (csum w C)) h = some ((), h') ∧ MoS w g f t c d b' h' ∧ Fr dLe h h' ∧ Bst w (fun S => P S ∨ (Gd c d g f t C ∧ S = C)) b' ∧ ∀ B, b' = some B → B < 2 ^ 21 := by
  have s := H.1
  have hc := c2_le g g7
  have p21 : 2 ^ c2 g ≤ 2 ^ 21 := Nat.pow_le_pow_right (by decide) hc
  have CL := Sub_lt hf ht sub
  have F31 : f ^^^ C < 2 ^ 31 := Nat.lt_of_lt_of_le (Nat.xor_lt_two_pow hf CL) (Nat.pow_le_pow_right (by decide) (by omega))
  have U31 : t ^^^ C < 2 ^ 31 := Nat.lt_of_lt_of_le (Nat.xor_lt_two_pow ht CL) (Nat.pow_le_pow_right (by decide) (by omega))
  have AT := Mo_allThrees_e s g7 H.2.2.2.2.2.1 F31 U31 (chg_or dj sub).1
  rw [(chg_or dj sub).2, H.2.2.2.2.2.2.1, H.2.2.2.2.2.2.2.1] at AT
  have cl := csum_le hw C
  have h35 := hmt_le c d g (f ^^^ C) (t ^^^ C)
  have := c3_le g g7
  have UF : Fr dLe h (hIu (hIu h 36 34 (nI C)) 36 35 (nI (csum w C))) := ((Fr.refl h).I rfl).I rfl
  have UP : MoS w g f t c d (some C) (hIu (hIu h 36 34 (nI C)) 36 35 (nI (csum w C))) := MoS_fr H s UF ⟨by rw [iI, if_neg (by omega), iI, if_pos ⟨rfl, rfl⟩], by rw [iI, if_pos ⟨rfl, rfl⟩]⟩
  have GO : ∀ (b1 : Option Nat), Bst w (fun S => P S ∨ S = C) (some C) → ∃ b' h', Option.bind (f_Mo_allThrees 36 ((hI h 36 8) ^^^ nI C) (hI h 36 9) h) (fun q24 => if q24.1 = 0 then gd (hK q24.2 36 = 11) ((fun (x20 : xH) => some ((), x20)) (hIu (hIu q24.2 36 34 (nI C)) 36 35 (nI (csum w C)))) else (fun (x20 : xH) => some ((), x20)) q24.2) = some ((), h') ∧ MoS w g f t c d b' h' ∧ Fr dLe h h' ∧ Bst w (fun S => P S ∨ (Gd c d g f t C ∧ S = C)) b' ∧ ∀ B, b' = some B → B < 2 ^ 21 := by
    intro b1 BC
    rw [H.2.2.2.1, H.2.2.2.2.1, fb_xorI, AT, bind_s]
    by_cases z : hmt c d g (f ^^^ C) (t ^^^ C) = 0
    · refine ⟨some C, _, ?_, UP, UF, Bst_c BC (fun S => ⟨fun q => q.imp id (fun e => ⟨⟨sub, z⟩, e⟩), fun q => q.imp id (fun e => e.2)⟩), fun B e => by cases e; omega⟩
      rw [if_pos (show nI (hmt c d g (f ^^^ C) (t ^^^ C)) = 0 by rw [z]; rfl), gd_t (by simp only [shp s])]
    · refine ⟨b, h, ?_, H, Fr.refl h, Bst_c B (fun S => ⟨Or.inl, fun q => q.elim id (fun e => absurd e.1.2 z)⟩), bl⟩
      rw [if_neg (nI_ne0 (by omega) (by omega))]
  have NO : Bst w (fun S => P S ∨ S = C) b → ∃ b' h', some ((), h) = some ((), h') ∧ MoS w g f t c d b' h' ∧ Fr dLe h h' ∧ Bst w (fun S => P S ∨ (Gd c d g f t C ∧ S = C)) b' ∧ ∀ B, b' = some B → B < 2 ^ 21 := by
    intro BN
    refine ⟨b, h, rfl, H, Fr.refl h, ?_, bl⟩
    by_cases z : Gd c d g f t C
    · exact Bst_c BN (fun S => ⟨fun q => q.imp id (fun e => ⟨z, e⟩), fun q => q.imp id (fun e => e.2)⟩)
    · exact Bst_c B (fun S => ⟨Or.inl, fun q => q.elim id (fun e => absurd e.1 z)⟩)
  have E0 : G_Mo_leaves (n + 1) 36 (nI from') (nI 0) (nI C) (nI (csum w C)) h = fb_Mo_leaves (G_Mo_leaves n) 36 (nI from') (nI 0) (nI C) (nI (csum w C)) h := rfl
  rw [E0]
  unfold fb_Mo_leaves
  rw [if_pos (show nI 0 = 0 from rfl), gd_t (by simp only [shp s])]
  simp only [jn]
  cases b with
  | none =>
    have h3 : hI h 36 34 = -1 := H.2.2.2.2.2.2.2.2.2
    rw [if_pos h3]
    exact GO none (Bst_new B)
  | some B0 =>
    obtain ⟨h3, h4⟩ : hI h 36 34 = nI B0 ∧ hI h 36 35 = nI (csum w B0) := H.2.2.2.2.2.2.2.2.2
    have b0 := bl B0 rfl
    have cl0 := csum_le hw B0
    rw [if_neg (show ¬ hI h 36 34 = (-1 : Int32) by rw [h3]; exact nI_nm1 (by omega)), h3, h4]
    by_cases e : csum w C < csum w B0
    · rw [if_pos (nI_lt e (by omega))]
      exact GO none (Bst_y B (Or.inl e))
    · rw [if_neg (nI_nlt (by omega) (by omega))]
      by_cases e2 : csum w C = csum w B0
      · rw [if_pos (show nI (csum w C) = nI (csum w B0) by rw [e2])]
        by_cases e3 : B0 ≤ C
        · rw [if_pos (nI_le e3 (by omega))]
          exact NO (Bst_n B (Or.inr ⟨e2.symm, e3⟩))
        · rw [if_neg (show ¬ nI B0 ≤ nI C from nI_ge (by omega) (by omega))]
          exact GO none (Bst_y B (Or.inr ⟨e2, by omega⟩))
      · rw [if_neg (by rw [nI_eq (by omega) (by omega)]; exact e2)]
        exact NO (Bst_n B (Or.inl (by omega)))
def LvS (c d : Nat → Int32) (g f t : Nat) (m C from' S : Nat) : Prop := Gd c d g f t S ∧ szz S = szz C + m ∧ ∀ p, p < from' → S.testBit p = C.testBit p
theorem LvS_0 {c d : Nat → Int32} {g f t C from' S : Nat} (g7 : g ≤ 7) (hf : f < 2 ^ c2 g) (ht : t < 2 ^ c2 g) (sub : Sub f t C) (low : ∀ p, C.testBit p = true → p < from') : LvS c d g f t 0 C from' S ↔ (Gd c d g f t C ∧ S = C) := by
  have p21 : 2 ^ c2 g ≤ 2 ^ 21 := Nat.pow_le_pow_right (by decide) (c2_le g g7)
  constructor
  · rintro ⟨q1, q2, q3⟩
    have e : S = C := sub_eq (Nat.lt_of_lt_of_le (Sub_lt hf ht sub) p21) (Nat.lt_of_lt_of_le (Sub_lt hf ht q1.1) p21) (fun p hp => by rw [q3 p (low p hp)]; exact hp) (by omega)
    rw [e] at q1
    exact ⟨q1, e⟩
  · rintro ⟨q, rfl⟩
    exact ⟨q, rfl, fun _ _ => rfl⟩
theorem LvS_s {c d : Nat → Int32} {g f t m C from' S : Nat} (g7 : g ≤ 7) (hf : f < 2 ^ c2 g) (ht : t < 2 ^ c2 g) (low : ∀ p, C.testBit p = true → p < from') : LvS c d g f t (m + 1) C from' S ↔ ∃ q, from' ≤ q ∧ q < c2 g ∧ (f ||| t).testBit q = true ∧ LvS c d g f t m (C ||| 2 ^ q) (q + 1) S := by
  have hc := c2_le g g7
  constructor
  · rintro ⟨q1, q2, q3⟩
    have SL := Sub_lt hf ht q1.1
    have ex : ∃ i, i < c2 g ∧ (from' ≤ i ∧ S.testBit i = true) := by
      apply Classical.byContradiction
      intro no
      have e : S = C := by
        apply Nat.eq_of_testBit_eq
        intro i
        by_cases u : i < from'
        · exact q3 i u
        · have a1 : S.testBit i = false := by
            cases e : S.testBit i with
            | false => rfl
            | true => exact absurd ⟨i, lt_bit SL e, by omega, e⟩ no
          have a2 : C.testBit i = false := by
            cases e : C.testBit i with
            | false => rfl
            | true => exact absurd (low i e) u
          rw [a1, a2]
      rw [e] at q2
      omega
    obtain ⟨q, hq, ⟨fq, sq⟩, mn⟩ := fb_first ex
    have nq : C.testBit q = false := by
      cases e : C.testBit q with
      | false => rfl
      | true => exact absurd (low q e) (by omega)
    refine ⟨q, fq, hq, q1.1 q sq, q1, by rw [szz_put (by omega) nq]; omega, ?_⟩
    intro i hi'
    rw [bit_set]
    by_cases u : i = q
    · rw [if_pos u, u]
      exact sq
    · rw [if_neg u]
      by_cases v : i < from'
      · exact q3 i v
      · have a1 : S.testBit i = false := by
          cases e : S.testBit i with
          | false => rfl
          | true => exact absurd ⟨by omega, e⟩ (mn i (by omega))
        have a2 : C.testBit i = false := by
          cases e : C.testBit i with
          | false => rfl
          | true => exact absurd (low i e) v
        rw [a1, a2]
  · rintro ⟨q, fq, hq, sn, q1, q2, q3⟩
    have nq : C.testBit q = false := by
      cases e : C.testBit q with
      | false => rfl
      | true => exact absurd (low q e) (by omega)
    rw [szz_put (by omega) nq] at q2
    refine ⟨q1, by omega, fun p hp => ?_⟩
    rw [q3 p (by omega), bit_set, if_neg (by omega)]
theorem leaves_e {w : Nat → Nat} {g f t : Nat} {c d : Nat → Int32} (hw : ∀ p, w p ≤ 99) (g7 : g ≤ 7) (hf : f < 2 ^ c2 g) (ht : t < 2 ^ c2 g) (dj : f &&& t = 0) : ∀ (m n C from' : Nat) (b : Option Nat) (P : Nat → Prop) (h : xH), m < n → m ≤ 3 → from' ≤ c2 g → Sub f t C → (∀ p, C.testBit p = true → p < from') → MoS w g f t c d b h → Bst w P b → (∀ B, b = some B → B < 2 ^ 21) → ∃ b' h', G_Mo_leaves n 36 (nI from') (nI m) (nI C) (nI (csum w C)) h = some ((), h') ∧ MoS w g f t c d b' h' ∧ Fr dLe h h' ∧ Bst w (fun S => P S ∨ LvS c d g f t m C from' S) b' ∧ ∀ B, b' = some B → B < 2 ^ 21 := by
  have hc := c2_le g g7
  intro m
  induction m with
  | zero =>
    intro n C from' b P h hn m3 hfr sub low H B bl
    obtain ⟨n, rfl⟩ : ∃ q, n = q + 1 := ⟨n - 1, by omega⟩
    obtain ⟨b', h', r1, r2, r3, r4, r5⟩ := leaf_e (n := n) (from' := from') hw g7 hf ht dj sub H B bl
    exact ⟨b', h', r1, r2, r3, Bst_c r4 (fun S => by rw [LvS_0 g7 hf ht sub low]), r5⟩
  | succ m ih =>
    intro n C from' b P h hn m3 hfr sub low H B bl
    obtain ⟨n, rfl⟩ : ∃ q, n = q + 1 := ⟨n - 1, by omega⟩
    have cl := csum_le hw C
    have LOOP : ∃ b' h', f_Mo_leaves_L70 (G_Mo_leaves n) 36 (nI from') (nI (m + 1)) (nI C) (nI (csum w C)) fu (nI from') h (fun v17 h18 => some ((), h18)) = some ((), h') ∧ MoS w g f t c d b' h' ∧ Fr dLe h h' ∧ Bst w (fun S => P S ∨ ∃ q, from' ≤ q ∧ q < c2 g ∧ (f ||| t).testBit q = true ∧ LvS c d g f t m (C ||| 2 ^ q) (q + 1) S) b' ∧ ∀ B, b' = some B → B < 2 ^ 21 := by
      refine lpf (fun k p (v : Option Nat × xH) => f_Mo_leaves_L70 (G_Mo_leaves n) 36 (nI from') (nI (m + 1)) (nI C) (nI (csum w C)) k p v.2 (fun v17 h18 => some ((), h18))) (fun o => ∃ b' h', o = some ((), h') ∧ MoS w g f t c d b' h' ∧ Fr dLe h h' ∧ Bst w (fun S => P S ∨ ∃ q, from' ≤ q ∧ q < c2 g ∧ (f ||| t).testBit q = true ∧ LvS c d g f t m (C ||| 2 ^ q) (q + 1) S) b' ∧ ∀ B, b' = some B → B < 2 ^ 21) (fun p v => from' ≤ p ∧ MoS w g f t c d v.1 v.2 ∧ Fr dLe h v.2 ∧ Bst w (fun S => P S ∨ ∃ q, from' ≤ q ∧ q < p ∧ (f ||| t).testBit q = true ∧ LvS c d g f t m (C ||| 2 ^ q) (q + 1) S) v.1 ∧ ∀ B, v.1 = some B → B < 2 ^ 21) (c2 g) (i := from') (s := (b, h)) hfr (by omega) ⟨Nat.le_refl _, H, Fr.refl h, Bst_c B (fun S => ⟨Or.inl, fun q => q.elim id (fun ⟨q, q1, q2, _⟩ => absurd q1 (by omega))⟩), bl⟩ ?_ ?_
      · rintro k p ⟨vb, v⟩ hp ⟨hfp, H1, X1, B1, bl1⟩
        have fp1 : from' ≤ p + 1 := by omega
        have B1 : Bst w (fun S => P S ∨ ∃ q, from' ≤ q ∧ q < p ∧ (f ||| t).testBit q = true ∧ LvS c d g f t m (C ||| 2 ^ q) (q + 1) S) vb := B1
        have H1 : MoS w g f t c d vb v := H1
        have s := H1.1
        right
        have E1 : f_Mo_leaves_L70 (G_Mo_leaves n) 36 (nI from') (nI (m + 1)) (nI C) (nI (csum w C)) (k + 1) (nI p) v (fun v17 h18 => some ((), h18)) = (if b2i ((f ||| t).testBit p) = (1 : Int32) then Option.bind (G_Mo_leaves n 36 (nI (p + 1)) (nI m) (nI C ||| nI (2 ^ p)) (nI (csum w C) + hI v 46 p) v) (fun q16 => f_Mo_leaves_L70 (G_Mo_leaves n) 36 (nI from') (nI (m + 1)) (nI C) (nI (csum w C)) k (nI (p + 1)) q16.2 (fun v17 h18 => some ((), h18))) else f_Mo_leaves_L70 (G_Mo_leaves n) 36 (nI from') (nI (m + 1)) (nI C) (nI (csum w C)) k (nI (p + 1)) v (fun v17 h18 => some ((), h18))) := by
          rw [f_Mo_leaves_L70, gd_t (by simp only [shp s]), H1.2.2.1, c2_n g g7, if_neg (show ¬ nI (c2 g) ≤ nI p from nI_ge hp (by omega)), H1.2.2.2.2.1, tb (show f ||| t < 2 ^ 31 from Nat.or_lt_two_pow (lt3 (lt24 g7 hf)) (lt3 (lt24 g7 ht))) (show p < 31 by omega)]
          simp only [jn]
          rw [gd_t (by simp only [shp s]), gd_t (by simp only [shp s]; exact nI_in (show p < 21 by omega) (by decide)), ss p (by omega), show hR v 36 33 = 46 by simp only [shp s], nI_clamp (show p < 2 ^ 31 by omega), nI_1, show nI (m + 1) - (1 : Int32) = nI m by rw [k1, li_sub (by omega), Nat.add_sub_cancel]]
        by_cases cp : (f ||| t).testBit p = true
        · have fp : from' ≤ p := hfp
          have ncp : C.testBit p = false := by
            cases e : C.testBit p with
            | false => rfl
            | true => exact absurd (low p e) (by omega)
          obtain ⟨b', h', r1, r2, r3, r4, r5⟩ := ih n (C ||| 2 ^ p) (p + 1) vb _ v (by omega) (by omega) (by omega) (Sub_put sub cp) (fun i hi' => by
              rw [bit_set] at hi'
              by_cases u : i = p
              · omega
              · rw [if_neg u] at hi'
                have := low i hi'
                omega) H1 B1 bl1
          refine ⟨(b', h'), ?_, fp1, r2, X1.trans r3, Bst_c r4 (fun S => ?_), r5⟩
          · rw [csum_put (by omega) ncp] at r1
            refine E1.trans ?_
            rw [if_pos (by rw [cp]; rfl), H1.2.2.2.2.2.2.2.2.1 p hp cp, fa_or, nI_add, r1, bind_s]
          · constructor
            · rintro ((q | ⟨q, q0, q1, q2⟩) | q)
              · exact Or.inl q
              · exact Or.inr ⟨q, q0, by omega, q2⟩
              · exact Or.inr ⟨p, fp, by omega, cp, q⟩
            · rintro (q | ⟨q, q0, q1, q2, q3⟩)
              · exact Or.inl (Or.inl q)
              · rcases (by omega : q < p ∨ q = p) with u | u
                · exact Or.inl (Or.inr ⟨q, q0, u, q2, q3⟩)
                · rw [u] at q3
                  exact Or.inr q3
        · refine ⟨(vb, v), ?_, fp1, H1, X1, Bst_c B1 (fun S => ?_), bl1⟩
          · refine E1.trans ?_
            rw [if_neg (by rw [show (f ||| t).testBit p = false by simpa using cp]; decide)]
          · constructor
            · rintro (q | ⟨q, q0, q1, q2⟩)
              · exact Or.inl q
              · exact Or.inr ⟨q, q0, by omega, q2⟩
            · rintro (q | ⟨q, q0, q1, q2, q3⟩)
              · exact Or.inl q
              · rcases (by omega : q < p ∨ q = p) with u | u
                · exact Or.inr ⟨q, q0, u, q2, q3⟩
                · rw [u] at q2
                  exact absurd q2 cp
      · rintro k ⟨vb, v⟩ ⟨-, H1, X1, B1, bl1⟩
        refine ⟨vb, v, ?_, H1, X1, B1, bl1⟩
        have H1 : MoS w g f t c d vb v := H1
        have s := H1.1
        show f_Mo_leaves_L70 (G_Mo_leaves n) 36 (nI from') (nI (m + 1)) (nI C) (nI (csum w C)) (k + 1) (nI (c2 g)) v _ = _
        rw [f_Mo_leaves_L70, gd_t (by simp only [shp s]), H1.2.2.1, c2_n g g7, if_pos (nI_le (Nat.le_refl _) (by omega))]
    obtain ⟨b', h', r1, r2, r3, r4, r5⟩ := LOOP
    refine ⟨b', h', ?_, r2, r3, Bst_c r4 (fun S => by rw [LvS_s g7 hf ht low]), r5⟩
    show fb_Mo_leaves (G_Mo_leaves n) 36 (nI from') (nI (m + 1)) (nI C) (nI (csum w C)) h = _
    unfold fb_Mo_leaves
    rw [if_neg (nI_ne0 (by omega) (by omega))]
    exact r1
end P64

/-! the game -/
def In3 (x : Int32) : Prop := x = -1 ∨ x = 0 ∨ x = 1
theorem In3_neg {x : Int32} (h : In3 x) : In3 (-x) := by
  rcases h with rfl | rfl | rfl
  · exact Or.inr (Or.inr (by decide))
  · exact Or.inr (Or.inl (by decide))
  · exact Or.inl (by decide)
theorem In3_max {x y : Int32} (h : In3 x) (h2 : In3 y) : In3 (jMax x y) := by
  unfold jMax
  split
  · exact h2
  · exact h
def gbm (u : Nat → Bool) (tv : Nat → Int32) (b0 : Int32) : Nat → Int32
  | 0 => b0
  | p + 1 => if u p = true then jMax (gbm u tv b0 p) (tv p) else gbm u tv b0 p
theorem gbm_3 {u : Nat → Bool} {tv : Nat → Int32} (h : ∀ p, In3 (tv p)) : ∀ p, In3 (gbm u tv (-1) p)
  | 0 => Or.inl rfl
  | p + 1 => by
    unfold gbm
    split
    · exact In3_max (gbm_3 h p) (h p)
    · exact gbm_3 h p
theorem gbm_1 {u : Nat → Bool} {tv : Nat → Int32} (h : ∀ p, In3 (tv p)) {i : Nat} (e : gbm u tv (-1) i = 1) : ∀ m, gbm u tv (-1) (i + m) = 1
  | 0 => e
  | m + 1 => by
    show (if u (i + m) = true then jMax (gbm u tv (-1) (i + m)) (tv (i + m)) else gbm u tv (-1) (i + m)) = 1
    rw [gbm_1 h e m]
    split
    · rcases h (i + m) with q | q | q <;> rw [q] <;> decide
    · rfl
theorem gbm_2 {u : Nat → Bool} {tv : Nat → Int32} (h : ∀ p, In3 (tv p)) : ∀ p, ((∀ q, q < p → u q = false) ∧ gbm u tv (-2) p = -2 ∧ gbm u tv (-1) p = -1) ∨ ((∃ q, q < p ∧ u q = true) ∧ gbm u tv (-2) p = gbm u tv (-1) p)
  | 0 => Or.inl ⟨fun q hq => by omega, rfl, rfl⟩
  | p + 1 => by
    have e2 : ∀ b, gbm u tv b (p + 1) = if u p = true then jMax (gbm u tv b p) (tv p) else gbm u tv b p := fun b => rfl
    rw [e2, e2]
    rcases gbm_2 h p with ⟨a, b, c⟩ | ⟨⟨q, q1, q2⟩, b⟩
    · cases e : u p with
      | false =>
        left
        refine ⟨fun q hq => ?_, b, c⟩
        rcases (by omega : q < p ∨ q = p) with z | z
        · exact a q z
        · rw [z, e]
      | true =>
        right
        refine ⟨⟨p, by omega, e⟩, ?_⟩
        rw [if_pos rfl, if_pos rfl, b, c]
        rcases h p with q | q | q <;> rw [q] <;> decide
    · right
      refine ⟨⟨q, by omega, q2⟩, ?_⟩
      rw [b]
def gv (P : Nat) : Nat → Nat → Nat → Int32
  | 0, _, _ => 0
  | k + 1, m, t => if an (2 ^ P - 1) (m ||| t) = 0 then 0 else gbm (fun p => !(m ||| t).testBit p) (fun p => if cls p (m ||| 2 ^ p) = true then -1 else -(gv P k t (m ||| 2 ^ p))) (-1) P
def tvv (P k m t p : Nat) : Int32 := if cls p (m ||| 2 ^ p) = true then -1 else -(gv P k t (m ||| 2 ^ p))
theorem gv_3 (P : Nat) : ∀ k m t, In3 (gv P k m t)
  | 0, _, _ => Or.inr (Or.inl rfl)
  | k + 1, m, t => by
    unfold gv
    split
    · exact Or.inr (Or.inl rfl)
    · refine gbm_3 (fun p => ?_) P
      split
      · exact Or.inl rfl
      · exact In3_neg (gv_3 P k _ _)
theorem tvv_3 (P k m t p : Nat) : In3 (tvv P k m t p) := by
  unfold tvv
  split
  · exact Or.inl rfl
  · exact In3_neg (gv_3 P k _ _)
theorem gv_s (P k m t : Nat) : gv P (k + 1) m t = if an (2 ^ P - 1) (m ||| t) = 0 then 0 else gbm (fun p => !(m ||| t).testBit p) (tvv P k m t) (-1) P := rfl
theorem unseen_0 {P x : Nat} : an (2 ^ P - 1) x = 0 ↔ ∀ p, p < P → x.testBit p = true := by
  constructor
  · intro h p hp
    have := congrArg (fun y => y.testBit p) h
    simp only [an_bit, Nat.testBit_two_pow_sub_one, Nat.zero_testBit, decide_eq_true hp, Bool.true_and] at this
    simpa using this
  · intro h
    apply Nat.eq_of_testBit_eq
    intro p
    rw [an_bit, Nat.testBit_two_pow_sub_one, Nat.zero_testBit]
    by_cases hp : p < P
    · rw [h p hp]
      simp
    · rw [decide_eq_false hp]
      rfl
section P62
variable {h : xH}
theorem Ma_turn_e {R0 : Nat → Int32 → Int32 → Int32 → Int32 → xH → Option (Int32 × xH)} {P l p m t E : Nat} (s : Shp h) (z : Jseat h) (hp : p < 21) (hm : m < 2 ^ 21) (H : R0 2 (nI t) (nI (m ||| 2 ^ p)) (nI E) (nI l) h = some (gv P l t (m ||| 2 ^ p), h)) : f_Ga_worthOfTurn R0 2 (nI p) (nI (m ||| 2 ^ p)) (nI t) (nI E) (nI (l + 1)) h = some (tvv P l m t p, h) := by
  have o31 : m ||| 2 ^ p < 2 ^ 31 := Nat.lt_trans (or2_lt hm hp) (by decide)
  unfold f_Ga_worthOfTurn tvv
  rw [gd_t (by simp only [shp s]), closes_e s z hp o31, bind_s]
  simp only [jn]
  cases cls p (m ||| 2 ^ p)
  · rw [if_pos b2i_f, k1, li_sub (by omega), Nat.add_sub_cancel, H, bind_s]
    rfl
  · rw [if_neg (show ¬ b2i true = 0 by decide)]
    rfl
theorem Ma_worth_e {P : Nat} (s : Shp h) (z : Jseat h) (hP : P ≤ 6) : ∀ (l k m t : Nat), l ≤ 6 → l < k → m < 2 ^ P → t < 2 ^ P → G_Ga k 2 (nI m) (nI t) (nI (2 ^ P - 1)) (nI l) h = some (gv P l m t, h) := by
  have p6 : 2 ^ P ≤ 2 ^ 6 := Nat.pow_le_pow_right (by decide) hP
  intro l
  induction l with
  | zero =>
    intro k m t h6 hk hm ht
    obtain ⟨k, rfl⟩ : ∃ q, k = q + 1 := ⟨k - 1, by omega⟩
    show fb_Ga_worth (G_Ga k) 2 (nI m) (nI t) (nI (2 ^ P - 1)) (nI 0) h = _
    unfold fb_Ga_worth
    simp only [jn]
    split
    · rfl
    · rw [if_neg (show ¬ (0 : Int32) < nI 0 by decide)]
      rfl
  | succ l ih =>
    intro k m t h6 hk hm ht
    obtain ⟨k, rfl⟩ : ∃ q, k = q + 1 := ⟨k - 1, by omega⟩
    show fb_Ga_worth (G_Ga k) 2 (nI m) (nI t) (nI (2 ^ P - 1)) (nI (l + 1)) h = _
    unfold fb_Ga_worth
    have ul : an (2 ^ P - 1) (m ||| t) < 2 ^ P := an_lt (by omega)
    rw [fa_or, an_I, gv_s]
    simp only [jn]
    by_cases c : an (2 ^ P - 1) (m ||| t) = 0
    · rw [if_pos (show nI (an (2 ^ P - 1) (m ||| t)) = 0 by rw [c]; rfl), if_pos c]
    · rw [if_neg (nI_ne0 (by omega) (by omega)), if_neg c]
      rw [if_pos (show (0 : Int32) < nI (l + 1) from nI_lt (a := 0) (by omega) (by omega))]
      have H3 := tvv_3 P l m t
      have ub : ∀ p, p < 31 → jShr (nI (an (2 ^ P - 1) (m ||| t))) (nI p) &&& (1 : Int32) = b2i ((an (2 ^ P - 1) (m ||| t)).testBit p) := fun p hp => tb (by omega) hp
      have ub2 : ∀ p, (an (2 ^ P - 1) (m ||| t)).testBit p = (decide (p < P) && !(m ||| t).testBit p) := fun p => by rw [an_bit, Nat.testBit_two_pow_sub_one]
      refine lpf (fun n p (v : Int32) => f_Ga_worth_L27 (G_Ga k) 2 (nI m) (nI t) (nI (2 ^ P - 1)) (nI (l + 1)) (nI (an (2 ^ P - 1) (m ||| t))) n v p h (fun v12 v13 h14 => some (v12, h14))) (fun o => o = some (gbm (fun p => !(m ||| t).testBit p) (tvv P l m t) (-1) P, h)) (fun p v => v = gbm (fun p => !(m ||| t).testBit p) (tvv P l m t) (-1) (min p P)) 6 (i := 0) (Nat.zero_le _) (by omega) (by rw [Nat.zero_min]; rfl) ?_ ?_
      · intro n p v hp e
        subst e
        by_cases ex : (1 : Int32) ≤ gbm (fun p => !(m ||| t).testBit p) (tvv P l m t) (-1) (min p P)
        · left
          have e1 : gbm (fun p => !(m ||| t).testBit p) (tvv P l m t) (-1) (min p P) = 1 := by
            rcases gbm_3 (u := fun p => !(m ||| t).testBit p) H3 (min p P) with q | q | q
            · rw [q] at ex; exact absurd ex (by decide)
            · rw [q] at ex; exact absurd ex (by decide)
            · exact q
          have e2 := gbm_1 (u := fun p => !(m ||| t).testBit p) H3 e1 (P - min p P)
          rw [show min p P + (P - min p P) = P by omega] at e2
          show f_Ga_worth_L27 (G_Ga k) 2 (nI m) (nI t) (nI (2 ^ P - 1)) (nI (l + 1)) (nI (an (2 ^ P - 1) (m ||| t))) (n + 1) _ (nI p) h _ = _
          rw [f_Ga_worth_L27, if_neg (show ¬ (6 : Int32) ≤ nI p from nI_ge (b := 6) hp (by decide)), if_pos ex, e1, e2]
        · right
          refine ⟨gbm (fun p => !(m ||| t).testBit p) (tvv P l m t) (-1) (min (p + 1) P), ?_, rfl⟩
          show f_Ga_worth_L27 (G_Ga k) 2 (nI m) (nI t) (nI (2 ^ P - 1)) (nI (l + 1)) (nI (an (2 ^ P - 1) (m ||| t))) (n + 1) _ (nI p) h _ = _
          rw [f_Ga_worth_L27, if_neg (show ¬ (6 : Int32) ≤ nI p from nI_ge (b := 6) hp (by decide)), if_neg ex, ub p (by omega), ub2]
          simp only [jn]
          by_cases cp : p < P
          · have m1 : min p P = p := Nat.min_eq_left (by omega)
            have m2 : min (p + 1) P = p + 1 := Nat.min_eq_left (by omega)
            have eb : gbm (fun p => !(m ||| t).testBit p) (tvv P l m t) (-1) (p + 1) = if (!(m ||| t).testBit p) = true then jMax (gbm (fun p => !(m ||| t).testBit p) (tvv P l m t) (-1) p) (tvv P l m t p) else gbm (fun p => !(m ||| t).testBit p) (tvv P l m t) (-1) p := rfl
            rw [m1, m2, eb, decide_eq_true cp, Bool.true_and]
            generalize gbm (fun p => !(m ||| t).testBit p) (tvv P l m t) (-1) p = B at *
            cases cb : (m ||| t).testBit p
            · have TU := Ma_turn_e (R0 := G_Ga k) (P := P) (l := l) (p := p) (m := m) (t := t) (E := 2 ^ P - 1) s z (by omega) (Nat.lt_of_lt_of_le hm (Nat.pow_le_pow_right (by decide) (by omega))) (ih k t (m ||| 2 ^ p) (by omega) (by omega) ht (or2_lt hm cp))
              rw [if_neg (show ¬ b2i (!false) = 0 by decide), ss p (by omega), fa_or, TU, bind_s, if_pos (show (!false) = true from rfl), nI_1]
            · rw [if_pos (show b2i (!true) = 0 from rfl), if_neg (by decide), nI_1]
          · rw [decide_eq_false cp, Bool.false_and, if_pos b2i_f, nI_1, show min p P = P from Nat.min_eq_right (by omega), show min (p + 1) P = P from Nat.min_eq_right (by omega)]
      · intro n v e
        subst e
        show f_Ga_worth_L27 (G_Ga k) 2 (nI m) (nI t) (nI (2 ^ P - 1)) (nI (l + 1)) (nI (an (2 ^ P - 1) (m ||| t))) (n + 1) _ (nI 6) h _ = _
        rw [f_Ga_worth_L27, if_pos (show (6 : Int32) ≤ nI 6 by decide), show min 6 P = P from Nat.min_eq_right hP]
/-! the reference's side -/
theorem cls_ct {g p B : Nat} (g7 : g ≤ 7) (hp : p < c2 g) (hB : B < 2 ^ c2 g) : cls p B = (fb_ct (fun k => (B &&& pm3 (tmn g k) == pm3 (tmn g k)) && (pm3 (tmn g k)).testBit p) (c3 g) != 0) := by
  have e := th_count g7 hp (fun x => B &&& wi x == wi x) (fun k hk hg => X_out (c := fun _ => 0) hp g7 hB hk hg)
  have e2 : fb_ct (fun k => (B &&& wi (st3 (tmn g k)) == wi (st3 (tmn g k))) && (pm3 (tmn g k)).testBit p) (c3 g) = fb_ct (fun k => (B &&& pm3 (tmn g k) == pm3 (tmn g k)) && (pm3 (tmn g k)).testBit p) (c3 g) := fb_ct_cong (fun k hk => by rw [(wi_tm g7 hk).1])
  rw [← e2, ← e]
  have c1 : cls p B = true ↔ 0 < fb_ct (fun k => !(two2 p).testBit k && (B &&& wi (two2 p ||| 2 ^ k) == wi (two2 p ||| 2 ^ k))) 7 := by
    rw [fb_ct_pos]
    unfold cls
    rw [List.any_eq_true]
    constructor
    · rintro ⟨k, hk, q⟩
      exact ⟨k, List.mem_range.mp hk, q⟩
    · rintro ⟨k, hk, q⟩
      exact ⟨k, List.mem_range.mpr hk, q⟩
  rw [Bool.eq_iff_iff, c1, bne_iff_ne]
  omega
theorem hasThree_e {g B : Nat} {a1 a2 a3 a4 p : Nat} {i1 i2 i4 : Int32} (s : Shp h) (g7 : g ≤ 7) (j : Jga g h) (hp : p < c2 g) (hB : B < 2 ^ c2 g) (hso : (if i4 = (1 : Int32) then i1 else i2 &&& (i1 ^^^ (-1 : Int32))) = nI B) : f_Mo_hasThree 36 i1 i2 (nI p) i4 h = some (b2i (cls p B), h) := by
  have hc := c2_le g g7
  have hc3 := c3_le g g7
  have B31 := lt3 (lt24 g7 hB)
  rw [cls_ct g7 hp hB]
  generalize hq : (fun k => (B &&& pm3 (tmn g k) == pm3 (tmn g k)) && (pm3 (tmn g k)).testBit p) = q
  have hqk : ∀ k, q k = ((B &&& pm3 (tmn g k) == pm3 (tmn g k)) && (pm3 (tmn g k)).testBit p) := fun k => by rw [← hq]
  unfold f_Mo_hasThree
  rw [hso]
  refine lpf (fun n k (v : Unit) => f_Mo_hasThree_L20 36 i1 i2 (nI p) i4 (nI B) n k h (fun v18 h19 => some ((0 : Int32), h19))) (fun o => o = some (b2i (fb_ct q (c3 g) != 0), h)) (fun k v => ∀ i, i < k → q i = false) (c3 g) (i := 0) (s := ()) (Nat.zero_le _) (by omega) (fun q hq => by omega) ?_ ?_
  · intro n k v hk P
    obtain ⟨w1, w2, w3, w4⟩ := wi_tm g7 hk
    have hin : ¬ (nI k < 0 ∨ 35 ≤ (nI k).toNatClampNeg) := nI_in (by omega) (by decide)
    have ae := and_eqI B31 (show pm3 (tmn g k) < 2 ^ 31 by omega)
    have tbb := tb (show pm3 (tmn g k) < 2 ^ 31 by omega) (show p < 31 by omega)
    have r42 := (j.2 k hk).1
    have qk := hqk k
    generalize pm3 (tmn g k) = m at *
    have E : f_Mo_hasThree_L20 36 i1 i2 (nI p) i4 (nI B) (n + 1) (nI k) h (fun v18 h19 => some ((0 : Int32), h19)) = if q k = true then some ((1 : Int32), h) else f_Mo_hasThree_L20 36 i1 i2 (nI p) i4 (nI B) n (nI (k + 1)) h (fun v18 h19 => some ((0 : Int32), h19)) := by
      rw [f_Mo_hasThree_L20, gd_t (by simp only [shp s]), j.1, if_neg (nI_ge hk (by omega)), gd_t (by simp only [shp s]), gd_t (by simp only [shp s]; exact hin)]
      simp only [jn]
      rw [show hR h 36 28 = 42 by simp only [shp s], nI_clamp (show k < 2 ^ 31 by omega), r42, tbb, nI_1, qk]
      cases m.testBit p
      · rw [if_neg (show ¬ b2i false = (1 : Int32) by decide), Bool.and_false]
        rfl
      · rw [if_pos (show b2i true = (1 : Int32) from rfl), Bool.and_true, gd_t (show ¬ (nI k < 0 ∨ hL h 42 ≤ k) by simp only [shp s]; exact nin (by omega) (by omega)), gd_t (show ¬ (nI k < 0 ∨ hL h 42 ≤ k) by simp only [shp s]; exact nin (by omega) (by omega))]
        by_cases c : (B &&& m == m) = true
        · rw [if_pos (ae.mpr c), if_pos c]
        · rw [if_neg (fun z => c (ae.mp z)), if_neg c]
    cases c : q k with
    | true =>
      rw [c, if_pos rfl] at E
      left
      rw [E, bne_iff_ne.mpr]
      · rfl
      · intro z
        have := fb_ct_zero.mp z k hk
        rw [c] at this
        cases this
    | false =>
      rw [c, if_neg (by decide)] at E
      refine Or.inr ⟨(), E, fun i hi' => ?_⟩
      rcases (by omega : i < k ∨ i = k) with u | u
      · exact P i u
      · rw [u, c]
  · intro n v P
    rw [fb_ct_zero.mpr P, f_Mo_hasThree_L20, gd_t (by simp only [shp s]), j.1, if_pos (nI_le (Nat.le_refl _) (by omega))]
    rfl
/-- the reference's board as the two sides see it -/
def Bo (f t m o : Nat) (so : Int32) : Prop := (so = 1 ∧ m = f ∧ o = t) ∨ (so = 0 ∧ m = t ∧ o = f)
theorem Mo_turn_e {R0 : Nat → Int32 → Int32 → Int32 → xH → Option (Int32 × xH)} {g l p f t m o : Nat} {so : Int32} (s : Shp h) (g7 : g ≤ 7) (j : Jga g h) (hp : p < c2 g) (hf : f < 2 ^ c2 g) (ht : t < 2 ^ c2 g) (dj : f &&& t = 0) (nx : (f ||| t).testBit p = false) (B : Bo f t m o so) (H : ∀ f' t' so', Bo f' t' o (m ||| 2 ^ p) so' → f' < 2 ^ c2 g → t' < 2 ^ c2 g → f' &&& t' = 0 → (∀ i, (f' ||| t').testBit i = ((f ||| t).testBit i || decide (i = p))) → R0 36 (nI f') (nI (f' ||| t')) so' h = some (gv (c2 g) l o (m ||| 2 ^ p), h)) : f_Mo_turn R0 36 (nI f) (nI (f ||| t)) (nI p) so h = some (tvv (c2 g) l m o p, h) := by
  have hc := c2_le g g7
  have nft : f.testBit p = false ∧ t.testBit p = false := by
    rw [Nat.testBit_or, Bool.or_eq_false_iff] at nx
    exact nx
  have f2 := or2_lt hf hp
  have t2 := or2_lt ht hp
  have d1 : (f ||| 2 ^ p) &&& t = 0 := and_nil.mpr (fun i ⟨x, y⟩ => by
    rw [Nat.testBit_or, Nat.testBit_two_pow] at x
    by_cases u : p = i
    · subst u
      rw [nft.2] at y
      cases y
    · rw [decide_eq_false u, Bool.or_false] at x
      exact and_nil.mp dj i ⟨x, y⟩)
  have d2 : f &&& (t ||| 2 ^ p) = 0 := and_nil.mpr (fun i ⟨x, y⟩ => by
    rw [Nat.testBit_or, Nat.testBit_two_pow] at y
    by_cases u : p = i
    · subst u
      rw [nft.1] at x
      cases x
    · rw [decide_eq_false u, Bool.or_false] at y
      exact and_nil.mp dj i ⟨x, y⟩)
  unfold f_Mo_turn
  rw [gd_t (by simp only [shp s]), ss p (by omega), fa_or]
  rcases B with ⟨rfl, rfl, rfl⟩ | ⟨rfl, rfl, rfl⟩
  · rw [ss p (by omega), fa_or, hasThree_e (B := m ||| 2 ^ p) (a1 := 0) (a2 := 0) (a3 := 0) (a4 := 0) s g7 j hp f2 (if_pos rfl), bind_s]
    unfold tvv
    simp only [jn]
    cases cls p (m ||| 2 ^ p)
    · have eo : m ||| o ||| 2 ^ p = (m ||| 2 ^ p) ||| o := or_sw m o (2 ^ p)
      rw [if_pos b2i_f, gd_t (by simp only [shp s]), show (1 : Int32) - 1 = 0 by decide, eo, H (m ||| 2 ^ p) o 0 (Or.inr ⟨rfl, rfl, rfl⟩) f2 ht d1 (fun i => by
        simp only [Nat.testBit_or, Nat.testBit_two_pow]
        rw [show decide (p = i) = decide (i = p) from decide_eq_decide.mpr eq_comm]
        cases m.testBit i <;> cases o.testBit i <;> cases decide (i = p) <;> rfl), bind_s]
      rfl
    · rw [if_neg (show ¬ b2i true = 0 by decide)]
      rfl
  · have eb : nI (o ||| m ||| 2 ^ p) &&& ((nI o ||| jShl (0 : Int32) (nI p)) ^^^ (-1 : Int32)) = nI (m ||| 2 ^ p) := by
      rw [ss0 p (by omega), k0, fa_or, Nat.or_zero, an_I]
      congr 1
      apply Nat.eq_of_testBit_eq
      intro i
      have := and_nil.mp dj i
      rw [an_bit, Nat.testBit_or, Nat.testBit_or, Nat.testBit_or, Nat.testBit_two_pow]
      by_cases u : p = i
      · subst u
        rw [nft.1, nft.2]
        simp
      · rw [decide_eq_false u]
        revert this
        cases o.testBit i <;> cases m.testBit i <;> simp
    have ef : nI o ||| jShl (0 : Int32) (nI p) = nI o := by rw [ss0 p (by omega), k0, fa_or, Nat.or_zero]
    rw [ef] at eb ⊢
    rw [hasThree_e (B := m ||| 2 ^ p) (a1 := 0) (a2 := 0) (a3 := 0) (a4 := 0) s g7 j hp t2 (by rw [if_neg (by decide), eb]), bind_s]
    unfold tvv
    simp only [jn]
    cases cls p (m ||| 2 ^ p)
    · rw [if_pos b2i_f, gd_t (by simp only [shp s]), show (1 : Int32) - 0 = 1 by decide, Nat.or_assoc, H o (m ||| 2 ^ p) 1 (Or.inl ⟨rfl, rfl, rfl⟩) hf t2 d2 (fun i => by
        simp only [Nat.testBit_or, Nat.testBit_two_pow]
        rw [show decide (p = i) = decide (i = p) from decide_eq_decide.mpr eq_comm]
        cases m.testBit i <;> cases o.testBit i <;> cases decide (i = p) <;> rfl), bind_s]
      rfl
    · rw [if_neg (show ¬ b2i true = 0 by decide)]
      rfl
theorem Bo_or {f t m o : Nat} {so : Int32} (B : Bo f t m o so) : m ||| o = f ||| t := by
  rcases B with ⟨-, rfl, rfl⟩ | ⟨-, rfl, rfl⟩
  · rfl
  · exact Nat.or_comm _ _
def unc (P x : Nat) : Nat := fb_ct (fun p => !x.testBit p) P
theorem unc_dec {P x y p : Nat} (hp : p < P) (nx : x.testBit p = false) (h : ∀ i, y.testBit i = (x.testBit i || decide (i = p))) : unc P y + 1 = unc P x := by
  unfold unc
  have e := fb_ct_upd (fun p => !x.testBit p) false (i := p) (n := P) hp
  rw [nx] at e
  have e2 : fb_ct (fun p => !y.testBit p) P = fb_ct (fun k => if k = p then false else !x.testBit k) P := fb_ct_cong (fun k _ => by
    rw [h k]
    by_cases u : k = p
    · rw [if_pos u, decide_eq_true u, Bool.or_true]
      rfl
    · rw [if_neg u, decide_eq_false u, Bool.or_false])
  rw [e2]
  simpa using e
theorem Mo_value_e {g : Nat} (s : Shp h) (g4 : g ≤ 4) (j : Jga g h) (m1 : hI h 36 7 = nI g) : ∀ (l k f t m o : Nat) (so : Int32), l < k → f < 2 ^ c2 g → t < 2 ^ c2 g → f &&& t = 0 → Bo f t m o so → unc (c2 g) (f ||| t) ≤ l → G_Mo_value k 36 (nI f) (nI (f ||| t)) so h = some (gv (c2 g) l m o, h) := by
  have g7 : g ≤ 7 := by omega
  have c6 : c2 g ≤ 6 := c2_mono 4 (by decide) g g4
  have p6 : 2 ^ c2 g ≤ 2 ^ 6 := Nat.pow_le_pow_right (by decide) c6
  intro l
  induction l with
  | zero =>
    intro k f t m o so hk hf ht dj B hu
    obtain ⟨k, rfl⟩ : ∃ q, k = q + 1 := ⟨k - 1, by omega⟩
    have full : ∀ p, p < c2 g → (f ||| t).testBit p = true := fun p hp => by
      have q : (!(f ||| t).testBit p) = false := fb_ct_zero.mp (Nat.le_zero.mp hu) p hp
      cases e : (f ||| t).testBit p with
      | true => rfl
      | false =>
        rw [e] at q
        cases q
    have et := full_t hf ht dj full
    have eo : f ||| t = 2 ^ c2 g - 1 := by
      rw [et]
      exact (all_an hf).1
    show fb_Mo_value (G_Mo_value k) 36 (nI f) (nI (f ||| t)) so h = _
    unfold fb_Mo_value
    rw [gd_t (by simp only [shp s]), m1, Mo_allOf_n g7, bind_s, eo, if_pos rfl]
    rfl
  | succ l ih =>
    intro k f t m o so hk hf ht dj B hu
    obtain ⟨k, rfl⟩ : ∃ q, k = q + 1 := ⟨k - 1, by omega⟩
    have ol : f ||| t < 2 ^ c2 g := Nat.or_lt_two_pow hf ht
    show fb_Mo_value (G_Mo_value k) 36 (nI f) (nI (f ||| t)) so h = _
    unfold fb_Mo_value
    rw [gd_t (by simp only [shp s]), m1, Mo_allOf_n g7, bind_s, gv_s, Bo_or B]
    by_cases c : an (2 ^ c2 g - 1) (f ||| t) = 0
    · have full := unseen_0.mp c
      have et := full_t hf ht dj full
      have eo : f ||| t = 2 ^ c2 g - 1 := by
        rw [et]
        exact (all_an hf).1
      rw [if_pos (by rw [eo]), if_pos c]
    · have ne : ¬ nI (f ||| t) = nI (2 ^ c2 g - 1) := by
        rw [nI_eq (by omega) (by omega)]
        intro q
        apply c
        rw [q, unseen_0]
        intro p hp
        rw [Nat.testBit_two_pow_sub_one, decide_eq_true hp]
      rw [if_neg ne, if_neg c]
      have H3 := tvv_3 (c2 g) l m o
      have G2 := gbm_2 (u := fun p => !(f ||| t).testBit p) H3 (c2 g)
      have ge : gbm (fun p => !(f ||| t).testBit p) (tvv (c2 g) l m o) (-1) (c2 g) = gbm (fun p => !(f ||| t).testBit p) (tvv (c2 g) l m o) (-2) (c2 g) := by
        rcases G2 with ⟨a, -, -⟩ | ⟨-, b⟩
        · exfalso
          apply c
          rw [unseen_0]
          intro p hp
          have q : (!(f ||| t).testBit p) = false := a p hp
          cases e : (f ||| t).testBit p with
          | true => rfl
          | false =>
            rw [e] at q
            cases q
        · exact b.symm
      rw [ge]
      refine lpf (fun n p (v : Int32) => f_Mo_value_L20 (G_Mo_value k) 36 (nI f) (nI (f ||| t)) so n v p h (fun v16 v17 h18 => some (v16, h18))) (fun q => q = some (gbm (fun p => !(f ||| t).testBit p) (tvv (c2 g) l m o) (-2) (c2 g), h)) (fun p v => v = gbm (fun p => !(f ||| t).testBit p) (tvv (c2 g) l m o) (-2) p) (c2 g) (i := 0) (Nat.zero_le _) (by omega) rfl ?_ ?_
      · intro n p v hp e
        subst e
        refine Or.inr ⟨gbm (fun p => !(f ||| t).testBit p) (tvv (c2 g) l m o) (-2) (p + 1), ?_, rfl⟩
        have eb : gbm (fun p => !(f ||| t).testBit p) (tvv (c2 g) l m o) (-2) (p + 1) = if (!(f ||| t).testBit p) = true then jMax (gbm (fun p => !(f ||| t).testBit p) (tvv (c2 g) l m o) (-2) p) (tvv (c2 g) l m o p) else gbm (fun p => !(f ||| t).testBit p) (tvv (c2 g) l m o) (-2) p := rfl
        rw [eb]
        generalize gbm (fun p => !(f ||| t).testBit p) (tvv (c2 g) l m o) (-2) p = Bv
        show f_Mo_value_L20 (G_Mo_value k) 36 (nI f) (nI (f ||| t)) so (n + 1) Bv (nI p) h _ = _
        rw [f_Mo_value_L20, gd_t (by simp only [shp s]), m1, c2_n g g7, if_neg (nI_ge hp (by omega)), tb (show f ||| t < 2 ^ 31 by omega) (show p < 31 by omega)]
        simp only [jn]
        cases cb : (f ||| t).testBit p
        · have TU := Mo_turn_e (R0 := G_Mo_value k) (l := l) s g7 j hp hf ht dj cb B (fun f' t' so' B' hf' ht' dj' hb => ih k f' t' o (m ||| 2 ^ p) so' (by omega) hf' ht' dj' B' (by have := unc_dec hp cb hb; omega))
          rw [if_pos b2i_f, TU, bind_s, if_pos (show (!false) = true from rfl), nI_1]
          dsimp only
          have mxe : ∀ x y : Int32, (if x ≤ y then y else x) = jMax y x := fun x y => by
            unfold jMax
            by_cases q : x ≤ y
            · rw [if_pos q, if_neg (fun z => (fa_of_lt z).2.1 q)]
            · rw [if_neg q, if_pos (fa_of_nle q)]
          rw [mxe]
        · rw [if_neg (show ¬ b2i true = 0 by decide), if_neg (by decide), nI_1]
      · intro n v e
        subst e
        show f_Mo_value_L20 (G_Mo_value k) 36 (nI f) (nI (f ||| t)) so (n + 1) _ (nI (c2 g)) h _ = _
        rw [f_Mo_value_L20, gd_t (by simp only [shp s]), m1, c2_n g g7, if_pos (nI_le (Nat.le_refl _) (by omega))]
end P62
theorem unc_6 {g x : Nat} (g4 : g ≤ 4) : unc (c2 g) x ≤ 6 := Nat.le_trans (fb_ct_le _ _) (c2_mono 4 (by decide) g g4)
def gpr (u : Nat → Bool) (tv : Nat → Int32) (V : Int32) (P : Nat) : Int32 := if fa_first (fun p => u p && tv p == V) P < P then nI (fa_first (fun p => u p && tv p == V) P) else -1
section P62
variable {h : xH}
theorem Ga_value_e {g f t : Nat} (s : Shp h) (z : Jseat h) (g4 : g ≤ 4) (e1 : hI h 7 1 = nI g) (e2 : hI h 7 2 = nI f) (e3 : hI h 7 3 = nI t) (hf : f < 2 ^ c2 g) (ht : t < 2 ^ c2 g) : f_Ga_value 2 7 h = some (gv (c2 g) 6 f t, h) := by
  have W := Ma_worth_e s z (c2_mono 4 (by decide) g g4) 6 24 f t (by decide) (by decide) hf ht
  unfold f_Ga_value
  rw [gd_t (by simp only [shp s]), Ta_everyPair_n s z (by omega) e1, bind_s, e2, e3, show f_Ga_worth 2 (nI f) (nI t) (nI (2 ^ c2 g - 1)) (6 : Int32) h = _ from W, bind_s]
theorem Ga_pair_e {g f t : Nat} (s : Shp h) (z : Jseat h) (g4 : g ≤ 4) (e1 : hI h 7 1 = nI g) (e2 : hI h 7 2 = nI f) (e3 : hI h 7 3 = nI t) (hf : f < 2 ^ c2 g) (ht : t < 2 ^ c2 g) : f_Ga_pair 2 7 h = some (gpr (fun p => !(f ||| t).testBit p) (tvv (c2 g) 5 f t) (gv (c2 g) 6 f t) (c2 g), h) := by
  have c6 : c2 g ≤ 6 := c2_mono 4 (by decide) g g4
  have p6 : 2 ^ c2 g ≤ 2 ^ 6 := Nat.pow_le_pow_right (by decide) c6
  have ul : an (2 ^ c2 g - 1) (f ||| t) < 2 ^ c2 g := uns_lt (by omega)
  unfold f_Ga_pair
  rw [Ga_value_e s z g4 e1 e2 e3 hf ht, bind_s, gd_t (by simp only [shp s]), Ta_everyPair_n s z (by omega) e1, bind_s, gd_t (by simp only [shp s]), e2, e3, fa_or, an_I]
  generalize hV : gv (c2 g) 6 f t = V
  generalize hq : (fun p => (!(f ||| t).testBit p) && tvv (c2 g) 5 f t p == V) = q
  have hqk : ∀ p, q p = ((!(f ||| t).testBit p) && tvv (c2 g) 5 f t p == V) := fun p => by rw [← hq]
  have fin : gpr (fun p => !(f ||| t).testBit p) (tvv (c2 g) 5 f t) V (c2 g) = if fa_first q (c2 g) < c2 g then nI (fa_first q (c2 g)) else -1 := by
    unfold gpr
    rw [hq]
  rw [fin]
  refine lpf (fun n p (v : Unit) => f_Ga_pair_L26 2 7 V (nI (an (2 ^ c2 g - 1) (f ||| t))) n p h (fun v19 h20 => some ((-1 : Int32), h20))) (fun o => o = some (if fa_first q (c2 g) < c2 g then nI (fa_first q (c2 g)) else -1, h)) (fun p v => ∀ i, i < p → i < c2 g → q i = false) 6 (i := 0) (s := ()) (Nat.zero_le _) (by omega) (fun q hq => by omega) ?_ ?_
  · intro n p v hp P
    have tbb := tb (show an (2 ^ c2 g - 1) (f ||| t) < 2 ^ 31 by omega) (show p < 31 by omega)
    have E : f_Ga_pair_L26 2 7 V (nI (an (2 ^ c2 g - 1) (f ||| t))) (n + 1) (nI p) h (fun v19 h20 => some ((-1 : Int32), h20)) = if (decide (p < c2 g) && q p) = true then some (nI p, h) else f_Ga_pair_L26 2 7 V (nI (an (2 ^ c2 g - 1) (f ||| t))) n (nI (p + 1)) h (fun v19 h20 => some ((-1 : Int32), h20)) := by
      rw [f_Ga_pair_L26, if_neg (show ¬ (6 : Int32) ≤ nI p from nI_ge (b := 6) hp (by decide)), tbb, an_bit, Nat.testBit_two_pow_sub_one]
      simp only [jn]
      by_cases cp : p < c2 g
      · rw [decide_eq_true cp, Bool.true_and, Bool.true_and, hqk]
        cases cb : (f ||| t).testBit p
        · have TU := Ma_turn_e (R0 := G_Ga 24) (P := c2 g) (l := 5) (p := p) (m := f) (t := t) (E := 2 ^ c2 g - 1) s z (by omega) (Nat.lt_of_lt_of_le hf (Nat.pow_le_pow_right (by decide) (by omega))) (Ma_worth_e s z c6 5 24 t (f ||| 2 ^ p) (by decide) (by decide) ht (or2_lt hf cp))
          rw [if_neg (show ¬ b2i (!false) = 0 by decide), gd_t (by simp only [shp s]), Ta_everyPair_n s z (by omega) e1, bind_s, e2, e3, ss p (by omega), fa_or, show fo_Ga_worthOfTurn 2 (nI p) (nI (f ||| 2 ^ p)) (nI t) (nI (2 ^ c2 g - 1)) (6 : Int32) h = _ from TU, bind_s, nI_1]
          by_cases cv : tvv (c2 g) 5 f t p = V
          · rw [if_pos cv, if_pos (by rw [beq_iff_eq.mpr cv]; rfl)]
          · rw [if_neg cv, if_neg (by rw [beq_eq_false_iff_ne.mpr cv]; simp)]
        · rw [if_pos (show b2i (!true) = 0 from rfl), if_neg (by simp), nI_1]
      · rw [decide_eq_false cp, Bool.false_and, Bool.false_and, if_pos b2i_f, if_neg (by decide), nI_1]
    cases c : (decide (p < c2 g) && q p) with
    | true =>
      rw [c, if_pos rfl] at E
      rw [Bool.and_eq_true, decide_eq_true_eq] at c
      left
      show _ = some (if fa_first q (c2 g) < c2 g then nI (fa_first q (c2 g)) else -1, h)
      rw [E, first_eq c.2 (fun k hk => P k hk (by omega)) c.1, if_pos c.1]
    | false =>
      rw [c, if_neg (by decide)] at E
      refine Or.inr ⟨(), E, fun i hi' hi2 => ?_⟩
      rcases (by omega : i < p ∨ i = p) with u | u
      · exact P i u hi2
      · rw [u] at hi2 ⊢
        rw [decide_eq_true hi2, Bool.true_and] at c
        exact c
  · intro n v P
    rw [first_none (fun k hk => P k (by omega) hk), if_neg (by omega), f_Ga_pair_L26, if_pos (show (6 : Int32) ≤ nI 6 by decide)]
theorem Mo_pair_e {a1 V : Int32} {g f t : Nat} (s : Shp h) (g4 : g ≤ 4) (j : Jga g h) (m1 : hI h 36 7 = nI g) (m2 : hI h 36 8 = nI f) (m3 : hI h 36 9 = nI (f ||| t)) (hf : f < 2 ^ c2 g) (ht : t < 2 ^ c2 g) (dj : f &&& t = 0) : f_Mo_game_L50 36 a1 V fu (0 : Int32) h (fun v23 h24 => some ((-1 : Int32), h24)) = some (gpr (fun p => !(f ||| t).testBit p) (tvv (c2 g) 5 f t) V (c2 g), h) := by
  have c6 : c2 g ≤ 6 := c2_mono 4 (by decide) g g4
  have p6 : 2 ^ c2 g ≤ 2 ^ 6 := Nat.pow_le_pow_right (by decide) c6
  have ol : f ||| t < 2 ^ c2 g := Nat.or_lt_two_pow hf ht
  generalize hq : (fun p => (!(f ||| t).testBit p) && tvv (c2 g) 5 f t p == V) = q
  have hqk : ∀ p, q p = ((!(f ||| t).testBit p) && tvv (c2 g) 5 f t p == V) := fun p => by rw [← hq]
  have fin : gpr (fun p => !(f ||| t).testBit p) (tvv (c2 g) 5 f t) V (c2 g) = if fa_first q (c2 g) < c2 g then nI (fa_first q (c2 g)) else -1 := by
    unfold gpr
    rw [hq]
  rw [fin]
  refine lpf (fun n p (v : Unit) => f_Mo_game_L50 36 a1 V n p h (fun v23 h24 => some ((-1 : Int32), h24))) (fun o => o = some (if fa_first q (c2 g) < c2 g then nI (fa_first q (c2 g)) else -1, h)) (fun p v => ∀ i, i < p → q i = false) (c2 g) (i := 0) (s := ()) (Nat.zero_le _) (by omega) (fun q hq => by omega) ?_ ?_
  · intro n p v hp P
    have E : f_Mo_game_L50 36 a1 V (n + 1) (nI p) h (fun v23 h24 => some ((-1 : Int32), h24)) = if q p = true then some (nI p, h) else f_Mo_game_L50 36 a1 V n (nI (p + 1)) h (fun v23 h24 => some ((-1 : Int32), h24)) := by
      rw [f_Mo_game_L50, gd_t (by simp only [shp s]), m1, c2_n g (by omega), if_neg (nI_ge hp (by omega)), m2, m3, tb (show f ||| t < 2 ^ 31 by omega) (show p < 31 by omega), hqk]
      simp only [jn]
      cases cb : (f ||| t).testBit p
      · have TU := Mo_turn_e (R0 := G_Mo_value 24) (l := 5) s (by omega) j hp hf ht dj cb (Or.inl ⟨rfl, rfl, rfl⟩) (fun f' t' so' B' hf' ht' dj' hb => Mo_value_e s g4 j m1 5 24 f' t' t (f ||| 2 ^ p) so' (by decide) hf' ht' dj' B' (by have := unc_dec hp cb hb; have := unc_6 (x := f ||| t) g4; omega))
        rw [if_pos b2i_f, show fo_Mo_turn 36 (nI f) (nI (f ||| t)) (nI p) (1 : Int32) h = _ from TU, bind_s, nI_1]
        by_cases cv : tvv (c2 g) 5 f t p = V
        · rw [if_pos cv, if_pos (by rw [beq_iff_eq.mpr cv]; rfl)]
        · rw [if_neg cv, if_neg (by rw [beq_eq_false_iff_ne.mpr cv]; simp)]
      · rw [if_neg (show ¬ b2i true = 0 by decide), if_neg (by simp), nI_1]
    cases c : q p with
    | true =>
      rw [c, if_pos rfl] at E
      left
      show _ = some (if fa_first q (c2 g) < c2 g then nI (fa_first q (c2 g)) else -1, h)
      rw [E, first_eq c P hp, if_pos hp]
    | false =>
      rw [c, if_neg (by decide)] at E
      refine Or.inr ⟨(), E, fun i hi' => ?_⟩
      rcases (by omega : i < p ∨ i = p) with u | u
      · exact P i u
      · rw [u, c]
  · intro n v P
    rw [first_none P, if_neg (by omega), f_Mo_game_L50, gd_t (by simp only [shp s]), m1, c2_n g (by omega), if_pos (nI_le (Nat.le_refl _) (by omega))]
end P62
theorem Y_game : Sp_game Inv := by
  intro w h I
  obtain ⟨g, f, t, n, r, T, j⟩ := I
  have j0 := j
  obtain ⟨sh, hn, z, ⟨⟨g1, g7, hf, ht, hd⟩, e1, e2, e3, m1, m2, m3⟩, jk, jw, jp, js, jst, jx, jr⟩ := j0
  have f24 := lt24 g7 hf
  have t24 := lt24 g7 ht
  have f31 := lt3 f24
  have t31 := lt3 t24
  have s36 : hK h 36 = 11 := by simp only [shp sh]
  have ug : (nI g ≤ (4 : Int32)) = (g ≤ 4) := li_le (by omega) (by decide)
  cases cw : inr w 1 with
  | false =>
    refine ⟨-2, h, h, ?_, s36, ?_, ⟨g, f, t, n, r, T, j⟩⟩
    · simp only [f_Ma_game, Ma_isWithin_1, cw, bind_s, b2i_f, if_true]
    · simp only [f_Mo_game, Mo_in_1, cw, bind_s, b2i_f, if_true]
  | true =>
    by_cases g4 : g ≤ 4
    · obtain ⟨h2, b1, s2, x2, jg⟩ := Mo_gathers_e (J_M j) jst
      have j2 := J_ga j s2 x2
      have m1' := (x2.v hn 7 (by decide) rfl).trans m1
      have m2' := (x2.v hn 8 (by decide) rfl).trans m2
      have m3' := (x2.v hn 9 (by decide) rfl).trans m3
      have GV := Ga_value_e sh z g4 e1 e2 e3 hf ht
      have GP := Ga_pair_e sh z g4 e1 e2 e3 hf ht
      have MV : f_Mo_value 36 (nI f) (nI (f ||| t)) (1 : Int32) h2 = _ := Mo_value_e s2 g4 jg m1' 6 24 f t f t 1 (by decide) hf ht hd (Or.inl ⟨rfl, rfl, rfl⟩) (unc_6 g4)
      have MP := Mo_pair_e (a1 := w) (V := gv (c2 g) 6 f t) s2 g4 jg m1' m2' m3' hf ht hd
      generalize gpr (fun p => !(f ||| t).testBit p) (tvv (c2 g) 5 f t) (gv (c2 g) 6 f t) (c2 g) = X at *
      generalize gv (c2 g) 6 f t = V at *
      refine ⟨if w = 0 then V else X, h, h2, ?_, s36, ?_, ⟨g, f, t, n, r, T, j2⟩⟩
      · simp only [f_Ma_game, jn, Ma_isWithin_1, cw, bind_s, b2i_t, i10, if_false, gd, shp sh, if_true, e1, ug, if_pos g4, GV, GP]
        split
        · rfl
        · rfl
      · simp only [f_Mo_game, Mo_in_1, cw, bind_s, b2i_t, i10, if_false, gd, shp sh, if_true, m1, ug, if_pos g4, b1, shp s2, m2', m3', MV, MP]
        split
        · rfl
        · rfl
    · refine ⟨-3, h, h, ?_, s36, ?_, ⟨g, f, t, n, r, T, j⟩⟩
      · simp only [f_Ma_game, jn, Ma_isWithin_1, cw, bind_s, b2i_t, i10, if_false, gd, shp sh, if_true, e1, ug, if_neg g4]
      · simp only [f_Mo_game, Mo_in_1, cw, bind_s, b2i_t, i10, if_false, gd, shp sh, if_true, m1, ug, if_neg g4]

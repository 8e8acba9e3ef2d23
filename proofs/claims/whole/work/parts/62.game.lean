/-! the game -/
def In3 (x : Int32) : Prop := x = -1 ∨ x = 0 ∨ x = 1
theorem In3_neg {x : Int32} (h : In3 x) : In3 (-x) := by
  rcases h with rfl | rfl | rfl
  · exact Or.inr (Or.inr (by decide))
  · exact Or.inr (Or.inl (by decide))
  · exact Or.inl (by decide)
theorem In3_max {x y : Int32} (h : In3 x) (h2 : In3 y) : In3 (jMax x y) := by
  unfold jMax
  split
  · exact h2
  · exact h
def gbm (u : Nat → Bool) (tv : Nat → Int32) (b0 : Int32) : Nat → Int32
  | 0 => b0
  | p + 1 => if u p = true then jMax (gbm u tv b0 p) (tv p) else gbm u tv b0 p
theorem gbm_3 {u : Nat → Bool} {tv : Nat → Int32} (h : ∀ p, In3 (tv p)) : ∀ p, In3 (gbm u tv (-1) p)
  | 0 => Or.inl rfl
  | p + 1 => by
    unfold gbm
    split
    · exact In3_max (gbm_3 h p) (h p)
    · exact gbm_3 h p
theorem gbm_1 {u : Nat → Bool} {tv : Nat → Int32} (h : ∀ p, In3 (tv p)) {i : Nat} (e : gbm u tv (-1) i = 1) : ∀ m, gbm u tv (-1) (i + m) = 1
  | 0 => e
  | m + 1 => by
    show (if u (i + m) = true then jMax (gbm u tv (-1) (i + m)) (tv (i + m)) else gbm u tv (-1) (i + m)) = 1
    rw [gbm_1 h e m]
    split
    · rcases h (i + m) with q | q | q <;> rw [q] <;> decide
    · rfl
theorem gbm_2 {u : Nat → Bool} {tv : Nat → Int32} (h : ∀ p, In3 (tv p)) : ∀ p, ((∀ q, q < p → u q = false) ∧ gbm u tv (-2) p = -2 ∧ gbm u tv (-1) p = -1) ∨ ((∃ q, q < p ∧ u q = true) ∧ gbm u tv (-2) p = gbm u tv (-1) p)
  | 0 => Or.inl ⟨fun q hq => by omega, rfl, rfl⟩
  | p + 1 => by
    have e2 : ∀ b, gbm u tv b (p + 1) = if u p = true then jMax (gbm u tv b p) (tv p) else gbm u tv b p := fun b => rfl
    rw [e2, e2]
    rcases gbm_2 h p with ⟨a, b, c⟩ | ⟨⟨q, q1, q2⟩, b⟩
    · cases e : u p with
      | false =>
        left
        refine ⟨fun q hq => ?_, b, c⟩
        rcases (by omega : q < p ∨ q = p) with z | z
        · exact a q z
        · rw [z, e]
      | true =>
        right
        refine ⟨⟨p, by omega, e⟩, ?_⟩
        rw [if_pos rfl, if_pos rfl, b, c]
        rcases h p with q | q | q <;> rw [q] <;> decide
    · right
      refine ⟨⟨q, by omega, q2⟩, ?_⟩
      rw [b]
def gv (P : Nat) : Nat → Nat → Nat → Int32
  | 0, _, _ => 0
  | k + 1, m, t => if an (2 ^ P - 1) (m ||| t) = 0 then 0 else gbm (fun p => !(m ||| t).testBit p) (fun p => if cls p (m ||| 2 ^ p) = true then -1 else -(gv P k t (m ||| 2 ^ p))) (-1) P
def tvv (P k m t p : Nat) : Int32 := if cls p (m ||| 2 ^ p) = true then -1 else -(gv P k t (m ||| 2 ^ p))
theorem gv_3 (P : Nat) : ∀ k m t, In3 (gv P k m t)
  | 0, _, _ => Or.inr (Or.inl rfl)
  | k + 1, m, t => by
    unfold gv
    split
    · exact Or.inr (Or.inl rfl)
    · refine gbm_3 (fun p => ?_) P
      split
      · exact Or.inl rfl
      · exact In3_neg (gv_3 P k _ _)
theorem tvv_3 (P k m t p : Nat) : In3 (tvv P k m t p) := by
  unfold tvv
  split
  · exact Or.inl rfl
  · exact In3_neg (gv_3 P k _ _)
theorem gv_s (P k m t : Nat) : gv P (k + 1) m t = if an (2 ^ P - 1) (m ||| t) = 0 then 0 else gbm (fun p => !(m ||| t).testBit p) (tvv P k m t) (-1) P := rfl
theorem unseen_0 {P x : Nat} : an (2 ^ P - 1) x = 0 ↔ ∀ p, p < P → x.testBit p = true := by
  constructor
  · intro h p hp
    have := congrArg (fun y => y.testBit p) h
    simp only [an_bit, Nat.testBit_two_pow_sub_one, Nat.zero_testBit, decide_eq_true hp, Bool.true_and] at this
    simpa using this
  · intro h
    apply Nat.eq_of_testBit_eq
    intro p
    rw [an_bit, Nat.testBit_two_pow_sub_one, Nat.zero_testBit]
    by_cases hp : p < P
    · rw [h p hp]
      simp
    · rw [decide_eq_false hp]
      rfl
section P62
variable {h : xH}
theorem Ma_turn_e {R0 : Nat → Int32 → Int32 → Int32 → Int32 → xH → Option (Int32 × xH)} {P l p m t E : Nat} (s : Shp h) (z : Jseat h) (hp : p < 21) (hm : m < 2 ^ 21) (H : R0 2 (nI t) (nI (m ||| 2 ^ p)) (nI E) (nI l) h = some (gv P l t (m ||| 2 ^ p), h)) : f_Ga_worthOfTurn R0 2 (nI p) (nI (m ||| 2 ^ p)) (nI t) (nI E) (nI (l + 1)) h = some (tvv P l m t p, h) := by
  have o31 : m ||| 2 ^ p < 2 ^ 31 := Nat.lt_trans (or2_lt hm hp) (by decide)
  unfold f_Ga_worthOfTurn tvv
  rw [gd_t (by simp only [shp s]), closes_e s z hp o31, bind_s]
  simp only [jn]
  cases cls p (m ||| 2 ^ p)
  · rw [if_pos b2i_f, k1, li_sub (by omega), Nat.add_sub_cancel, H, bind_s]
    rfl
  · rw [if_neg (show ¬ b2i true = 0 by decide)]
    rfl
theorem Ma_worth_e {P : Nat} (s : Shp h) (z : Jseat h) (hP : P ≤ 6) : ∀ (l k m t : Nat), l < k → m < 2 ^ P → t < 2 ^ P → G_Ga k 2 (nI m) (nI t) (nI (2 ^ P - 1)) (nI l) h = some (gv P l m t, h) := by
  have p6 : 2 ^ P ≤ 2 ^ 6 := Nat.pow_le_pow_right (by decide) hP
  intro l
  induction l with
  | zero =>
    intro k m t hk hm ht
    obtain ⟨k, rfl⟩ : ∃ q, k = q + 1 := ⟨k - 1, by omega⟩
    show fb_Ga_worth (G_Ga k) 2 (nI m) (nI t) (nI (2 ^ P - 1)) (nI 0) h = _
    unfold fb_Ga_worth
    simp only [jn]
    split
    · rfl
    · rw [if_neg (show ¬ (0 : Int32) < nI 0 by decide)]
      rfl
  | succ l ih =>
    intro k m t hk hm ht
    obtain ⟨k, rfl⟩ : ∃ q, k = q + 1 := ⟨k - 1, by omega⟩
    show fb_Ga_worth (G_Ga k) 2 (nI m) (nI t) (nI (2 ^ P - 1)) (nI (l + 1)) h = _
    unfold fb_Ga_worth
    have ul : an (2 ^ P - 1) (m ||| t) < 2 ^ P := an_lt (by omega)
    rw [fa_or, an_I, gv_s]
    simp only [jn]
    by_cases c : an (2 ^ P - 1) (m ||| t) = 0
    · rw [if_pos (show nI (an (2 ^ P - 1) (m ||| t)) = 0 by rw [c]; rfl), if_pos c]
    · rw [if_neg (nI_ne0 (by omega) (by omega)), if_neg c]
      by_cases l0 : 0 < l + 1
      · rw [if_pos (show (0 : Int32) < nI (l + 1) from sorry)]
        sorry
      · omega
end P62

/-! the class's rule asked: threes, pairs, guests; the standing of the threes -/
def Cg (T : Nat → Nat → (Nat → Int32) → Int32) : Prop := ∀ t w nm nm2, (∀ x, x < 6 → nm x = nm2 x) → T t w nm = T t w nm2
def RdC (g r : Nat) (T : Nat → Nat → (Nat → Int32) → Int32) (h : xH) : Prop := Shp h ∧ 51 ≤ hN h ∧ Jseat h ∧ (g ≤ 7 ∧ hI h 7 1 = nI g) ∧ Cg T ∧ Tcl r (T r) h ∧ hR h 8 5 = hR h 21 r
def RdM (g r : Nat) (T : Nat → Nat → (Nat → Int32) → Int32) (h : xH) : Prop := Shp h ∧ 51 ≤ hN h ∧ (g ≤ 7 ∧ hI h 36 7 = nI g) ∧ Cg T ∧ Tmo r (T r) h ∧ r < 6 ∧ hI h 36 4 = nI r
theorem RdC_fr {D : Nat → Nat → Bool} {g r : Nat} {T : Nat → Nat → (Nat → Int32) → Int32} {h h' : xH} (R : RdC g r T h) (s : Shp h') (x : Fr D h h') (d1 : ∀ p k, 3 ≤ p → p ≤ 6 → D p k = true) (d2 : D 7 1 = true) (d3 : D 21 r = true) (d4 : ∀ p k, 33 ≤ p → p ≤ 35 → D p k = true) (d5 : ∀ p k, 51 ≤ p → D p k = true) (d6 : D 8 5 = true) : RdC g r T h' := by
  obtain ⟨a1, a2, a3, ⟨a4, a5⟩, a6, a7, a8⟩ := R
  exact ⟨s, Nat.le_trans a2 x.1, J_seat a2 x d1 a3, ⟨a4, (((x.2 7 (by omega)).2.2 1 d2).1).trans a5⟩, a6, J_tcl a2 x d3 d4 d5 a7, (((x.2 8 (by omega)).2.2 5 d6).2).trans (a8.trans (((x.2 21 (by omega)).2.2 r d3).2).symm)⟩
theorem RdM_fr {D : Nat → Nat → Bool} {g r : Nat} {T : Nat → Nat → (Nat → Int32) → Int32} {h h' : xH} (R : RdM g r T h) (s : Shp h') (x : Fr D h h') (d1 : D 36 7 = true) (d2 : D 36 4 = true) (d3 : D 38 r = true) (d4 : ∀ k, D 37 k = true) : RdM g r T h' := by
  obtain ⟨a1, a2, ⟨a4, a5⟩, a6, a7, a8, a9⟩ := R
  exact ⟨s, Nat.le_trans a2 x.1, ⟨a4, (((x.2 36 (by omega)).2.2 7 d1).1).trans a5⟩, a6, J_tmo a2 x d3 (fun i _ => d4 _) a7, a8, (((x.2 36 (by omega)).2.2 4 d2).1).trans a9⟩
/-- nothing but what an answer of the rule writes -/
theorem dEv_hi {p k : Nat} (h : p ≠ 9) (h2 : p ≠ 10) (h3 : p ≠ 8) : dEv p k = true := by
  unfold dEv
  rw [beq_eq_false_iff_ne.mpr h, beq_eq_false_iff_ne.mpr h2, beq_eq_false_iff_ne.mpr h3]
  rfl
theorem RdC_ev {g r : Nat} {T : Nat → Nat → (Nat → Int32) → Int32} {h h' : xH} (R : RdC g r T h) (s : Shp h') (x : Fr dEv h h') : RdC g r T h' := RdC_fr R s x (fun p k _ _ => dEv_hi (by omega) (by omega) (by omega)) rfl rfl (fun p k _ _ => dEv_hi (by omega) (by omega) (by omega)) (fun p k _ => dEv_hi (by omega) (by omega) (by omega)) rfl
theorem dEv_nm {p k : Nat} (h : dEv p k = true) : dNm p k = true := by
  unfold dEv at h
  unfold dNm
  cases e : p == 9 with
  | false => rfl
  | true => rw [e] at h; exact h
theorem dEv_ru {p k : Nat} (h : dEv p k = true) : dRu p k = true := by
  unfold dEv at h
  unfold dRu
  cases e : p == 9 with
  | false => rw [e] at h; exact h
  | true =>
    have : p = 9 := eq_of_beq e
    subst this
    rfl
def bnd (v : Int32) : Int32 := jMax 0 (jMin 99 v)
def kb (f i : Nat) : Nat → Nat
  | 0 => 0
  | k + 1 => if (k != i && f.testBit (prs i k)) = true then kb f i k ||| 2 ^ k else kb f i k
theorem kb_lt (f i : Nat) : ∀ k, kb f i k < 2 ^ k
  | 0 => Nat.one_pos
  | k + 1 => by
    have := kb_lt f i k
    unfold kb
    split
    · exact Nat.or_lt_two_pow (Nat.lt_trans this (Nat.pow_lt_pow_succ (by decide))) (Nat.pow_lt_pow_succ (by decide))
    · exact Nat.lt_trans this (Nat.pow_lt_pow_succ (by decide))
theorem kb_bit (f i j : Nat) : ∀ k, (kb f i k).testBit j = (decide (j < k) && (j != i && f.testBit (prs i j)))
  | 0 => by
    show Nat.testBit 0 j = _
    rw [Nat.zero_testBit, decide_eq_false (by omega)]
    rfl
  | k + 1 => by
    unfold kb
    have ih := kb_bit f i j k
    by_cases e : (k != i && f.testBit (prs i k)) = true
    · rw [if_pos e, Nat.testBit_or, ih, Nat.testBit_two_pow]
      by_cases hk : k = j
      · subst hk
        rw [e]
        simp
      · rw [decide_eq_false hk, Bool.or_false]
        congr 1
        exact decide_eq_decide.mpr ⟨fun _ => by omega, fun _ => by omega⟩
    · rw [if_neg e, ih]
      by_cases hk : k = j
      · subst hk
        rw [Bool.not_eq_true] at e
        rw [e]
        simp
      · congr 1
        exact decide_eq_decide.mpr ⟨fun _ => by omega, fun _ => by omega⟩
def deg (g f i : Nat) : Nat := fb_ct (fun j => j != i && f.testBit (prs i j)) g
theorem kb_deg {g f i : Nat} (hg : g ≤ 7) : pcn 31 (kb f i g) = deg g f i := by
  rw [pcn_lt (kb_lt f i g) (by omega)]
  exact fb_ct_cong (fun k hk => by rw [kb_bit, decide_eq_true hk, Bool.true_and])
def cst (T : Nat → Nat → (Nat → Int32) → Int32) (g f t r p : Nat) : Int32 := bnd (T r 1 (nm6 (nI (lo p)) (nI (hi p)) 0 (if lkv f t p = 1 then 1 else 0) (if lkv f t p = 2 then 0 else 1) (nI g)))
def joyv (T : Nat → Nat → (Nat → Int32) → Int32) (g f r i : Nat) : Int32 := bnd (T r 2 (nm6 (nI i) 0 0 (nI (deg g f i)) 0 (nI g)))
def dWg (p k : Nat) : Bool := !(p == 9 || p == 10 || (p == 8 && k == 4) || p == 12 || p == 13 || (p == 11 && k == 3))
theorem dWg_hi {p k : Nat} (h : p < 8 ∨ 13 < p) : dWg p k = true := by
  unfold dWg
  rw [beq_eq_false_iff_ne.mpr (show p ≠ 9 by omega), beq_eq_false_iff_ne.mpr (show p ≠ 10 by omega), beq_eq_false_iff_ne.mpr (show p ≠ 8 by omega), beq_eq_false_iff_ne.mpr (show p ≠ 12 by omega), beq_eq_false_iff_ne.mpr (show p ≠ 13 by omega), beq_eq_false_iff_ne.mpr (show p ≠ 11 by omega)]
  rfl
theorem dWg_ev {p k : Nat} (h : dWg p k = true) : dEv p k = true := by
  unfold dWg at h
  unfold dEv
  revert h
  cases p == 9 <;> cases p == 10 <;> cases (p == 8 && k == 4) <;> simp
theorem RdC_wg {g r : Nat} {T : Nat → Nat → (Nat → Int32) → Int32} {h h' : xH} (R : RdC g r T h) (s : Shp h') (x : Fr dWg h h') : RdC g r T h' := RdC_fr R s x (fun p k _ _ => dWg_hi (by omega)) rfl rfl (fun p k _ _ => dWg_hi (by omega)) (fun p k _ => dWg_hi (by omega)) rfl
theorem set3 : ∀ k, k < 7 → ∀ j, j < k → ∀ i, i < j → (jShl (1 : Int32) (nI i) ||| jShl (1 : Int32) (nI j)) ||| jShl (1 : Int32) (nI k) = nI (st3 (i, j, k)) := by decide +kernel
theorem st3_inj2 : ∀ t, t < 35 → ∀ t2, t2 < 35 → st3 (tcn t) = st3 (tcn t2) → t = t2 := by decide +kernel
theorem st3_inj {i j k i2 j2 k2 : Nat} (hk : k < 7) (hj : j < k) (hi : i < j) (hk2 : k2 < 7) (hj2 : j2 < k2) (hi2 : i2 < j2) (e : st3 (i, j, k) = st3 (i2, j2, k2)) : i = i2 ∧ j = j2 ∧ k = k2 := by
  obtain ⟨t, a, b⟩ := tc_at (g := 7) (by decide) hk hj hi
  obtain ⟨t2, a2, b2⟩ := tc_at (g := 7) (by decide) hk2 hj2 hi2
  rw [← b, ← b2] at e
  have := st3_inj2 t a t2 a2 e
  subst this
  rw [b] at b2
  injection b2 with x y
  injection y with y z
  exact ⟨x, y, z⟩
section P40
variable {h : xH} {g r : Nat} {T : Nat → Nat → (Nat → Int32) → Int32}
theorem Ru_ask (R : RdC g r T h) (a b c d e : Int32) {w : Nat} (hw : w < 3) : ∃ h1 h', f_Ru_name 8 a b c d e h = some ((), h1) ∧ hK h1 8 = 2 ∧ f_Ru_answer 8 (nI w) h1 = some (T r w (nm6 a b c d e (nI g)), h') ∧ Shp h' ∧ Fr dEv h h' := by
  obtain ⟨a1, a2, a3, ⟨a4, a5⟩, a6, a7, a8⟩ := R
  obtain ⟨h1, b1, b2, b3, b4⟩ := Ru_name_e a1 a b c d e
  have d9 : ∀ p k, p ≠ 9 → dNm p k = true := fun p k hp => by
    unfold dNm
    rw [beq_eq_false_iff_ne.mpr hp]
    rfl
  obtain ⟨h2, c1, c2, c3⟩ := Ru_answer_e b2 (Nat.le_trans a2 b3.1) (J_tcl a2 b3 rfl (fun p k _ _ => d9 p k (by omega)) (fun p k _ => d9 p k (by omega)) a7) ((((b3.2 8 (by omega)).2.2 5 rfl).2).trans (a8.trans (((b3.2 21 (by omega)).2.2 r rfl).2).symm)) hw
  refine ⟨h1, h2, b1, (shp b2).2.2.2.2.2.2.2.1, ?_, c2, (b3.mono (fun p k => dEv_nm)).trans (c3.mono (fun p k => dEv_ru))⟩
  rw [c1, a6 r w (hI h1 9) (nm6 a b c d e (nI g)) (fun x hx => by rw [b4 x hx, a5])]
theorem Ru_counts_e (R : RdC g r T h) (a b c d : Int32) : ∃ h', f_Ru_counts 8 a b c d h = some (b2i (T r 0 (nm6 a b c d 3 (nI g)) != 0), h') ∧ Shp h' ∧ Fr dEv h h' := by
  obtain ⟨h1, h', e1, e2, e3, e4, e5⟩ := Ru_ask R a b c d 3 (w := 0) (by decide)
  refine ⟨h', ?_, e4, e5⟩
  simp only [f_Ru_counts, gd, shp R.1, if_true, e1, bind_s, e2, k0, e3]
  generalize T r 0 (nm6 a b c d 3 (nI g)) = v
  show some (nb (if v = nI 0 then nI 0 else nI 1), h') = some (b2i (v != nI 0), h')
  by_cases hv : v = nI 0
  · rw [if_pos hv, hv, knb0, show (nI 0 != nI 0) = false by decide]
    rfl
  · rw [if_neg hv, show (v != nI 0) = true from bne_iff_ne.mpr hv, knb1]
    rfl
theorem Ta_knownBy_e (s : Shp h) (hg : g ≤ 7) (eg : hI h 7 1 = nI g) {f : Nat} (hf : f < 2 ^ 31) (ef : hI h 7 2 = nI f) {i : Nat} (hi : i < 7) : f_Ta_knownBy 7 (nI i) h = some (nI (kb f i g), h) := by
  unfold f_Ta_knownBy
  refine lpf (fun n k (v : Int32) => f_Ta_knownBy_L4 7 (nI i) n v k h _) (fun o => o = _) (fun k v => v = nI (kb f i k)) g (Nat.zero_le g) (by omega) rfl ?_ ?_
  · intro n k v hk e
    subst e
    refine Or.inr ⟨_, ?_, rfl⟩
    simp only [f_Ta_knownBy_L4, gd, jn, shp s, if_true]
    rw [eg, if_neg (nI_ge hk (by omega))]
    have ek : kb f i (k + 1) = if (k != i && f.testBit (prs i k)) = true then kb f i k ||| 2 ^ k else kb f i k := rfl
    rw [ek]
    by_cases c : k = i
    · rw [if_pos (by rw [c]), if_neg (by rw [c]; simp), nI_1]
    · rw [if_neg (by rw [nI_eq (by omega) (by omega)]; exact c), Se_pairOf_n hi (by omega)]
      have hp : prs i k < 31 := by
        have := prs_lt 7 (by decide) i hi k (by omega) (fun x => c x.symm)
        have := c2_le 7 (by decide)
        omega
      simp only [bind_s, ef, tb hf hp, b2i_1]
      rw [show (k != i) = true from bne_iff_ne.mpr c, Bool.true_and]
      cases f.testBit (prs i k)
      · simp only [Bool.false_eq_true, if_false, nI_1]
      · simp only [if_true, nI_1, ss k (by omega), fa_or]
  · intro n v e
    subst e
    simp only [f_Ta_knownBy_L4, gd, shp s, if_true]
    rw [eg, if_pos (nI_le (Nat.le_refl _) (by omega))]
theorem lohi : ∀ p, p < 21 → lo p < hi p ∧ hi p < 7 ∧ pr (lo p) (hi p) = p ∧ prs (lo p) (hi p) = p := by decide +kernel
theorem Ru_costs_e (R : RdC g r T h) {f t : Nat} (hf : f < 2 ^ 31) (ht : t < 2 ^ 31) (ef : hI h 7 2 = nI f) (es : hI h 7 3 = nI t) {p : Nat} (hp : p < 21) : ∃ h', f_Ru_costs 8 (nI p) h = some (cst T g f t r p, h') ∧ Shp h' ∧ Fr dEv h h' := by
  have lk := Ta_look_n R.1 hf ht ef es (show p < 31 by omega)
  have hl : lkv f t p < 3 := by unfold lkv; split <;> (try split) <;> decide
  obtain ⟨h1, h', e1, e2, e3, e4, e5⟩ := Ru_ask R (nI (lo p)) (nI (hi p)) 0 (if lkv f t p = 1 then 1 else 0) (if lkv f t p = 2 then 0 else 1) (w := 1) (by decide)
  refine ⟨h', ?_, e4, e5⟩
  have u1 : (if nI (lkv f t p) = (1 : Int32) then (1 : Int32) else 0) = if lkv f t p = 1 then 1 else 0 := by
    rcases (by omega : lkv f t p = 0 ∨ lkv f t p = 1 ∨ lkv f t p = 2) with e | e | e <;> rw [e] <;> decide
  have u2 : (if nI (lkv f t p) = (2 : Int32) then (0 : Int32) else 1) = if lkv f t p = 2 then 0 else 1 := by
    rcases (by omega : lkv f t p = 0 ∨ lkv f t p = 1 ∨ lkv f t p = 2) with e | e | e <;> rw [e] <;> decide
  simp only [f_Ru_costs, gd, shp R.1, if_true, lk, bind_s, Se_lower_e R.1 R.2.2.1 hp, Se_higher_e R.1 R.2.2.1 hp, u1, u2, e1, e2]
  rw [show (1 : Int32) = nI 1 from rfl] at *
  rw [e3]
  rfl
theorem Ru_joy_e (R : RdC g r T h) {f : Nat} (hf : f < 2 ^ 31) (ef : hI h 7 2 = nI f) {i : Nat} (hi : i < 7) : ∃ h', f_Ru_joy 8 (nI i) h = some (joyv T g f r i, h') ∧ Shp h' ∧ Fr dEv h h' := by
  have hg := R.2.2.2.1.1
  obtain ⟨h1, h', e1, e2, e3, e4, e5⟩ := Ru_ask R (nI i) 0 0 (nI (deg g f i)) 0 (w := 2) (by decide)
  refine ⟨h', ?_, e4, e5⟩
  have kl := kb_lt f i g
  have kl2 : kb f i g < 2 ^ 24 := Nat.lt_of_lt_of_le kl (Nat.pow_le_pow_right (by decide) (by omega))
  simp only [f_Ru_joy, gd, shp R.1, if_true, Ta_knownBy_e R.1 hg R.2.2.2.1.2 hf ef hi, bind_s, In_bitCount_e kl2, kb_deg hg, e1, e2]
  rw [show (2 : Int32) = nI 2 from rfl, e3]
  rfl
end P40

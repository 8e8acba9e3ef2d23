/-! the threes in their two orders -/
theorem ct_list {α : Type} (p : α → Bool) (d : α) : ∀ L : List α, fb_ct (fun t => p (L.getD t d)) L.length = L.countP p
  | [] => rfl
  | a :: L => by
    rw [List.length_cons, Nat.add_comm, fb_ct_split, List.countP_cons, ← ct_list p d L, Nat.add_comm]
    congr 1
    · refine fb_ct_cong (fun k _ => ?_)
      rw [Nat.add_comm 1 k]
      rfl
    · show 0 + (if p a = true then 1 else 0) = _
      omega
def tmn (g t : Nat) : Nat × Nat × Nat := (tm g).getD t (0, 0, 0)
theorem tm_len : ∀ g, g ≤ 7 → (tm g).length = c3 g ∧ (tc.take (c3 g)).length = c3 g := by decide +kernel
theorem tm_perm : ∀ g, g ≤ 7 → ((tc.take (c3 g)).isPerm (tm g)) = true := by decide +kernel
theorem ct_perm {g : Nat} (hg : g ≤ 7) (p : Nat × Nat × Nat → Bool) : fb_ct (fun t => p (tcn t)) (c3 g) = fb_ct (fun t => p (tmn g t)) (c3 g) := by
  have e1 := ct_list p (0, 0, 0) (tc.take (c3 g))
  have e2 := ct_list p (0, 0, 0) (tm g)
  rw [(tm_len g hg).2] at e1
  rw [(tm_len g hg).1] at e2
  have e3 : fb_ct (fun t => p (tcn t)) (c3 g) = fb_ct (fun t => p ((tc.take (c3 g)).getD t (0, 0, 0))) (c3 g) := fb_ct_cong (fun k hk => by
    unfold tcn
    rw [List.getD_eq_getElem?_getD, List.getD_eq_getElem?_getD, List.getElem?_take_of_lt hk])
  rw [e3, e1, List.Perm.countP_eq p (List.isPerm_iff.mp (tm_perm g hg)), ← e2]
  rfl
/-- each three of g guests, and no other, in both orders -/
theorem tm_in : ∀ g, g ≤ 7 → ∀ t, t < c3 g → (tmn g t).1 < (tmn g t).2.1 ∧ (tmn g t).2.1 < (tmn g t).2.2 ∧ (tmn g t).2.2 < g := by decide +kernel
theorem tc_in : ∀ g, g ≤ 7 → ∀ t, t < c3 g → (tcn t).1 < (tcn t).2.1 ∧ (tcn t).2.1 < (tcn t).2.2 ∧ (tcn t).2.2 < g := by decide +kernel
theorem wi_st : ∀ k, k < 7 → ∀ j, j < k → ∀ i, i < j → wi (st3 (i, j, k)) = pm3 (i, j, k) ∧ st3 (i, j, k) < 128 ∧ pm3 (i, j, k) < 2 ^ 21 ∧ pm3 (i, j, k) ≠ 0 := by decide +kernel
theorem tm_at2 : ∀ g, g ≤ 7 → ∀ k, k < g → ∀ j, j < k → ∀ i, i < j → (List.range (c3 g)).any (fun t => tmn g t == (i, j, k)) = true := by decide +kernel
theorem tm_at {g i j k : Nat} (hg : g ≤ 7) (hk : k < g) (hj : j < k) (hi : i < j) : ∃ t, t < c3 g ∧ tmn g t = (i, j, k) := by
  obtain ⟨t, h1, h2⟩ := List.any_eq_true.mp (tm_at2 g hg k hk j hj i hi)
  exact ⟨t, List.mem_range.mp h1, eq_of_beq h2⟩
theorem tc_at2 : ∀ g, g ≤ 7 → ∀ k, k < g → ∀ j, j < k → ∀ i, i < j → (List.range (c3 g)).any (fun t => tcn t == (i, j, k)) = true := by decide +kernel
theorem tc_at {g i j k : Nat} (hg : g ≤ 7) (hk : k < g) (hj : j < k) (hi : i < j) : ∃ t, t < c3 g ∧ tcn t = (i, j, k) := by
  obtain ⟨t, h1, h2⟩ := List.any_eq_true.mp (tc_at2 g hg k hk j hj i hi)
  exact ⟨t, List.mem_range.mp h1, eq_of_beq h2⟩
theorem wi_tm {g t : Nat} (hg : g ≤ 7) (ht : t < c3 g) : wi (st3 (tmn g t)) = pm3 (tmn g t) ∧ st3 (tmn g t) < 128 ∧ pm3 (tmn g t) < 2 ^ 21 ∧ pm3 (tmn g t) ≠ 0 := by
  obtain ⟨a, b, c⟩ := tm_in g hg t ht
  exact wi_st _ (by omega) _ b _ a
/-- the threes as the reference has gathered them -/
def Jga (g : Nat) (h : xH) : Prop := hI h 36 32 = nI (c3 g) ∧ ∀ t, t < c3 g → hI h 42 t = nI (pm3 (tmn g t)) ∧ hI h 43 t = nI (wh3 (tmn g t)) ∧ hI h 44 t = hI h 12 (st3 (tmn g t)) ∧ hI h 45 t = hI h 13 (st3 (tmn g t))
theorem Jga_fr {D : Nat → Nat → Bool} {h h' : xH} {g : Nat} (n : 51 ≤ hN h) (x : Fr D h h') (d0 : D 36 32 = true) (d1 : ∀ k, D 42 k = true ∧ D 43 k = true ∧ D 44 k = true ∧ D 45 k = true) (d2 : ∀ k, D 12 k = true ∧ D 13 k = true) (j : Jga g h) : Jga g h' := ⟨(((x.2 36 (by omega)).2.2 32 d0).1).trans j.1, fun t ht => by
  obtain ⟨a1, a2, a3, a4⟩ := j.2 t ht
  exact ⟨(((x.2 42 (by omega)).2.2 t (d1 t).1).1).trans a1, (((x.2 43 (by omega)).2.2 t (d1 t).2.1).1).trans a2, (((x.2 44 (by omega)).2.2 t (d1 t).2.2.1).1).trans (a3.trans (((x.2 12 (by omega)).2.2 _ (d2 _).1).1).symm), (((x.2 45 (by omega)).2.2 t (d1 t).2.2.2).1).trans (a4.trans (((x.2 13 (by omega)).2.2 _ (d2 _).2).1).symm)⟩⟩
def hmt (c d : Nat → Int32) (g f s : Nat) : Nat := fb_ct (fun t => sdn c d (st3 (tmn g t)) f s) (c3 g)
theorem hmy_t {g : Nat} (hg : g ≤ 7) (c d : Nat → Int32) (f s : Nat) : hmy c d (c3 g) f s = hmt c d g f s := ct_perm hg (fun t => sdn c d (st3 t) f s)
section P37
variable {h : xH}
/-- what sortOf says, in general -/
def sov (m o l : Nat) (a b : Int32) : Int32 := if (o &&& m == m && a != nI 0) = true then nI 1 else if (o &&& m == 0 && (l &&& m == m) && b != nI 0) = true then nI 0 else -1
theorem Mo_sortOf_e (s : Shp h) {t m o l : Nat} (ht : t < 35) (em : hI h 42 t = nI m) (hm : m < 2 ^ 31) (ho : o < 2 ^ 31) (hl : l < 2 ^ 31) : f_Mo_sortOf 36 (nI t) (nI o) (nI l) h = some (sov m o l (hI h 44 t) (hI h 45 t), h) := by
  simp only [f_Mo_sortOf, jn, gd, hp, if_true, bind_s, shp s, k0, k1, k2, k3, k4, k5, k6, k7, k8, k9, k10, k13, k20, k21, k22, k34, k35, k40, k45, k63, k99, k100, k128, k159, k160, k255, k256, k10000]
  simp (disch := omega) only [Nat.not_lt_zero, Nat.zero_le, kneg, li_le, li_lt, li_eq, li_cl, if_false, if_true, or_false, or_self, false_or, not_false_eq_true, not_true_eq_false, Nat.not_le.mpr ht, em, and_eqI]
  have e : (nI o &&& nI m = nI 0) = ((o &&& m == 0) = true) := by
    rw [fa_and, li_eq (Nat.lt_of_le_of_lt Nat.and_le_left ho) (by decide)]
    simp
  simp only [e]
  unfold sov
  by_cases x1 : (o &&& m == m) = true
  · by_cases x2 : hI h 44 t = nI 0
    · by_cases x3 : (o &&& m == 0) = true
      · by_cases x4 : (l &&& m == m) = true
        · by_cases x5 : hI h 45 t = nI 0
          · simp [x1, x2, x3, x4, x5, k1]
          · simp [x1, x2, x3, x4, x5, k1]
        · simp [x1, x2, x3, x4, k1]
      · simp [x1, x2, x3, k1]
    · simp [x1, x2, k1]
  · by_cases x3 : (o &&& m == 0) = true
    · by_cases x4 : (l &&& m == m) = true
      · by_cases x5 : hI h 45 t = nI 0
        · simp [x1, x3, x4, x5, k1]
        · simp [x1, x3, x4, x5, k1]
      · simp [x1, x3, x4, k1]
    · simp [x1, x3, k1]
theorem sov_m1 {m o t : Nat} {a b : Int32} (hm : m ≠ 0) (d : o &&& t = 0) : (sov m o (o ||| t) a b = (-1 : Int32)) = (((o &&& m == m && a != nI 0) || (t &&& m == m && b != nI 0)) = false) := by
  unfold sov
  have e : (o &&& m == 0 && ((o ||| t) &&& m == m)) = (t &&& m == m) := by
    by_cases y : t &&& m = m
    · have y1 : o &&& m = 0 := and_nil.mpr fun i ⟨p, q⟩ => and_nil.mp d i ⟨p, and_full.mp y i q⟩
      have y2 : (o ||| t) &&& m = m := and_full.mpr fun i q => by rw [Nat.testBit_or, and_full.mp y i q, Bool.or_true]
      simp [y, y1, y2]
    · by_cases y1 : o &&& m = 0
      · have y2 : ¬ (o ||| t) &&& m = m := fun z => y (and_full.mpr fun i q => by
          have := and_full.mp z i q
          rw [Nat.testBit_or] at this
          cases u : o.testBit i with
          | true => exact absurd ⟨u, q⟩ (and_nil.mp y1 i)
          | false =>
            rw [u] at this
            exact this)
        rw [beq_eq_false_iff_ne.mpr y, beq_eq_false_iff_ne.mpr y2, Bool.and_false]
      · rw [beq_eq_false_iff_ne.mpr y, beq_eq_false_iff_ne.mpr y1, Bool.false_and]
  rw [e]
  have n1 : (nI 1 = (-1 : Int32)) = False := by decide
  have n0 : (nI 0 = (-1 : Int32)) = False := by decide
  by_cases x1 : (o &&& m == m && a != nI 0) = true
  · rw [if_pos x1, n1, x1]
    simp
  · rw [if_neg x1]
    by_cases x2 : (t &&& m == m && b != nI 0) = true
    · rw [if_pos x2, n0, x2]
      simp
    · rw [if_neg x2]
      simp only [Bool.not_eq_true] at x1 x2
      rw [x1, x2]
      simp
theorem sov_tm {g t o u : Nat} (hg : g ≤ 7) (ht : t < c3 g) (j : Jga g h) (d : o &&& u = 0) : (sov (pm3 (tmn g t)) o (o ||| u) (hI h 44 t) (hI h 45 t) = (-1 : Int32)) = (sdn (hI h 12) (hI h 13) (st3 (tmn g t)) o u = false) := by
  obtain ⟨w1, w2, w3, w4⟩ := wi_tm hg ht
  rw [sov_m1 w4 d, (j.2 t ht).2.2.1, (j.2 t ht).2.2.2]
  unfold sdn
  rw [w1]
theorem Mo_allThrees_e (s : Shp h) {g o u : Nat} (hg : g ≤ 7) (j : Jga g h) (ho : o < 2 ^ 31) (hu : u < 2 ^ 31) (d : o &&& u = 0) : f_Mo_allThrees 36 (nI o) (nI (o ||| u)) h = some (nI (hmt (hI h 12) (hI h 13) g o u), h) := by
  have hc := c3_le g hg
  unfold f_Mo_allThrees
  refine lpf (fun n i (v : Int32) => f_Mo_allThrees_L5 36 (nI o) (nI (o ||| u)) n v i h _) (fun x => x = _) (fun i v => v = nI (fb_ct (fun t => sdn (hI h 12) (hI h 13) (st3 (tmn g t)) o u) i)) (c3 g) (Nat.zero_le _) (by omega) rfl ?_ ?_
  · intro n i v hi e
    subst e
    refine Or.inr ⟨_, ?_, rfl⟩
    simp only [f_Mo_allThrees_L5, gd, shp s, if_true]
    rw [j.1, if_neg (nI_ge hi (by omega)), Mo_sortOf_e s (by omega) (j.2 i hi).1 (by have := (wi_tm hg hi).2.2.1; omega) ho (Nat.or_lt_two_pow ho hu)]
    simp only [bind_s, sov_tm hg hi j d, nI_1]
    rw [fb_ct_succ]
    cases sdn (hI h 12) (hI h 13) (st3 (tmn g i)) o u
    · simp only [if_true, Bool.false_eq_true, if_false, Nat.add_zero]
      rw [k0, nI_add, Nat.add_zero]
    · simp only [Bool.true_eq_false, if_false, if_true]
      rw [nI_1]
  · intro n v e
    subst e
    simp only [f_Mo_allThrees_L5, gd, shp s, if_true]
    rw [j.1, if_pos (nI_le (Nat.le_refl _) (by omega))]
    rfl
end P37

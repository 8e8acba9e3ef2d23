/-! guests: joy, threes of one, who is in most, who is sent home -/
theorem wi_pm : ∀ s, s < 128 → ∀ k, k < 7 → ∀ j, j < k → ∀ i, i < j → (wi s &&& pm3 (i, j, k) == pm3 (i, j, k)) = (s.testBit i && (s.testBit j && s.testBit k)) := by decide +kernel
theorem wh_d : ∀ k, k < 7 → ∀ j, j < k → ∀ i, i < j → nI (wh3 (i, j, k)) / (100 : Int32) = nI i ∧ jRem (nI (wh3 (i, j, k)) / (10 : Int32)) (10 : Int32) = nI j ∧ jRem (nI (wh3 (i, j, k))) (10 : Int32) = nI k := by decide +kernel
theorem bnd_w (v : Int32) : (if (0 : Int32) ≤ v then if v ≤ (99 : Int32) then v else 99 else 0) = bnd v := by
  unfold bnd jMin jMax
  by_cases a : v < (99 : Int32)
  · have a2 := (fa_of_lt a).1
    rw [if_pos a, if_pos a2]
    by_cases b : (0 : Int32) < v
    · rw [if_pos (fa_of_lt b).1, if_pos b]
    · rw [if_neg b]
      by_cases c : (0 : Int32) ≤ v
      · rw [if_pos c]
        rw [fa_eq]
        rw [fa_lt] at b
        rw [fa_le] at c
        omega
      · rw [if_neg c]
  · rw [if_neg a, if_pos (show (0 : Int32) < 99 by decide)]
    have c : (99 : Int32) ≤ v := fa_of_nlt a
    have c0 : (0 : Int32) ≤ v := by
      rw [fa_le] at *
      have e1 : (99 : Int32).toInt = 99 := rfl
      have e2 : (0 : Int32).toInt = 0 := rfl
      omega
    rw [if_pos c0]
    by_cases d : v ≤ (99 : Int32)
    · rw [if_pos d]
      rw [fa_eq]
      rw [fa_le] at c d
      omega
    · rw [if_neg d]
/-- whether guest i is one of three -/
def isT (i : Nat) (t : Nat × Nat × Nat) : Bool := t.1 == i || (t.2.1 == i || t.2.2 == i)
/-- the threes all of whose guests are of s -/
theorem sdn_in {c d : Nat → Int32} {g f t s : Nat} (g7 : g ≤ 7) (hs : s < 128) {k : Nat} (hk : k < c3 g) : sdn c d (st3 (tmn g k)) (f &&& wi s) (t &&& wi s) = (sdn c d (st3 (tmn g k)) f t && (s.testBit (tmn g k).1 && (s.testBit (tmn g k).2.1 && s.testBit (tmn g k).2.2))) := by
  obtain ⟨t1, t2, t3⟩ := tm_in g g7 k hk
  have e := wi_pm s hs _ (by omega) _ t2 _ t1
  unfold sdn
  rw [(wi_tm g7 hk).1]
  rw [show ((tmn g k).1, (tmn g k).2.1, (tmn g k).2.2) = tmn g k from rfl] at e
  rw [← e]
  have q : ∀ x : Nat, (x &&& wi s &&& pm3 (tmn g k) == pm3 (tmn g k)) = ((x &&& pm3 (tmn g k) == pm3 (tmn g k)) && (wi s &&& pm3 (tmn g k) == pm3 (tmn g k))) := by
    intro x
    rw [Bool.eq_iff_iff, Bool.and_eq_true, beq_iff_eq, beq_iff_eq, beq_iff_eq]
    rw [and_full, and_full, and_full]
    constructor
    · intro z
      exact ⟨fun i hi => by have := z i hi; rw [Nat.testBit_and, Bool.and_eq_true] at this; exact this.1, fun i hi => by have := z i hi; rw [Nat.testBit_and, Bool.and_eq_true] at this; exact this.2⟩
    · rintro ⟨z1, z2⟩ i hi
      rw [Nat.testBit_and, z1 i hi, z2 i hi]
      rfl
  rw [q, q]
  cases (wi s &&& pm3 (tmn g k) == pm3 (tmn g k)) <;> simp
theorem ev_bit {g gone i : Nat} : (an (2 ^ g - 1) gone).testBit i = (decide (i < g) && !gone.testBit i) := by
  rw [an_bit, Nat.testBit_two_pow_sub_one]
section P50
variable {h : xH} {g f t n r : Nat} {T : Nat → Nat → (Nat → Int32) → Int32}
theorem Mo_joy_e (R : RdM g r T h) (hf : f < 2 ^ 31) (m2 : hI h 36 8 = nI f) {i : Nat} (hi : i < 7) : ∃ h', f_Mo_joy 36 (nI i) h = some (joyv T g f r i, h') ∧ Shp h' ∧ Fr dSy h h' := by
  obtain ⟨h', a1, a2, a3⟩ := Mo_says_e R (w := 2) (by decide) (nI i) 0 0 (nI (deg g f i)) 0
  refine ⟨h', ?_, a2, a3⟩
  simp only [f_Mo_joy, gd, shp R.1, if_true, Mo_degree_e R.1 R.2.2.1.1 R.2.2.1.2 hf m2 hi, bind_s]
  rw [show f_Mo_says 36 (2 : Int32) (nI i) 0 0 (nI (deg g f i)) 0 h = _ from a1]
  simp only [bind_s, f_Mo_within, bnd_w]
  rfl
theorem ct_sub_or {p q : Nat → Bool} {n : Nat} : fb_ct p n = fb_ct (fun k => p k && q k) n + fb_ct (fun k => p k && !q k) n := by
  rw [← fb_ct_or]
  · exact fb_ct_cong (fun k _ => by cases p k <;> cases q k <;> rfl)
  · intro k _
    cases p k <;> cases q k <;> simp
def t1n (c d : Nat → Int32) (g f t i : Nat) : Nat := fb_ct (fun k => isT i (tmn g k) && sdn c d (st3 (tmn g k)) f t) (c3 g)
theorem t1n_le (c d : Nat → Int32) (g f t i : Nat) : t1n c d g f t i ≤ c3 g := fb_ct_le _ _
theorem an_g {g i : Nat} (hi : i < g) (g7 : g ≤ 7) : nI (2 ^ g - 1) &&& (jShl (1 : Int32) (nI i) ^^^ (-1 : Int32)) = nI (an (2 ^ g - 1) (2 ^ i)) := by rw [ss i (by omega), an_I]
theorem an_128 {g x : Nat} (g7 : g ≤ 7) : an (2 ^ g - 1) x < 128 := by
  have := (ev2_n g g7).2
  exact an_lt (n := 7) this
theorem Ma_threesOf_e (s : Shp h) (z : Jseat h) (g7 : g ≤ 7) (e1 : hI h 7 1 = nI g) (e2 : hI h 7 2 = nI f) (e3 : hI h 7 3 = nI t) (hf : f < 2 ^ 31) (ht : t < 2 ^ 31) (e4 : hI h 11 3 = nI (c3 g)) {i : Nat} (hi : i < g) : f_Ma_threesOf 1 (nI i) h = some (nI (t1n (hI h 12) (hI h 13) g f t i), h) := by
  have o := an_128 (x := 2 ^ i) g7
  simp only [f_Ma_threesOf, f_Ma_threesNow, gd, shp s, if_true, Ta_everyone_n s g7 e1, bind_s, an_g hi g7, Se_within_e s z o, e2, e3, hm_e s z g7 e4 hf ht, fa_and, hm_e s z g7 e4 (Nat.lt_of_le_of_lt Nat.and_le_left hf) (Nat.lt_of_le_of_lt Nat.and_le_left ht)]
  have E : hmt (hI h 12) (hI h 13) g f t = t1n (hI h 12) (hI h 13) g f t i + hmt (hI h 12) (hI h 13) g (f &&& wi (an (2 ^ g - 1) (2 ^ i))) (t &&& wi (an (2 ^ g - 1) (2 ^ i))) := by
    unfold hmt t1n
    rw [ct_sub_or (p := fun k => sdn (hI h 12) (hI h 13) (st3 (tmn g k)) f t) (q := fun k => isT i (tmn g k))]
    congr 1
    · exact fb_ct_cong (fun k _ => Bool.and_comm _ _)
    · refine fb_ct_cong (fun k hk => ?_)
      obtain ⟨t1, t2, t3⟩ := tm_in g g7 k hk
      rw [sdn_in g7 o hk, ev_bit, ev_bit, ev_bit, decide_eq_true (show (tmn g k).1 < g by omega), decide_eq_true (show (tmn g k).2.1 < g by omega), decide_eq_true t3, Nat.testBit_two_pow, Nat.testBit_two_pow, Nat.testBit_two_pow]
      unfold isT
      congr 1
      have qq : ∀ x : Nat, (x == i) = decide (i = x) := fun x => by
        rw [Bool.eq_iff_iff, beq_iff_eq, decide_eq_true_eq]
        exact eq_comm
      rw [qq, qq, qq]
      cases decide (i = (tmn g k).1) <;> cases decide (i = (tmn g k).2.1) <;> cases decide (i = (tmn g k).2.2) <;> rfl
  rw [li_sub (by omega), E, Nat.add_sub_cancel]
theorem isIn_e {i a b c : Nat} (hi : i < 7) (hc : c < 7) (hb : b < c) (ha : a < b) : f_Mo_isIn (nI (wh3 (a, b, c))) (nI i) h = some (b2i (isT i (a, b, c)), h) := by
  obtain ⟨w1, w2, w3⟩ := wh_d c hc b hb a ha
  simp only [f_Mo_isIn, jn, w1, w2, w3, li_eq (show a < 2 ^ 31 by omega) (show i < 2 ^ 31 by omega), li_eq (show b < 2 ^ 31 by omega) (show i < 2 ^ 31 by omega), li_eq (show c < 2 ^ 31 by omega) (show i < 2 ^ 31 by omega)]
  unfold isT
  by_cases q1 : a = i
  · rw [if_pos q1, nb1, beq_iff_eq.mpr q1]
    rfl
  · rw [if_neg q1, beq_eq_false_iff_ne.mpr q1]
    by_cases q2 : b = i
    · rw [if_pos q2, nb1, beq_iff_eq.mpr q2]
      rfl
    · rw [if_neg q2, beq_eq_false_iff_ne.mpr q2]
      by_cases q3 : c = i
      · rw [if_pos q3, nb1, beq_iff_eq.mpr q3]
        rfl
      · rw [if_neg q3, beq_eq_false_iff_ne.mpr q3, nb0]
        rfl
theorem Mo_threesOf_e (s : Shp h) (g7 : g ≤ 7) (j : Jga g h) (hf : f < 2 ^ 31) (ht : t < 2 ^ 31) (dj : f &&& t = 0) (m2 : hI h 36 8 = nI f) (m3 : hI h 36 9 = nI (f ||| t)) {i : Nat} (hi : i < g) : f_Mo_threesOf 36 (nI i) h = some (nI (t1n (hI h 12) (hI h 13) g f t i), h) := by
  have hc := c3_le g g7
  unfold f_Mo_threesOf t1n
  refine lpf (fun n k (v : Int32) => f_Mo_threesOf_L4 36 (nI i) n v k h (fun v20 v21 h22 => some (v20, h22))) (fun o => o = _) (fun k v => v = nI (fb_ct (fun k => isT i (tmn g k) && sdn (hI h 12) (hI h 13) (st3 (tmn g k)) f t) k)) (c3 g) (i := 0) (Nat.zero_le _) (by omega) rfl ?_ ?_
  · intro n k v hk e
    subst e
    obtain ⟨t1, t2, t3⟩ := tm_in g g7 k hk
    have hin : ¬ (nI k < 0 ∨ 35 ≤ k) := nin (by omega) (by omega)
    refine Or.inr ⟨_, ?_, rfl⟩
    rw [f_Mo_threesOf_L4, fb_ct_succ]
    simp only [jn, gd, shp s, if_true, j.1]
    rw [if_neg (nI_ge hk (by omega))]
    simp only [nI_clamp (show k < 2 ^ 31 by omega), if_pos hin, (j.2 k hk).2.1, isIn_e (h := h) (show i < 7 by omega) (show (tmn g k).2.2 < 7 by omega) t2 t1, bind_s, m2, m3, sort_e s g7 j hk hf ht dj, shp s, if_true]
    rw [show ((tmn g k).1, (tmn g k).2.1, (tmn g k).2.2) = tmn g k from rfl, show sdn (hI h 12) (hI h 13) (st3 (tmn g k)) f t = (frN (hI h 12) (st3 (tmn g k)) f || frN (hI h 13) (st3 (tmn g k)) t) from rfl]
    cases isT i (tmn g k) with
    | false =>
      simp only [b2i_f, if_true, Bool.false_and, Bool.false_eq_true, if_false, nI_1]
      rw [k0, nI_add]
    | true =>
      simp only [b2i_t, i10, if_false, Bool.true_and]
      cases frN (hI h 12) (st3 (tmn g k)) f with
      | true =>
        simp only [if_true, if_neg (show ¬ nI 1 = (-1 : Int32) by decide), Bool.true_or, nI_1]
      | false =>
        cases frN (hI h 13) (st3 (tmn g k)) t with
        | true => simp only [if_true, Bool.false_eq_true, if_false, if_neg (show ¬ nI 0 = (-1 : Int32) by decide), Bool.false_or, nI_1]
        | false =>
          simp only [if_true, Bool.false_eq_true, if_false, Bool.or_self, nI_1]
          rw [k0, nI_add]
  · intro n v e
    subst e
    simp only [f_Mo_threesOf_L4, gd, shp s, if_true, j.1]
    rw [if_pos (nI_le (Nat.le_refl _) (by omega))]
end P50
theorem Y_guest : Sp_guest Inv := by
  intro i w h I
  obtain ⟨g, f, t, n, r, T, j⟩ := I
  have j0 := j
  obtain ⟨sh, hn, z, ⟨⟨g1, g7, hf, ht, hd⟩, e1, e2, e3, m1, m2, m3⟩, jk, jw, jp, js, jst, jx, jr⟩ := j0
  have f24 := lt24 g7 hf
  have t24 := lt24 g7 ht
  have f31 := lt3 f24
  have t31 := lt3 t24
  have s36 : hK h 36 = 11 := by simp only [shp sh]
  have MG := Mo_isGuest_n sh g1 g7 m1
  by_cases c : inr i (g - 1) = true ∧ inr w 2 = true
  · obtain ⟨ci, cw⟩ := c
    obtain ⟨a, ha, rfl⟩ := inr_ex (by omega) ci
    obtain ⟨y, hy, rfl⟩ := inr_ex (by decide) cw
    rcases (by omega : y = 0 ∨ y = 1 ∨ y = 2) with rfl | rfl | rfl
    · obtain ⟨x, x1, x2⟩ := Ma_deg_e sh g7 e1 f31 e2 (show a < 7 by omega)
      refine ⟨nI (deg g f a), h, h, ?_, s36, ?_, ⟨g, f, t, n, r, T, j⟩⟩
      · simp only [f_Ma_guest, jn, gd, shp sh, if_true, Ma_isGuest_n sh g1 g7 e1, ci, bind_s, b2i_t, i10, if_false, Ma_isWithin_2, cw, if_pos (show nI 0 = (0 : Int32) from rfl), x1, x2]
      · simp only [f_Mo_guest, jn, gd, shp sh, if_true, MG, ci, bind_s, b2i_t, i10, if_false, Mo_in_2, cw, if_pos (show nI 0 = (0 : Int32) from rfl), Mo_degree_e sh g7 m1 f31 m2 (show a < 7 by omega)]
    · obtain ⟨h2, b1, s2, x2, jg⟩ := Mo_gathers_e (J_M j) jst
      have j2 := J_ga j s2 x2
      have MT := Mo_threesOf_e s2 g7 jg f31 t31 hd ((x2.v hn 8 (by decide) rfl).trans m2) ((x2.v hn 9 (by decide) rfl).trans m3) (show a < g by omega)
      rw [show hI h2 12 = hI h 12 from funext fun k => x2.v hn k (by decide) rfl, show hI h2 13 = hI h 13 from funext fun k => x2.v hn k (by decide) rfl] at MT
      refine ⟨_, h, h2, (by
        simp only [f_Ma_guest, jn, gd, shp sh, if_true, Ma_isGuest_n sh g1 g7 e1, ci, bind_s, b2i_t, i10, if_false, Ma_isWithin_2, cw, if_neg (show ¬ nI 1 = (0 : Int32) by decide), if_pos (show nI 1 = (1 : Int32) from rfl), Ma_threesOf_e sh z g7 e1 e2 e3 f31 t31 jst.1 (show a < g by omega)]
        rfl), s36, ?_, ⟨g, f, t, n, r, T, j2⟩⟩
      simp only [f_Mo_guest, jn, gd, shp sh, if_true, MG, ci, bind_s, b2i_t, i10, if_false, Mo_in_2, cw, if_neg (show ¬ nI 1 = (0 : Int32) by decide), if_neg (show ¬ nI 1 = (2 : Int32) by decide), b1, shp s2, MT]
    · obtain ⟨h1, a1, a2, a3⟩ := Ru_joy_e (J_C j) f31 e2 (show a < 7 by omega)
      have j1 := J_ev j a2 a3
      have n51 := Nat.le_trans hn a3.1
      obtain ⟨h2, b1, b2, b3⟩ := Mo_joy_e (J_M j1) f31 ((a3.v hn 8 (by decide) rfl).trans m2) (show a < 7 by omega)
      have MG1 := Mo_isGuest_n a2 g1 g7 ((a3.v hn 7 (by decide) rfl).trans m1)
      refine ⟨joyv T g f r a, h1, h2, ?_, by simp only [shp a2], ?_, ⟨g, f, t, n, r, T, J_sy j1 b2 b3⟩⟩
      · simp only [f_Ma_guest, jn, gd, shp sh, if_true, Ma_isGuest_n sh g1 g7 e1, ci, bind_s, b2i_t, i10, if_false, Ma_isWithin_2, cw, if_neg (show ¬ nI 2 = (0 : Int32) by decide), if_neg (show ¬ nI 2 = (1 : Int32) by decide), a1]
      · simp only [f_Mo_guest, jn, gd, shp a2, if_true, MG1, ci, bind_s, b2i_t, i10, if_false, Mo_in_2, cw, if_neg (show ¬ nI 2 = (0 : Int32) by decide), if_pos (show nI 2 = (2 : Int32) from rfl), b1]
  · refine ⟨-2, h, h, ?_, s36, ?_, ⟨g, f, t, n, r, T, j⟩⟩
    · simp only [f_Ma_guest, jn, gd, shp sh, if_true, Ma_isGuest_n sh g1 g7 e1, bind_s, Ma_isWithin_2]
      cases ci : inr i (g - 1) with
      | false => simp only [b2i_f, if_true]
      | true =>
        cases cw : inr w 2 with
        | false => simp only [b2i_f, b2i_t, i10, if_false, if_true]
        | true => exact absurd ⟨ci, cw⟩ c
    · simp only [f_Mo_guest, jn, gd, shp sh, if_true, MG, bind_s, Mo_in_2]
      cases ci : inr i (g - 1) with
      | false => simp only [b2i_f, if_true]
      | true =>
        cases cw : inr w 2 with
        | false => simp only [b2i_f, b2i_t, i10, if_false, if_true]
        | true => exact absurd ⟨ci, cw⟩ c
/-- who is in most: found and how many, before guest i -/
def mst (q : Nat → Nat) : Nat → Int32 × Int32
  | 0 => (-1, 0)
  | i + 1 => (if nI (q i) ≤ (mst q i).2 then (mst q i).1 else nI i, if nI (q i) ≤ (mst q i).2 then (mst q i).2 else nI (q i))
theorem Y_most : Sp_most Inv := by
  intro h I
  obtain ⟨g, f, t, n, r, T, j⟩ := I
  have j0 := j
  obtain ⟨sh, hn, z, ⟨⟨g1, g7, hf, ht, hd⟩, e1, e2, e3, m1, m2, m3⟩, jk, jw, jp, js, jst, jx, jr⟩ := j0
  have f24 := lt24 g7 hf
  have t24 := lt24 g7 ht
  have f31 := lt3 f24
  have t31 := lt3 t24
  have s36 : hK h 36 = 11 := by simp only [shp sh]
  obtain ⟨h2, b1, s2, x2, jg⟩ := Mo_gathers_e (J_M j) jst
  have j2 := J_ga j s2 x2
  refine ⟨(mst (t1n (hI h 12) (hI h 13) g f t) g).1, h, h2, ?_, s36, ?_, ⟨g, f, t, n, r, T, j2⟩⟩
  · unfold f_Ma_most
    refine lpf (fun n i (v : Int32 × Int32) => f_Ma_most_L6 1 n v.1 v.2 i h (fun v10 v11 v12 h13 => some (v10, h13))) (fun o => o = _) (fun i v => v = mst (t1n (hI h 12) (hI h 13) g f t) i) g (i := 0) (s := (-1, 0)) (Nat.zero_le _) (by omega) rfl ?_ ?_
    · intro n i v hi e
      subst e
      refine Or.inr ⟨_, ?_, rfl⟩
      rw [f_Ma_most_L6]
      simp only [gd, shp sh, if_true, e1]
      rw [if_neg (nI_ge hi (by omega)), Ma_threesOf_e sh z g7 e1 e2 e3 f31 t31 jst.1 hi, bind_s, nI_1]
      rfl
    · intro n v e
      subst e
      rw [f_Ma_most_L6]
      simp only [gd, shp sh, if_true, e1]
      rw [if_pos (nI_le (Nat.le_refl _) (by omega))]
  · have m1' := (x2.v hn 7 (by decide) rfl).trans m1
    have MT := fun (a : Nat) (ha : a < g) => Mo_threesOf_e s2 g7 jg f31 t31 hd ((x2.v hn 8 (by decide) rfl).trans m2) ((x2.v hn 9 (by decide) rfl).trans m3) ha
    rw [show hI h2 12 = hI h 12 from funext fun k => x2.v hn k (by decide) rfl, show hI h2 13 = hI h 13 from funext fun k => x2.v hn k (by decide) rfl] at MT
    show f_Mo_most 36 h = _
    simp only [f_Mo_most, gd, shp sh, if_true, b1, bind_s]
    refine lpf (fun n i (v : Int32 × Int32) => f_Mo_most_L10 36 n v.1 v.2 i h2 (fun v12 v13 v14 h15 => some (v12, h15))) (fun o => o = _) (fun i v => v = mst (t1n (hI h 12) (hI h 13) g f t) i) g (i := 0) (s := (-1, 0)) (Nat.zero_le _) (by omega) rfl ?_ ?_
    · intro n i v hi e
      subst e
      refine Or.inr ⟨_, ?_, rfl⟩
      rw [f_Mo_most_L10]
      simp only [gd, shp s2, if_true, m1']
      rw [if_neg (nI_ge hi (by omega)), MT i hi, bind_s, nI_1]
      rfl
    · intro n v e
      subst e
      rw [f_Mo_most_L10]
      simp only [gd, shp s2, if_true, m1']
      rw [if_pos (nI_le (Nat.le_refl _) (by omega))]

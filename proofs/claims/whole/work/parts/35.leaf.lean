theorem shp {h : xH} (s : Shp h) : hK h 1 = 10 ∧ hK h 2 = 3 ∧ hK h 3 = 12 ∧ hK h 4 = 12 ∧ hK h 5 = 12 ∧ hK h 6 = 12 ∧ hK h 7 = 6 ∧ hK h 8 = 2 ∧ hK h 9 = 12 ∧ hK h 10 = 12 ∧ hK h 11 = 5 ∧ hK h 12 = 13 ∧ hK h 13 = 13 ∧ hK h 14 = 0 ∧ hK h 15 = 12 ∧ hK h 16 = 9 ∧ hK h 17 = 1 ∧ hK h 18 = 12 ∧ hK h 19 = 12 ∧ hK h 20 = 12 ∧ hK h 21 = 14 ∧ hK h 22 = 15 ∧ hK h 23 = 16 ∧ hK h 24 = 4 ∧ hK h 25 = 12 ∧ hK h 26 = 4 ∧ hK h 27 = 12 ∧ hK h 28 = 4 ∧ hK h 29 = 12 ∧ hK h 30 = 4 ∧ hK h 31 = 12 ∧ hK h 32 = 6 ∧ hK h 36 = 11 ∧ hK h 37 = 12 ∧ hK h 38 = 12 ∧ hK h 39 = 12 ∧ hK h 40 = 12 ∧ hK h 41 = 12 ∧ hK h 42 = 12 ∧ hK h 43 = 12 ∧ hK h 44 = 13 ∧ hK h 45 = 13 ∧ hK h 46 = 12 ∧ hK h 47 = 13 ∧ hK h 48 = 12 ∧ hK h 49 = 12 ∧ hK h 50 = 12 ∧ hL h 3 = 128 ∧ hL h 4 = 21 ∧ hL h 5 = 21 ∧ hL h 6 = 35 ∧ hL h 9 = 6 ∧ hL h 10 = 40 ∧ hL h 12 = 128 ∧ hL h 13 = 128 ∧ hL h 15 = 21 ∧ hL h 18 = 160 ∧ hL h 19 = 160 ∧ hL h 20 = 3 ∧ hL h 21 = 6 ∧ hL h 22 = 5 ∧ hL h 23 = 4 ∧ hL h 25 = 40 ∧ hL h 27 = 40 ∧ hL h 29 = 40 ∧ hL h 31 = 40 ∧ hL h 37 = 960 ∧ hL h 38 = 6 ∧ hL h 39 = 160 ∧ hL h 40 = 5 ∧ hL h 41 = 5 ∧ hL h 42 = 35 ∧ hL h 43 = 35 ∧ hL h 44 = 35 ∧ hL h 45 = 35 ∧ hL h 46 = 21 ∧ hL h 47 = 4 ∧ hL h 48 = 4 ∧ hL h 49 = 4 ∧ hL h 50 = 160 ∧ hR h 1 0 = 2 ∧ hR h 1 1 = 7 ∧ hR h 1 2 = 8 ∧ hR h 1 3 = 11 ∧ hR h 1 4 = 14 ∧ hR h 1 5 = 16 ∧ hR h 1 6 = 17 ∧ hR h 1 7 = 21 ∧ hR h 1 8 = 22 ∧ hR h 1 9 = 23 ∧ hR h 1 10 = 32 ∧ hR h 2 0 = 3 ∧ hR h 2 1 = 4 ∧ hR h 2 2 = 5 ∧ hR h 2 3 = 6 ∧ hR h 7 0 = 2 ∧ hR h 8 0 = 2 ∧ hR h 8 1 = 7 ∧ hR h 8 2 = 9 ∧ hR h 8 3 = 10 ∧ hR h 11 0 = 2 ∧ hR h 11 1 = 12 ∧ hR h 11 2 = 13 ∧ hR h 14 0 = 2 ∧ hR h 14 1 = 11 ∧ hR h 14 2 = 15 ∧ hR h 16 0 = 2 ∧ hR h 16 1 = 11 ∧ hR h 17 0 = 18 ∧ hR h 17 6 = 19 ∧ hR h 17 8 = 20 ∧ hR h 23 0 = 24 ∧ hR h 23 1 = 26 ∧ hR h 23 2 = 28 ∧ hR h 23 3 = 30 ∧ hR h 24 2 = 25 ∧ hR h 26 2 = 27 ∧ hR h 28 2 = 29 ∧ hR h 30 2 = 31 ∧ hR h 32 0 = 2 ∧ hR h 36 1 = 37 ∧ hR h 36 2 = 38 ∧ hR h 36 5 = 39 ∧ hR h 36 10 = 40 ∧ hR h 36 11 = 41 ∧ hR h 36 28 = 42 ∧ hR h 36 29 = 43 ∧ hR h 36 30 = 44 ∧ hR h 36 31 = 45 ∧ hR h 36 33 = 46 ∧ hR h 36 41 = 47 ∧ hR h 36 42 = 48 ∧ hR h 36 43 = 49 ∧ hR h 36 44 = 50 := s
/-! literals as numbers -/
theorem k0 : (0 : Int32) = nI 0 := rfl
theorem k1 : (1 : Int32) = nI 1 := rfl
theorem k2 : (2 : Int32) = nI 2 := rfl
theorem k3 : (3 : Int32) = nI 3 := rfl
theorem k4 : (4 : Int32) = nI 4 := rfl
theorem k5 : (5 : Int32) = nI 5 := rfl
theorem k6 : (6 : Int32) = nI 6 := rfl
theorem k7 : (7 : Int32) = nI 7 := rfl
theorem k8 : (8 : Int32) = nI 8 := rfl
theorem k9 : (9 : Int32) = nI 9 := rfl
theorem k10 : (10 : Int32) = nI 10 := rfl
theorem k13 : (13 : Int32) = nI 13 := rfl
theorem k20 : (20 : Int32) = nI 20 := rfl
theorem k21 : (21 : Int32) = nI 21 := rfl
theorem k22 : (22 : Int32) = nI 22 := rfl
theorem k34 : (34 : Int32) = nI 34 := rfl
theorem k35 : (35 : Int32) = nI 35 := rfl
theorem k40 : (40 : Int32) = nI 40 := rfl
theorem k45 : (45 : Int32) = nI 45 := rfl
theorem k63 : (63 : Int32) = nI 63 := rfl
theorem k99 : (99 : Int32) = nI 99 := rfl
theorem k100 : (100 : Int32) = nI 100 := rfl
theorem k128 : (128 : Int32) = nI 128 := rfl
theorem k159 : (159 : Int32) = nI 159 := rfl
theorem k160 : (160 : Int32) = nI 160 := rfl
theorem k255 : (255 : Int32) = nI 255 := rfl
theorem k256 : (256 : Int32) = nI 256 := rfl
theorem k10000 : (10000 : Int32) = nI 10000 := rfl
theorem kb0 {b : Bool} : (b2i b = nI 0) = (b = false) := by cases b <;> decide
theorem kb1 {b : Bool} : (b2i b = nI 1) = (b = true) := by cases b <;> decide
theorem knb0 : nb (nI 0) = nI 0 := by decide
theorem knb1 : nb (nI 1) = nI 1 := by decide
theorem kbt : b2i true = nI 1 := rfl
theorem kbf : b2i false = nI 0 := rfl
theorem knbb {b : Bool} : nb (b2i b) = b2i b := by cases b <;> decide
theorem kin {c N : Nat} (h : c < N) (hc : c < 2 ^ 31) : (nI c < nI 0 ∨ N ≤ (nI c).toNatClampNeg) = False := by
  rw [nI_clamp hc, nI_0]
  exact eq_false (fun x => x.elim (nI_pos hc) (by omega))
theorem kinn {c N : Nat} (h : c < N) (hc : c < 2 ^ 31) : (nI c < nI 0 ∨ N ≤ c) = False := by
  rw [nI_0]
  exact eq_false (fun x => x.elim (nI_pos hc) (by omega))
theorem kneg {a : Nat} (ha : a < 2 ^ 31) : (nI a < nI 0) = False := by rw [nI_0]; exact eq_false (nI_pos ha)
/-! the class's leaves in whole numbers -/
theorem pcn_ct : ∀ n x, pcn n x = fb_ct (fun k => x.testBit k) n
  | 0, _ => rfl
  | n + 1, x => by
    rw [Nat.add_comm n 1, fb_ct_split, Nat.add_comm 1 n]
    show x % 2 + pcn n (x / 2) = (0 + if x.testBit 0 = true then 1 else 0) + fb_ct (fun k => x.testBit (1 + k)) n
    have e : (fun k => x.testBit (1 + k)) = fun k => (x / 2).testBit k := by
      funext k
      rw [Nat.add_comm 1 k, Nat.testBit_succ]
    rw [e, pcn_ct n (x / 2), Nat.testBit_zero]
    rcases Nat.mod_two_eq_zero_or_one x with h | h <;> rw [h] <;> simp
theorem ct_out {p : Nat → Bool} {m : Nat} : ∀ n, (∀ k, m ≤ k → p k = false) → fb_ct p (m + n) = fb_ct p m
  | 0, _ => rfl
  | n + 1, h => by
    show fb_ct p (m + n) + (if p (m + n) then 1 else 0) = _
    rw [h (m + n) (by omega), ct_out n h]
    rfl
theorem pcn_lt {x m : Nat} (h : x < 2 ^ m) (hm : m ≤ 31) : pcn 31 x = fb_ct (fun k => x.testBit k) m := by
  rw [pcn_ct, show 31 = m + (31 - m) by omega]
  exact ct_out _ (fun k hk => Nat.testBit_lt_two_pow (Nat.lt_of_lt_of_le h (Nat.pow_le_pow_right (by decide) hk)))
section P35
variable {h : xH}
theorem Se_within_e (s : Shp h) (z : Jseat h) {x : Nat} (hx : x < 128) : f_Se_within 2 (nI x) h = some (nI (wi x), h) := by
  simp (disch := omega) only [f_Se_within, jn, gd, hp, if_true, bind_s, shp s, k0, k1, k2, k3, k4, k5, k6, k7, k8, k9, k10, k13, k20, k21, k22, k34, k35, k40, k45, k63, k99, k100, k128, k159, k160, k255, k256, k10000, Nat.not_lt_zero, Nat.zero_le, kneg, li_le, li_lt, li_eq, li_cl, if_false, if_true, or_false, or_self, false_or, not_false_eq_true, not_true_eq_false, Nat.not_le.mpr hx]
  rw [z.1 x hx]
theorem Se_lower_e (s : Shp h) (z : Jseat h) {x : Nat} (hx : x < 21) : f_Se_lower 2 (nI x) h = some (nI (lo x), h) := by
  simp (disch := omega) only [f_Se_lower, jn, gd, hp, if_true, bind_s, shp s, k0, k1, k2, k3, k4, k5, k6, k7, k8, k9, k10, k13, k20, k21, k22, k34, k35, k40, k45, k63, k99, k100, k128, k159, k160, k255, k256, k10000, Nat.not_lt_zero, Nat.zero_le, kneg, li_le, li_lt, li_eq, li_cl, if_false, if_true, or_false, or_self, false_or, not_false_eq_true, not_true_eq_false, Nat.not_le.mpr hx]
  rw [(z.2.1 x hx).1]
theorem Se_higher_e (s : Shp h) (z : Jseat h) {x : Nat} (hx : x < 21) : f_Se_higher 2 (nI x) h = some (nI (hi x), h) := by
  simp (disch := omega) only [f_Se_higher, jn, gd, hp, if_true, bind_s, shp s, k0, k1, k2, k3, k4, k5, k6, k7, k8, k9, k10, k13, k20, k21, k22, k34, k35, k40, k45, k63, k99, k100, k128, k159, k160, k255, k256, k10000, Nat.not_lt_zero, Nat.zero_le, kneg, li_le, li_lt, li_eq, li_cl, if_false, if_true, or_false, or_self, false_or, not_false_eq_true, not_true_eq_false, Nat.not_le.mpr hx]
  rw [(z.2.1 x hx).2]
theorem Se_three_e (s : Shp h) (z : Jseat h) {x : Nat} (hx : x < 35) : f_Se_three 2 (nI x) h = some (nI (st3 (tcn x)), h) := by
  simp (disch := omega) only [f_Se_three, jn, gd, hp, if_true, bind_s, shp s, k0, k1, k2, k3, k4, k5, k6, k7, k8, k9, k10, k13, k20, k21, k22, k34, k35, k40, k45, k63, k99, k100, k128, k159, k160, k255, k256, k10000, Nat.not_lt_zero, Nat.zero_le, kneg, li_le, li_lt, li_eq, li_cl, if_false, if_true, or_false, or_self, false_or, not_false_eq_true, not_true_eq_false, Nat.not_le.mpr hx]
  rw [z.2.2 x hx]
/-- whether that set of three stands -/
def sdn (c d : Nat → Int32) (x f s : Nat) : Bool := (f &&& wi x == wi x && c x != nI 0) || (s &&& wi x == wi x && d x != nI 0)
theorem wi_lt : ∀ x, x < 128 → wi x < 2 ^ 21 := by decide +kernel
theorem and_eqI {f x : Nat} (hf : f < 2 ^ 31) (hx : x < 2 ^ 31) : (nI f &&& nI x = nI x) = ((f &&& x == x) = true) := by
  rw [fa_and, li_eq (Nat.lt_of_le_of_lt Nat.and_le_left hf) hx]
  simp
theorem St_stands_e (s : Shp h) (z : Jseat h) {x f t : Nat} (hx : x < 128) (hf : f < 2 ^ 31) (ht : t < 2 ^ 31) : f_St_stands 11 (nI x) (nI f) (nI t) h = some (b2i (sdn (hI h 12) (hI h 13) x f t), h) := by
  have hw := wi_lt x hx
  simp only [f_St_stands, jn, gd, hp, if_true, bind_s, shp s, Se_within_e s z hx, k0, k1, k2, k3, k4, k5, k6, k7, k8, k9, k10, k13, k20, k21, k22, k34, k35, k40, k45, k63, k99, k100, k128, k159, k160, k255, k256, k10000]
  simp (disch := omega) only [Nat.not_lt_zero, Nat.zero_le, kneg, li_le, li_lt, li_eq, li_cl, if_false, if_true, or_false, or_self, false_or, not_false_eq_true, not_true_eq_false, hx, Nat.not_le.mpr hx, and_eqI, knb0, knb1]
  unfold sdn
  by_cases a : (f &&& wi x == wi x) = true
  · by_cases b : hI h 12 x = nI 0
    · by_cases c : (t &&& wi x == wi x) = true
      · by_cases d : hI h 13 x = nI 0
        · simp [a, b, c, d, b2i, k0, k1]
        · simp [a, b, c, d, b2i, k0, k1]
      · simp [a, b, c, b2i, k0, k1]
    · simp [a, b, b2i, k0, k1]
  · by_cases c : (t &&& wi x == wi x) = true
    · by_cases d : hI h 13 x = nI 0
      · simp [a, c, d, b2i, k0, k1]
      · simp [a, c, d, b2i, k0, k1]
    · simp [a, c, b2i, k0, k1]
theorem st_lt : ∀ t, t < 35 → st3 (tcn t) < 128 := by decide +kernel
def hmy (c d : Nat → Int32) (m f s : Nat) : Nat := fb_ct (fun t => sdn c d (st3 (tcn t)) f s) m
theorem hmy_le (c d : Nat → Int32) (m f s : Nat) : hmy c d m f s ≤ m := fb_ct_le _ _
theorem St_howMany_e (s : Shp h) (z : Jseat h) {m f t : Nat} (hm : m ≤ 35) (em : hI h 11 3 = nI m) (hf : f < 2 ^ 31) (ht : t < 2 ^ 31) : f_St_howMany 11 (nI f) (nI t) h = some (nI (hmy (hI h 12) (hI h 13) m f t), h) := by
  unfold f_St_howMany
  refine lpf (fun n i (v : Int32) => f_St_howMany_L5 11 (nI f) (nI t) n v i h _) (fun o => o = _) (fun i v => v = nI (hmy (hI h 12) (hI h 13) i f t)) m (Nat.zero_le m) (by omega) rfl ?_ ?_
  · intro n i v hi e
    subst e
    refine Or.inr ⟨_, ?_, rfl⟩
    simp only [f_St_howMany_L5, gd, shp s, if_true]
    rw [em, if_neg (nI_ge hi (by omega)), Se_three_e s z (by omega)]
    simp only [bind_s, shp s, if_true, St_stands_e s z (st_lt i (by omega)) hf ht, b2i_0, nI_1]
    unfold hmy
    rw [fb_ct_succ]
    cases sdn (hI h 12) (hI h 13) (st3 (tcn i)) f t <;> rfl
  · intro n v e
    subst e
    simp only [f_St_howMany_L5, gd, shp s, if_true]
    rw [em, if_pos (nI_le (Nat.le_refl m) (by omega))]
def anyv (c d : Nat → Int32) (m f s : Nat) : Nat := if fa_first (fun t => sdn c d (st3 (tcn t)) f s) m < m then st3 (tcn (fa_first (fun t => sdn c d (st3 (tcn t)) f s) m)) else 0
end P35

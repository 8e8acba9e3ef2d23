/-! indices below a number -/
def ing (x : Int32) (n : Nat) : Bool := decide (¬ x < 0) && decide (x < nI n)
theorem ing_y {a n : Nat} (h : a < n) (hn : n < 2 ^ 31) : ing (nI a) n = true := by
  unfold ing
  rw [decide_eq_true (nI_pos (by omega)), decide_eq_true (nI_lt h hn)]
  rfl
theorem ing_ex {x : Int32} {n : Nat} (hn : n < 2 ^ 31) (h : ing x n = true) : ∃ a, a < n ∧ x = nI a := by
  unfold ing at h
  rw [Bool.and_eq_true, decide_eq_true_eq, decide_eq_true_eq] at h
  obtain ⟨j, hj, rfl⟩ := nI_of h.1
  exact ⟨j, by have := h.2; rwa [nI_ltI hj hn] at this, rfl⟩
theorem ing_no {x : Int32} {n : Nat} (h : ing x n = false) : x < 0 ∨ (¬ x < 0 ∧ nI n ≤ x) := by
  unfold ing at h
  by_cases a : x < 0
  · exact Or.inl a
  · by_cases b : x < nI n
    · rw [decide_eq_true a, decide_eq_true b] at h
      cases h
    · exact Or.inr ⟨a, fa_of_nlt b⟩
theorem ing_0 {x : Int32} {n : Nat} (h : x < 0) : ing x n = false := by
  unfold ing
  rw [decide_eq_false (p := ¬ x < 0) (fun q => q h)]
  rfl
theorem ing_g {a n : Nat} (h : n ≤ a) (ha : a < 2 ^ 31) : ing (nI a) n = false := by
  unfold ing
  rw [decide_eq_false (p := nI a < nI n) (nI_nlt h ha), Bool.and_false]
theorem Mo_in_g {h : xH} (x : Int32) {n : Nat} (hn : n < 2 ^ 31) : f_Mo_in x.toInt64 (0 : Int64) ((nI n - (1 : Int32)).toInt64) h = some (b2i (ing x n), h) := by
  rw [z64, Mo_in_c, nI_0]
  by_cases h1 : x < 0
  · rw [if_pos h1, ing_0 h1]
    rfl
  · rw [if_neg h1]
    obtain ⟨a, ha, rfl⟩ := nI_of h1
    have e : (nI n - (1 : Int32) < nI a) ↔ n ≤ a := by
      rcases Nat.eq_zero_or_pos n with rfl | hp
      · refine ⟨fun _ => Nat.zero_le _, fun _ => ?_⟩
        rw [fa_lt, nI_toInt ha, show (nI 0 - (1 : Int32)).toInt = -1 by decide]
        omega
      · rw [k1, li_sub hp, nI_ltI (by omega) ha]
        omega
    by_cases h2 : n ≤ a
    · rw [if_pos (e.mpr h2), ing_g h2 ha]
      rfl
    · rw [if_neg (fun q => h2 (e.mp q)), ing_y (by omega) hn]
      rfl
theorem nin {c N : Nat} (h : c < N) (hc : c < 2 ^ 31) : ¬ (nI c < 0 ∨ N ≤ c) := fun q => q.elim (nI_pos hc) (by omega)
theorem lt24 {f g : Nat} (hg : g ≤ 7) (h : f < 2 ^ c2 g) : f < 2 ^ 24 := Nat.lt_trans (lt31 hg h) (by decide)
theorem lt3 {f : Nat} (h : f < 2 ^ 24) : f < 2 ^ 31 := Nat.lt_trans h (by decide)
theorem pcI {x : Nat} (hx : x < 2 ^ 24) {h : xH} : f_In_bitCount (nI x) h = some (nI (pcn 31 x), h) := In_bitCount_e hx
/-! what a town tells -/
def uC (i j m : Int32) : Int32 := if m ≤ 0 then 0 else if jRem i m = jRem j m then 0 else 1
def rC (m i j g : Int32) : Int32 := if j - i = (1 : Int32) then 1 else if j - i = g - (1 : Int32) then 1 else if j - i = m then 1 else 0
def kC (kd m i j g : Int32) : Int32 := if kd = (1 : Int32) then uC i j 2 else if kd = (2 : Int32) then rC m i j g else if kd = (3 : Int32) then (if uC i j 2 = 0 then (if uC i j (m + (2 : Int32)) = 0 then 0 else 1) else 1) else if kd = (4 : Int32) then (if rC m i j g = 0 then (if i = 0 then 1 else 0) else 1) else if kd = (5 : Int32) then (if rC m i j g = (if jRem (((i * (7 : Int32)) + (j * (5 : Int32))) + m) (3 : Int32) = 0 then (1 : Int32) else (0 : Int32)) then (0 : Int32) else (1 : Int32)) else 0
def hM (i j : Int32) : Int32 := if jRem (i + j) (2 : Int32) = (1 : Int32) then (1 : Int32) else (0 : Int32)
def kM (kd m i j g : Int32) : Int32 := if kd = 0 then 0 else if kd = (1 : Int32) then hM i j else if kd = (3 : Int32) then (if hM i j = 0 then (if jRem i (m + (2 : Int32)) = jRem j (m + (2 : Int32)) then 0 else 1) else 1) else if kd = (2 : Int32) then rC m i j g else if kd = (4 : Int32) then (if rC m i j g = 0 then (if i = 0 then 1 else 0) else 1) else (if (if jRem ((((7 : Int32) * i) + ((5 : Int32) * j)) + m) (3 : Int32) = 0 then (1 : Int32) else (0 : Int32)) = rC m i j g then (0 : Int32) else (1 : Int32))
theorem nb_uC (i j m : Int32) : nb (uC i j m) = uC i j m := by
  unfold uC
  split
  · exact nb0
  · split
    · exact nb0
    · exact nb1
theorem nb_rC (m i j g : Int32) : nb (rC m i j g) = rC m i j g := by
  unfold rC
  split
  · exact nb1
  · split
    · exact nb1
    · split
      · exact nb1
      · exact nb0
theorem nb_hM (i j : Int32) : nb (hM i j) = hM i j := by
  unfold hM
  split
  · exact nb1
  · exact nb0
theorem nb_if {c : Prop} [Decidable c] : nb (if c then (0 : Int32) else 1) = if c then 0 else 1 := by
  split
  · exact nb0
  · exact nb1
theorem nb_fi {c : Prop} [Decidable c] : nb (if c then (1 : Int32) else 0) = if c then 1 else 0 := by
  split
  · exact nb1
  · exact nb0
section P42
variable {h : xH}
theorem To_areUnlike_e (i j m : Int32) : f_To_areUnlike i j m h = some (uC i j m, h) := by
  simp only [f_To_areUnlike, jn, gd]
  unfold uC
  by_cases c : m ≤ 0
  · rw [if_pos c, if_pos c, nb0]
  · have c2 : ¬ m = 0 := fun e => c (by rw [e]; exact (fa_le 0 0).mpr (Int.le_refl _))
    rw [if_neg c, if_neg c, if_pos c2, if_pos c2]
    split
    · rw [nb0]
    · rw [nb1]
theorem To_areNextInRing_e {q : Nat} (hk : hK h q = 8) (i j g : Int32) : f_To_areNextInRing q i j g h = some (rC (hI h q 1) i j g, h) := by
  simp only [f_To_areNextInRing, jn, gd, hk, if_true]
  unfold rC
  split
  · rw [nb1]
  · split
    · rw [nb1]
    · split
      · rw [nb1]
      · rw [nb0]
theorem rg {α : Type} (K : Int32 → Option α) (i j m g : Int32) : jn K (fun k16 => jn (fun (x39 : Unit) => k16 (1 : Int32)) (fun k40 => if (j - i) = (1 : Int32) then k40 () else if (j - i) = (g - (1 : Int32)) then k40 () else if (j - i) = m then k40 () else k16 (0 : Int32))) = K (rC m i j g) := by
  simp only [jn]
  unfold rC
  split
  · rfl
  · split
    · rfl
    · split
      · rfl
      · rfl
theorem Ma_isWithin_1 (x : Int32) : f_Ma_isWithin x (1 : Int32) h = some (b2i (inr x 1), h) := Ma_isWithin_e x 1
theorem Ma_isWithin_2 (x : Int32) : f_Ma_isWithin x (2 : Int32) h = some (b2i (inr x 2), h) := Ma_isWithin_e x 2
theorem To_knows_e {q : Nat} (hk : hK h q = 8) (i j g : Int32) : f_To_knows q i j g h = some (kC (hI h q 0) (hI h q 1) i j g, h) := by
  simp only [f_To_knows, jn, gd, hk, if_true, To_areUnlike_e, To_areNextInRing_e hk, bind_s, nb_uC, nb_rC]
  unfold kC
  split
  · rfl
  · split
    · rfl
    · split
      · by_cases c : uC i j 2 = 0
        · rw [if_pos c, if_pos c]
          by_cases c2 : uC i j (hI h q 1 + (2 : Int32)) = 0
          · rw [if_pos c2, if_pos c2, nb0]
          · rw [if_neg c2, if_neg c2, nb1]
        · rw [if_neg c, if_neg c, nb1]
      · split
        · by_cases c : rC (hI h q 1) i j g = 0
          · rw [if_pos c, if_pos c]
            by_cases c2 : i = 0
            · rw [if_pos c2, if_pos c2, nb1]
            · rw [if_neg c2, if_neg c2, nb0]
          · rw [if_neg c, if_neg c, nb1]
        · split
          · rw [nb_if]
          · rfl
theorem Mo_isSo_e (s : Shp h) {a : Nat} (ha : a < 5) {kd m : Nat} (hm : m < 10) (ek : hI h 40 a = nI kd) (em : hI h 41 a = nI m) (i j : Int32) : f_Mo_isSo 36 (nI a) i j h = some (kM (nI kd) (nI m) i j (hI h 36 7), h) := by
  have c : ¬ (nI a < 0 ∨ 5 ≤ a) := nin ha (by omega)
  have c2 : ¬ nI m + (2 : Int32) = 0 := by
    rw [k2, nI_add]
    exact nI_ne0 (by omega) (by omega)
  simp only [f_Mo_isSo, gd, shp s, if_true]
  simp only [if_pos c, nI_clamp (show a < 2 ^ 31 by omega), ek, em, if_pos c2]
  rw [rg]
  simp only [jn]
  unfold kM hM
  split
  · rfl
  · split
    · rw [nb_fi]
    · split
      · by_cases c : (if jRem (i + j) (2 : Int32) = (1 : Int32) then (1 : Int32) else (0 : Int32)) = 0
        · rw [if_pos c, if_pos c]
          split
          · rw [nb0]
          · rw [nb1]
        · rw [if_neg c, if_neg c, nb1]
      · split
        · rw [nb_rC]
        · split
          · by_cases c : rC (nI m) i j (hI h 36 7) = 0
            · rw [if_pos c, if_pos c]
              split
              · rw [nb1]
              · rw [nb0]
            · rw [if_neg c, if_neg c, nb1]
          · by_cases c3 : (if jRem ((((7 : Int32) * i) + ((5 : Int32) * j)) + nI m) (3 : Int32) = 0 then (1 : Int32) else (0 : Int32)) = rC (nI m) i j (hI h 36 7)
            · rw [if_pos c3, if_pos c3, nb0]
            · rw [if_neg c3, if_neg c3, nb1]
end P42
def kn (kd m g i j : Nat) : Bool := kC (nI kd) (nI m) (nI i) (nI j) (nI g) != 0
theorem kn_e : ∀ kd, kd < 6 → ∀ m, m < 10 → ∀ g, g < 8 → ∀ j, j < g → ∀ i, i < j → kC (nI kd) (nI m) (nI i) (nI j) (nI g) = kM (nI kd) (nI m) (nI i) (nI j) (nI g) ∧ kC (nI kd) (nI m) (nI i) (nI j) (nI g) = b2i (kC (nI kd) (nI m) (nI i) (nI j) (nI g) != 0) := by decide +kernel
def pC (kd m i j : Int32) : Int32 := if kd = (1 : Int32) then (1 : Int32) + i else if kd = (2 : Int32) then (1 : Int32) + m else if kd = (3 : Int32) then (2 : Int32) * ((1 : Int32) + i) else if kd = (4 : Int32) then jMax (0 : Int32) (((1 : Int32) + m) - j) else if kd = (5 : Int32) then ((1 : Int32) + m) + (if i = (1 : Int32) then (3 : Int32) else (0 : Int32)) else (1 : Int32)
def pM (kd m i j : Int32) : Int32 := if kd = 0 then (1 : Int32) else if kd = (1 : Int32) then ((1 : Int32) + i) * (if kd = (3 : Int32) then (2 : Int32) else (1 : Int32)) else if kd = (3 : Int32) then ((1 : Int32) + i) * (if kd = (3 : Int32) then (2 : Int32) else (1 : Int32)) else if 0 ≤ (((1 : Int32) + m) - (if kd = (4 : Int32) then j else (0 : Int32))) + (if kd = (5 : Int32) then (if i = (1 : Int32) then (3 : Int32) else 0) else 0) then (((1 : Int32) + m) - (if kd = (4 : Int32) then j else (0 : Int32))) + (if kd = (5 : Int32) then (if i = (1 : Int32) then (3 : Int32) else 0) else 0) else (0 : Int32)
theorem pr_e : ∀ kd, kd < 6 → ∀ m, m < 10 → ∀ j, j < 7 → ∀ i, i < j → pC (nI kd) (nI m) (nI i) (nI j) = pM (nI kd) (nI m) (nI i) (nI j) := by decide +kernel
section P42
variable {h : xH}
theorem To_price_e {q : Nat} (hk : hK h q = 8) (i j : Int32) : f_To_price q i j h = some (pC (hI h q 0) (hI h q 1) i j, h) := by
  simp only [f_To_price, gd, hk, if_true]
  unfold pC
  split
  · rfl
  · split
    · rfl
    · split
      · rfl
      · split
        · rfl
        · split
          · rfl
          · rfl
theorem Mo_price_e (s : Shp h) {a : Nat} (ha : a < 5) {kd m : Nat} (ek : hI h 40 a = nI kd) (em : hI h 41 a = nI m) (i j : Int32) : f_Mo_price 36 (nI a) i j h = some (pM (nI kd) (nI m) i j, h) := by
  have c : ¬ (nI a < 0 ∨ 5 ≤ a) := nin ha (by omega)
  simp only [f_Mo_price, jn, gd, shp s, if_true]
  simp only [if_pos c, nI_clamp (show a < 2 ^ 31 by omega), ek, em]
  unfold pM
  split
  · rfl
  · split
    · rfl
    · split
      · rfl
      · split
        · split
          · rfl
          · rfl
        · rfl
theorem Ma_townAt_y (s : Shp h) {n a : Nat} (hn : n ≤ 5) (e : hI h 1 12 = nI n) (ha : a < n) : f_Ma_townAt 1 (nI a) h = some (hR h 22 a, h) := by
  simp only [f_Ma_townAt, jn, gd, shp s, if_true, e]
  rw [if_neg (nI_pos (by omega)), if_neg (nI_ge ha (by omega)), if_neg (show ¬ (5 : Int32) ≤ nI a from nI_ge (b := 5) (by omega) (by decide)), if_pos (nI_in (by omega) (by decide)), nI_clamp (by omega)]
theorem Ma_townAt_no (s : Shp h) {n : Nat} {x : Int32} (e : hI h 1 12 = nI n) (hx : ing x n = false) : f_Ma_townAt 1 x h = some (0, h) := by
  simp only [f_Ma_townAt, jn, gd, shp s, if_true, e]
  rcases ing_no hx with c | ⟨c, c2⟩
  · rw [if_pos c]
  · rw [if_neg c, if_pos c2]
theorem Mo_isTown_e (s : Shp h) {n : Nat} (hn : n ≤ 5) (e : hI h 36 12 = nI n) (x : Int32) : f_Mo_isTown 36 x h = some (b2i (ing x n), h) := by
  simp only [f_Mo_isTown, gd, shp s, if_true, e, Mo_in_g x (show n < 2 ^ 31 by omega), bind_s, knbb]
end P42
theorem b2i_f : b2i false = 0 := rfl
theorem b2i_t : b2i true = 1 := rfl
theorem i10 : ((1 : Int32) = 0) = False := by decide
theorem i01 : ((0 : Int32) = 1) = False := by decide
/-! the first pairs of steps: told, tells, taken -/
theorem Y_told : Sp_told Inv := by
  intro i k h I
  obtain ⟨g, f, t, n, r, T, j⟩ := I
  have j0 := j
  obtain ⟨sh, hn, z, ⟨⟨g1, g7, hf, ht, hd⟩, e1, e2, e3, m1, m2, m3⟩, jk, jw, jp, js, jst, jx, jr⟩ := j0
  have f24 := lt24 g7 hf
  have t24 := lt24 g7 ht
  have f31 := lt3 f24
  have t31 := lt3 t24
  have s36 : hK h 36 = 11 := by simp only [shp sh]
  cases c : ipr g i k with
  | true =>
    obtain ⟨a, b, ha, hb, hab, rfl, rfl⟩ := ipr_ex g1 g7 c
    have hp := prs_lt g g7 a ha b hb hab
    have hc := c2_le g g7
    refine ⟨nI (lkv f t (prs a b)), h, h, ?_, s36, ?_, ⟨g, f, t, n, r, T, j⟩⟩
    · simp only [f_Ma_told, jn, gd, if_true, bind_s, shp sh, Ma_pairNumber_y sh g1 g7 e1 ha hb hab]
      rw [if_pos (nI_pos' (by omega)), Ta_look_n sh f31 t31 e2 e3 (by omega)]
      rfl
    · simp only [f_Mo_told, jn, gd, if_true, bind_s, shp sh, Mo_isPair_n sh g1 g7 m1, c, b2i_t, i10, if_false, Mo_seat_n (show a < 7 by omega) (show b < 7 by omega), Mo_pairAt_n sh f31 t31 m2 m3 (show prs a b < 31 by omega)]
  | false =>
    refine ⟨-2, h, h, ?_, s36, ?_, ⟨g, f, t, n, r, T, j⟩⟩
    · simp only [f_Ma_told, jn, gd, if_true, bind_s, shp sh, Ma_pairNumber_no sh g1 g7 e1 c]
      rw [if_neg (by decide)]
    · simp only [f_Mo_told, jn, gd, if_true, bind_s, shp sh, Mo_isPair_n sh g1 g7 m1, c, b2i_f]
theorem Y_tells : Sp_tells Inv := by
  intro x i k w h I
  obtain ⟨g, f, t, n, r, T, j⟩ := I
  have j0 := j
  obtain ⟨sh, hn, z, ⟨⟨g1, g7, hf, ht, hd⟩, e1, e2, e3, m1, m2, m3⟩, jk, jw, jp, js, jst, jx, jr⟩ := j0
  have f24 := lt24 g7 hf
  have t24 := lt24 g7 ht
  have f31 := lt3 f24
  have t31 := lt3 t24
  have s36 : hK h 36 = 11 := by simp only [shp sh]
  obtain ⟨tn, hn5, tw1, tw2, tw⟩ := jw
  cases ct : ing x tn with
  | false =>
    refine ⟨-2, h, h, ?_, s36, ?_, ⟨g, f, t, n, r, T, j⟩⟩
    · simp only [f_Ma_tells, jn, gd, if_true, bind_s, shp sh, Ma_townAt_no sh tw1 ct]
    · simp only [f_Mo_tells, jn, gd, if_true, bind_s, shp sh, Mo_isTown_e sh hn5 tw2, ct, b2i_f]
  | true =>
    obtain ⟨a, ha, rfl⟩ := ing_ex (by omega) ct
    obtain ⟨⟨q1, q2⟩, q3, kd, m, q4, q5, q6, q7, q8, q9⟩ := tw a ha
    have q0 : ¬ hR h 22 a = 0 := by omega
    have A1 : f_Ma_tells 1 (nI a) i k w h = some (if inr i (g - 1) = true ∧ inr k (g - 1) = true ∧ ¬ k ≤ i ∧ inr w 1 = true then (if w = 1 then pC (nI kd) (nI m) i k else if kC (nI kd) (nI m) i k (nI g) = 0 then 0 else 1) else -2, h) := by
      simp only [f_Ma_tells, jn, gd, if_true, bind_s, shp sh, Ma_townAt_y sh hn5 tw1 ha, if_neg q0, Ma_isGuest_n sh g1 g7 e1, q3, To_price_e q3, To_knows_e q3, q8, q9, e1, Ma_isWithin_1]
      cases c1 : inr i (g - 1) with
      | false => simp [b2i_f]
      | true =>
        cases c2 : inr k (g - 1) with
        | false => simp [b2i_f, b2i_t, i10]
        | true =>
          by_cases c3 : k ≤ i
          · simp [b2i_t, i10, c3]
          · cases c4 : inr w 1 with
            | false => simp [b2i_f, b2i_t, i10, c3]
            | true =>
              by_cases c5 : w = 1
              · simp [b2i_t, i10, c3, c5]
              · simp [b2i_t, i10, c3, c5]
    have A2 : f_Mo_tells 36 (nI a) i k w h = some (if ipr g i k = true ∧ ¬ k < i ∧ inr w 1 = true then (if w = 0 then (if kM (nI kd) (nI m) i k (nI g) = 0 then 0 else 1) else pM (nI kd) (nI m) i k) else -2, h) := by
      simp only [f_Mo_tells, jn, gd, if_true, bind_s, shp sh, Mo_isTown_e sh hn5 tw2, ct, b2i_t, i10, if_false, Mo_isPair_n sh g1 g7 m1, Mo_isSo_e sh (show a < 5 by omega) q5 q6 q7, Mo_price_e sh (show a < 5 by omega) q6 q7, m1, Mo_in_1]
      cases c1 : ipr g i k with
      | false => simp [b2i_f]
      | true =>
        by_cases c3 : k < i
        · simp [b2i_t, i10, c3]
        · cases c4 : inr w 1 with
          | false => simp [b2i_f, b2i_t, i10, c3]
          | true =>
            by_cases c5 : w = 0
            · by_cases c6 : kM (nI kd) (nI m) i k (nI g) = 0
              · simp [b2i_t, i10, c3, c5, c6]
              · simp [b2i_t, i10, c3, c5, c6]
            · simp [b2i_t, i10, c3, c5]
    refine ⟨_, h, h, A1, s36, ?_, ⟨g, f, t, n, r, T, j⟩⟩
    show f_Mo_tells 36 (nI a) i k w h = _
    rw [A2]
    congr 2
    by_cases c : inr i (g - 1) = true ∧ inr k (g - 1) = true
    · obtain ⟨ci, ck⟩ := c
      obtain ⟨u, hu, rfl⟩ := inr_ex (by omega) ci
      obtain ⟨v, hv, rfl⟩ := inr_ex (by omega) ck
      by_cases huv : u < v
      · have L1 : ¬ nI v ≤ nI u := nI_ge huv (by omega)
        have L2 : ¬ nI v < nI u := nI_nlt (by omega) (by omega)
        have L3 : ipr g (nI u) (nI v) = true := ipr_y g7 (by omega) (by omega) (by omega)
        obtain ⟨E1, -⟩ := kn_e kd q4 m q5 g (by omega) v (by omega) u huv
        have E2 := pr_e kd q4 m q5 v (by omega) u huv
        rw [← E1, ← E2]
        cases cw : inr w 1 with
        | false => simp
        | true =>
          obtain ⟨y, hy, rfl⟩ := inr_ex (by decide) cw
          rcases (by omega : y = 0 ∨ y = 1) with rfl | rfl
          · rw [if_pos (show ipr g (nI u) (nI v) = true ∧ ¬ nI v < nI u ∧ true = true from ⟨L3, L2, rfl⟩), if_pos (show inr (nI u) (g - 1) = true ∧ inr (nI v) (g - 1) = true ∧ ¬ nI v ≤ nI u ∧ true = true from ⟨ci, ck, L1, rfl⟩), if_pos (show nI 0 = (0 : Int32) from rfl), if_neg (show ¬ nI 0 = (1 : Int32) by decide)]
          · rw [if_pos (show ipr g (nI u) (nI v) = true ∧ ¬ nI v < nI u ∧ true = true from ⟨L3, L2, rfl⟩), if_pos (show inr (nI u) (g - 1) = true ∧ inr (nI v) (g - 1) = true ∧ ¬ nI v ≤ nI u ∧ true = true from ⟨ci, ck, L1, rfl⟩), if_neg (show ¬ nI 1 = (0 : Int32) by decide), if_pos (show nI 1 = (1 : Int32) from rfl)]
      · have L1 : nI v ≤ nI u := nI_le (by omega) (by omega)
        have L2 : ¬ (ipr g (nI u) (nI v) = true ∧ ¬ nI v < nI u ∧ inr w 1 = true) := by
          rintro ⟨p1, p2, -⟩
          rcases (by omega : u = v ∨ v < u) with e | e
          · subst e
            unfold ipr at p1
            simp at p1
          · exact p2 (nI_lt e (by omega))
        rw [if_neg L2, if_neg (fun p => p.2.2.1 L1)]
    · rw [if_neg, if_neg (fun p => c ⟨p.1, p.2.1⟩)]
      rintro ⟨p1, -⟩
      unfold ipr at p1
      simp only [Bool.and_eq_true] at p1
      exact c p1.1
def ioC (w : Int32) : Nat → Int32 → Int32 → Option Bool
  | 0, _, _ => none
  | n + 1, a, i => if (6 : Int32) ≤ i then some false else if a < 0 then some false else if (6 : Int32) ≤ a then some false else if a = w then some true else ioC w n (x_ab a.toNatClampNeg) (i + (1 : Int32))
theorem To_isOf_L {h : xH} {q : Nat} {w : Int32} : ∀ (n : Nat) (a i : Int32) (b : Bool), ioC w n a i = some b → f_To_isOf_L7 q w n a i h (fun v9 v10 h11 => some ((0 : Int32), h11)) = some (b2i b, h) := by
  intro n
  induction n with
  | zero => intro a i b e; cases e
  | succ n ih =>
    intro a i b e
    unfold ioC at e
    rw [f_To_isOf_L7]
    by_cases c1 : (6 : Int32) ≤ i
    · rw [if_pos c1] at e ⊢
      cases e
      rfl
    · rw [if_neg c1] at e ⊢
      by_cases c2 : a < 0
      · rw [if_pos c2] at e ⊢
        cases e
        rfl
      · rw [if_neg c2] at e ⊢
        by_cases c3 : (6 : Int32) ≤ a
        · rw [if_pos c3] at e ⊢
          cases e
          rfl
        · rw [if_neg c3] at e ⊢
          by_cases c4 : a = w
          · rw [if_pos c4] at e ⊢
            cases e
            rfl
          · rw [if_neg c4] at e ⊢
            obtain ⟨x, hx, rfl⟩ := nI_of c2
            rw [gd_t (nI_in (by rw [show (6 : Int32) = nI 6 from rfl, nI_leI (by decide) hx] at c3; omega) (by decide))]
            exact ih _ _ b e
def tkM (w : Int32) : Nat → Int32 → Option Int32
  | 0, _ => none
  | n + 1, a => if a = (-1 : Int32) then some a else if a = w then some a else tkM w n (if a = 0 then (-1 : Int32) else if a = (1 : Int32) then (0 : Int32) else if a = (2 : Int32) then (0 : Int32) else if a = (3 : Int32) then (1 : Int32) else (2 : Int32))
theorem Mo_taken_L {h : xH} {x w : Int32} {K : Int32 → xH → Option (Int32 × xH)} : ∀ (n : Nat) (a b : Int32), tkM w n a = some b → f_Mo_taken_L33 36 x w n a h K = K b h := by
  intro n
  induction n with
  | zero => intro a b e; cases e
  | succ n ih =>
    intro a b e
    unfold tkM at e
    rw [f_Mo_taken_L33]
    by_cases c1 : a = (-1 : Int32)
    · rw [if_pos c1] at e ⊢
      cases e
      rfl
    · rw [if_neg c1] at e ⊢
      by_cases c2 : a = w
      · rw [if_pos c2] at e ⊢
        cases e
        rfl
      · rw [if_neg c2] at e ⊢
        simp only [f_Mo_over, bind_s]
        exact ih _ _ e
theorem up_e : ∀ kd, kd < 6 → ∀ w, w < 6 → ioC (nI w) fu (nI kd) 0 = some (ioC (nI w) fu (nI kd) 0 == some true) ∧ tkM (nI w) fu (nI kd) = some (if (ioC (nI w) fu (nI kd) 0 == some true) = true then nI w else (-1 : Int32)) := by decide +kernel
theorem Y_taken : Sp_taken Inv := by
  intro x w h I
  obtain ⟨g, f, t, n, r, T, j⟩ := I
  have j0 := j
  obtain ⟨sh, hn, z, ⟨⟨g1, g7, hf, ht, hd⟩, e1, e2, e3, m1, m2, m3⟩, jk, jw, jp, js, jst, jx, jr⟩ := j0
  have f24 := lt24 g7 hf
  have t24 := lt24 g7 ht
  have f31 := lt3 f24
  have t31 := lt3 t24
  have s36 : hK h 36 = 11 := by simp only [shp sh]
  obtain ⟨tn, hn5, tw1, tw2, tw⟩ := jw
  cases cw : inr w 5 with
  | false =>
    refine ⟨-2, h, h, ?_, s36, ?_, ⟨g, f, t, n, r, T, j⟩⟩
    · have : w < 0 ∨ (¬ w < 0 ∧ ¬ w < (6 : Int32)) := by
        by_cases c : w < 0
        · exact Or.inl c
        · refine Or.inr ⟨c, fun c2 => ?_⟩
          obtain ⟨y, hy, rfl⟩ := nI_of c
          rw [show (6 : Int32) = nI 6 from rfl, nI_ltI hy (by decide)] at c2
          rw [inr_y (by omega) (by decide)] at cw
          cases cw
      simp only [f_Ma_taken, jn]
      rcases this with c | ⟨c, c2⟩
      · rw [if_pos c]
      · rw [if_neg c, if_neg c2]
    · simp only [f_Mo_taken, Mo_in_5, cw, bind_s, b2i_f, if_true]
  | true =>
    obtain ⟨y, hy, rfl⟩ := inr_ex (by decide) cw
    cases ct : ing x tn with
    | false =>
      refine ⟨-11, h, h, ?_, s36, ?_, ⟨g, f, t, n, r, T, j⟩⟩
      · simp only [f_Ma_taken, jn, gd, if_true, bind_s, shp sh, Ma_townAt_no sh tw1 ct]
        rw [if_neg (nI_pos (by omega)), if_pos (show nI y < (6 : Int32) from nI_lt (b := 6) (by omega) (by decide))]
      · simp only [f_Mo_taken, gd, shp sh, if_true, bind_s, Mo_in_5, cw, b2i_t, i10, if_false, Mo_isTown_e sh hn5 tw2, ct, b2i_f]
    | true =>
      obtain ⟨a, ha, rfl⟩ := ing_ex (by omega) ct
      obtain ⟨⟨q1, q2⟩, q3, kd, m, q4, q5, q6, q7, q8, q9⟩ := tw a ha
      have q0 : ¬ hR h 22 a = 0 := by omega
      obtain ⟨u1, u2⟩ := up_e kd q4 y (by omega)
      have hin : ¬ (nI a < 0 ∨ 5 ≤ a) := nin (by omega) (by omega)
      refine ⟨if (ioC (nI y) fu (nI kd) 0 == some true) = true then nI m else -13, h, h, ?_, s36, ?_, ⟨g, f, t, n, r, T, j⟩⟩
      · simp only [f_Ma_taken, jn, gd, if_true, bind_s, shp sh, Ma_townAt_y sh hn5 tw1 ha, if_neg q0, q3]
        rw [if_neg (nI_pos (by omega)), if_pos (show nI y < (6 : Int32) from nI_lt (b := 6) (by omega) (by decide))]
        simp only [f_To_isOf, gd, q3, if_true, q8]
        rw [To_isOf_L _ _ _ _ u1, bind_s, q9]
        generalize (ioC (nI y) fu (nI kd) 0 == some true) = bb
        cases bb
        · rfl
        · simp only [b2i_t, i10, if_false, q3, if_true]
      · simp only [f_Mo_taken, jn, gd, shp sh, if_true, bind_s, Mo_in_5, cw, b2i_t, i10, if_false, Mo_isTown_e sh hn5 tw2, ct, if_pos hin, nI_clamp (show a < 2 ^ 31 by omega), q6, q7]
        rw [Mo_taken_L _ _ _ u2]
        generalize (ioC (nI y) fu (nI kd) 0 == some true) = bb
        cases bb
        · have ne : ¬ (-1 : Int32) = nI y := fun e => nI_pos (n := y) (by omega) (by rw [← e]; decide)
          simp only [Bool.false_eq_true, if_false, if_neg ne]
        · simp only [if_true, shp sh, if_pos hin, q7]

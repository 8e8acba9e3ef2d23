/-! ranges -/
def inr (x : Int32) (n : Nat) : Bool := decide (¬ x < 0) && decide (¬ nI n < x)
theorem inr_y {a n : Nat} (h : a ≤ n) (hn : n < 2 ^ 31) : inr (nI a) n = true := by
  unfold inr
  rw [decide_eq_true (nI_pos (by omega)), decide_eq_true (nI_nlt h hn)]
  rfl
theorem inr_ex {x : Int32} {n : Nat} (hn : n < 2 ^ 31) (h : inr x n = true) : ∃ a, a ≤ n ∧ x = nI a := by
  unfold inr at h
  rw [Bool.and_eq_true, decide_eq_true_eq, decide_eq_true_eq] at h
  obtain ⟨j, hj, rfl⟩ := nI_of h.1
  exact ⟨j, by have := h.2; rw [nI_ltI hn hj] at this; omega, rfl⟩
theorem inr_0 {x : Int32} {n : Nat} (h : x < 0) : inr x n = false := by
  unfold inr
  rw [decide_eq_false (by simpa using h)]
  rfl
theorem inr_g {x : Int32} {n : Nat} (h : nI n < x) : inr x n = false := by
  unfold inr
  rw [decide_eq_false (p := ¬ nI n < x) (by simpa using h), Bool.and_false]
theorem inr_of {x : Int32} {n : Nat} (h : ¬ x < 0) (h2 : ¬ nI n < x) : inr x n = true := by
  unfold inr
  rw [decide_eq_true h, decide_eq_true h2]
  rfl
theorem le_pred {x : Int32} {g : Nat} (h1 : 1 ≤ g) (hg : g < 2 ^ 31) : nI g ≤ x ↔ nI (g - 1) < x := by
  rw [fa_le, fa_lt, nI_toInt hg, nI_toInt (by omega)]
  omega
theorem z64 : (0 : Int64) = (nI 0).toInt64 := by decide
theorem o64 : (1 : Int64) = (nI 1).toInt64 := by decide
/-- within, for the two low ends that are used -/
theorem Mo_in_c {h : xH} (x a b : Int32) : f_Mo_in x.toInt64 a.toInt64 b.toInt64 h = some (if x < a then nI 0 else if b < x then nI 0 else nI 1, h) := by
  simp only [f_Mo_in, jn, jCmpL, lg_cmp_lt, lg_cmp_gt, fa_wide_lt]
  split
  · rfl
  · split <;> rfl
theorem Mo_in_0 {h : xH} (x : Int32) (n : Nat) : f_Mo_in x.toInt64 (0 : Int64) (nI n).toInt64 h = some (b2i (inr x n), h) := by
  rw [z64, Mo_in_c, nI_0]
  by_cases h1 : x < 0
  · rw [if_pos h1, inr_0 h1]
    rfl
  · rw [if_neg h1]
    by_cases h2 : nI n < x
    · rw [if_pos h2, inr_g h2]
      rfl
    · rw [if_neg h2, inr_of h1 h2]
      rfl
theorem q1 : (1 : Int64) = (nI 1).toInt64 := by decide
theorem q2 : (2 : Int64) = (nI 2).toInt64 := by decide
theorem q3 : (3 : Int64) = (nI 3).toInt64 := by decide
theorem q4 : (4 : Int64) = (nI 4).toInt64 := by decide
theorem q5 : (5 : Int64) = (nI 5).toInt64 := by decide
theorem q6 : (6 : Int64) = (nI 6).toInt64 := by decide
theorem q9 : (9 : Int64) = (nI 9).toInt64 := by decide
theorem q13 : (13 : Int64) = (nI 13).toInt64 := by decide
theorem q255 : (255 : Int64) = (nI 255).toInt64 := by decide
theorem Mo_in_1 {h : xH} (x : Int32) : f_Mo_in x.toInt64 (0 : Int64) (1 : Int64) h = some (b2i (inr x 1), h) := by rw [q1]; exact Mo_in_0 x 1
theorem Mo_in_2 {h : xH} (x : Int32) : f_Mo_in x.toInt64 (0 : Int64) (2 : Int64) h = some (b2i (inr x 2), h) := by rw [q2]; exact Mo_in_0 x 2
theorem Mo_in_3 {h : xH} (x : Int32) : f_Mo_in x.toInt64 (0 : Int64) (3 : Int64) h = some (b2i (inr x 3), h) := by rw [q3]; exact Mo_in_0 x 3
theorem Mo_in_4 {h : xH} (x : Int32) : f_Mo_in x.toInt64 (0 : Int64) (4 : Int64) h = some (b2i (inr x 4), h) := by rw [q4]; exact Mo_in_0 x 4
theorem Mo_in_5 {h : xH} (x : Int32) : f_Mo_in x.toInt64 (0 : Int64) (5 : Int64) h = some (b2i (inr x 5), h) := by rw [q5]; exact Mo_in_0 x 5
theorem Mo_in_6 {h : xH} (x : Int32) : f_Mo_in x.toInt64 (0 : Int64) (6 : Int64) h = some (b2i (inr x 6), h) := by rw [q6]; exact Mo_in_0 x 6
theorem Mo_in_9 {h : xH} (x : Int32) : f_Mo_in x.toInt64 (0 : Int64) (9 : Int64) h = some (b2i (inr x 9), h) := by rw [q9]; exact Mo_in_0 x 9
theorem Mo_in_13 {h : xH} (x : Int32) : f_Mo_in x.toInt64 (0 : Int64) (13 : Int64) h = some (b2i (inr x 13), h) := by rw [q13]; exact Mo_in_0 x 13
theorem Mo_in_255 {h : xH} (x : Int32) : f_Mo_in x.toInt64 (0 : Int64) (255 : Int64) h = some (b2i (inr x 255), h) := by rw [q255]; exact Mo_in_0 x 255
theorem Ma_isWithin_e {h : xH} (x : Int32) (n : Nat) : f_Ma_isWithin x (nI n) h = some (b2i (inr x n), h) := by
  simp only [f_Ma_isWithin, jn]
  by_cases h1 : x < 0
  · rw [if_pos h1, inr_0 h1, nb0]
    rfl
  · rw [if_neg h1]
    by_cases h2 : nI n < x
    · rw [if_pos h2, inr_g h2, nb0]
      rfl
    · rw [if_neg h2, inr_of h1 h2, nb1]
      rfl
/-! pairs -/
def prs (a b : Nat) : Nat := if a < b then pr a b else pr b a
theorem prs_lt : ∀ g, g ≤ 7 → ∀ a, a < g → ∀ b, b < g → a ≠ b → prs a b < c2 g := by decide +kernel
theorem c2_le : ∀ g, g ≤ 7 → c2 g ≤ 21 := by decide +kernel
theorem c3_le : ∀ g, g ≤ 7 → c3 g ≤ 35 := by decide +kernel
theorem pairOf_n : ∀ a, a < 7 → ∀ b, b < 7 → pairOf (nI a) (nI b) = nI (prs a b) := by decide +kernel
theorem seat_n : ∀ a, a < 7 → ∀ b, b < 7 → (if nI b ≤ nI a then nI a * (nI a - 1) / 2 + nI b else nI b * (nI b - 1) / 2 + nI a) = nI (prs a b) := by decide +kernel
theorem c2_n : ∀ g, g ≤ 7 → nI g * (nI g - 1) / 2 = nI (c2 g) := by decide +kernel
theorem c3_n : ∀ g, g ≤ 7 → nI g * (nI g - 1) * (nI g - 2) / 6 = nI (c3 g) := by decide +kernel
theorem ev_n : ∀ g, g ≤ 7 → jShl (1 : Int32) (nI g) - 1 = nI (2 ^ g - 1) := by decide +kernel
theorem ev2_n : ∀ g, g ≤ 7 → wi (2 ^ g - 1) = 2 ^ c2 g - 1 ∧ 2 ^ g - 1 < 128 := by decide +kernel
theorem ao_n : ∀ g, g ≤ 7 → jShl (1 : Int32) (nI (c2 g)) - 1 = nI (2 ^ c2 g - 1) := by decide +kernel
theorem lt31 {f g : Nat} (hg : g ≤ 7) (h : f < 2 ^ c2 g) : f < 2 ^ 21 := Nat.lt_of_lt_of_le h (Nat.pow_le_pow_right (by decide) (c2_le g hg))
def lkv (f s p : Nat) : Nat := if f.testBit p then 1 else if s.testBit p then 0 else 2
section P36
variable {h : xH}
theorem Se_pairOf_n {a b : Nat} (ha : a < 7) (hb : b < 7) : f_Se_pairOf (nI a) (nI b) h = some (nI (prs a b), h) := by rw [Se_pairOf_e, pairOf_n a ha b hb]
theorem Se_pairsAmong_n {g : Nat} (hg : g ≤ 7) : f_Se_pairsAmong (nI g) h = some (nI (c2 g), h) := by
  show some (nI g * (nI g - 1) / 2, h) = _
  rw [c2_n g hg]
theorem Se_threesAmong_n {g : Nat} (hg : g ≤ 7) : f_Se_threesAmong (nI g) h = some (nI (c3 g), h) := by
  show some (nI g * (nI g - 1) * (nI g - 2) / 6, h) = _
  rw [c3_n g hg]
theorem Mo_seat_n {a b : Nat} (ha : a < 7) (hb : b < 7) : f_Mo_seat (nI a) (nI b) h = some (nI (prs a b), h) := by
  rw [← seat_n a ha b hb]
  simp only [f_Mo_seat, jn]
  split <;> rfl
theorem Mo_allOf_n {g : Nat} (hg : g ≤ 7) : f_Mo_allOf (nI g) h = some (nI (2 ^ c2 g - 1), h) := by
  show some (jShl 1 (nI g * (nI g - 1) / 2) - 1, h) = _
  rw [c2_n g hg, ao_n g hg]
theorem Ta_everyone_n (s : Shp h) {g : Nat} (hg : g ≤ 7) (eg : hI h 7 1 = nI g) : f_Ta_everyone 7 h = some (nI (2 ^ g - 1), h) := by
  simp only [f_Ta_everyone, gd, shp s, if_true, eg]
  rw [ev_n g hg]
theorem Ta_everyPair_n (s : Shp h) (z : Jseat h) {g : Nat} (hg : g ≤ 7) (eg : hI h 7 1 = nI g) : f_Ta_everyPair 7 h = some (nI (2 ^ c2 g - 1), h) := by
  simp only [f_Ta_everyPair, gd, shp s, if_true, Ta_everyone_n s hg eg, bind_s, Se_within_e s z (ev2_n g hg).2]
  rw [(ev2_n g hg).1]
theorem Ma_isGuest_n (s : Shp h) {g : Nat} (h1 : 1 ≤ g) (hg : g ≤ 7) (eg : hI h 7 1 = nI g) (i : Int32) : f_Ma_isGuest 1 i h = some (b2i (inr i (g - 1)), h) := by
  rw [Ma_isGuest_e s, eg]
  by_cases a : i < 0
  · rw [if_pos a, inr_0 a]
    rfl
  · rw [if_neg a]
    by_cases b : nI g ≤ i
    · rw [if_pos b, inr_g ((le_pred h1 (by omega)).mp b)]
      rfl
    · rw [if_neg b, inr_of a (fun c => b ((le_pred h1 (by omega)).mpr c))]
      rfl
theorem Mo_isGuest_n (s : Shp h) {g : Nat} (h1 : 1 ≤ g) (hg : g ≤ 7) (eg : hI h 36 7 = nI g) (i : Int32) : f_Mo_isGuest 36 i h = some (b2i (inr i (g - 1)), h) := by
  simp only [f_Mo_isGuest, gd, shp s, if_true, eg, k1]
  rw [li_sub h1, Mo_in_0]
  simp only [bind_s, knbb]
/-- a pair of guests -/
def ipr (g : Nat) (i j : Int32) : Bool := inr i (g - 1) && inr j (g - 1) && (i != j)
theorem Ma_pairNumber_y (s : Shp h) {g : Nat} (h1 : 1 ≤ g) (hg : g ≤ 7) (eg : hI h 7 1 = nI g) {a b : Nat} (ha : a < g) (hb : b < g) (hn : a ≠ b) : f_Ma_pairNumber 1 (nI a) (nI b) h = some (nI (prs a b), h) := by
  simp only [f_Ma_pairNumber, jn, gd, hp, if_true, bind_s, shp s, Ma_isGuest_n s h1 hg eg, inr_y (show a ≤ g - 1 by omega) (by omega), inr_y (show b ≤ g - 1 by omega) (by omega), b2i_0]
  rw [if_neg (by decide), if_neg (by decide), if_neg (by rw [nI_eq (by omega) (by omega)]; exact hn), Se_pairOf_n (by omega) (by omega)]
  rfl
theorem Ma_pairNumber_no (s : Shp h) {g : Nat} (h1 : 1 ≤ g) (hg : g ≤ 7) (eg : hI h 7 1 = nI g) {i j : Int32} (hn : ipr g i j = false) : f_Ma_pairNumber 1 i j h = some (-1, h) := by
  simp only [f_Ma_pairNumber, jn, gd, hp, if_true, bind_s, shp s, Ma_isGuest_n s h1 hg eg, b2i_0]
  unfold ipr at hn
  cases a : inr i (g - 1) with
  | false => rw [if_pos rfl]
  | true =>
    rw [if_neg (by decide)]
    cases b : inr j (g - 1) with
    | false => rw [if_pos rfl]
    | true =>
      rw [if_neg (by decide), if_pos]
      rw [a, b] at hn
      simpa using hn
theorem ipr_ex {g : Nat} (h1 : 1 ≤ g) (hg : g ≤ 7) {i j : Int32} (h : ipr g i j = true) : ∃ a b, a < g ∧ b < g ∧ a ≠ b ∧ i = nI a ∧ j = nI b := by
  unfold ipr at h
  rw [Bool.and_eq_true, Bool.and_eq_true] at h
  obtain ⟨⟨x, y⟩, w⟩ := h
  obtain ⟨a, ha, rfl⟩ := inr_ex (by omega) x
  obtain ⟨b, hb, rfl⟩ := inr_ex (by omega) y
  refine ⟨a, b, by omega, by omega, ?_, rfl, rfl⟩
  rintro rfl
  simp at w
theorem ipr_y {g a b : Nat} (hg : g ≤ 7) (ha : a < g) (hb : b < g) (hn : a ≠ b) : ipr g (nI a) (nI b) = true := by
  unfold ipr
  rw [inr_y (by omega) (by omega), inr_y (by omega) (by omega)]
  simp only [Bool.and_self, Bool.true_and, bne_iff_ne, ne_eq]
  rw [nI_eq (by omega) (by omega)]
  exact hn
theorem Mo_isPair_n (s : Shp h) {g : Nat} (h1 : 1 ≤ g) (hg : g ≤ 7) (eg : hI h 36 7 = nI g) (i j : Int32) : f_Mo_isPair 36 i j h = some (b2i (ipr g i j), h) := by
  simp only [f_Mo_isPair, jn, gd, hp, if_true, bind_s, shp s, Mo_isGuest_n s h1 hg eg, b2i_0, nb0, nb1]
  unfold ipr
  cases a : inr i (g - 1) with
  | false =>
    rw [if_pos rfl]
    rfl
  | true =>
    rw [if_neg (by decide)]
    cases b : inr j (g - 1) with
    | false =>
      rw [if_pos rfl]
      rfl
    | true =>
      rw [if_neg (by decide)]
      by_cases c : i = j
      · rw [if_pos c, c]
        simp [b2i]
      · rw [if_neg c, show (i != j) = true from bne_iff_ne.mpr c]
        rfl
theorem Mo_know_n (s : Shp h) {f : Nat} (hf : f < 2 ^ 31) (ef : hI h 36 8 = nI f) {a b : Nat} (ha : a < 7) (hb : b < 7) (hn : prs a b < 31) : f_Mo_know 36 (nI a) (nI b) h = some (b2i (f.testBit (prs a b)), h) := by
  simp only [f_Mo_know, gd, shp s, if_true, Mo_seat_n ha hb, bind_s, ef, tb hf hn, b2i_1]
  cases f.testBit (prs a b) <;> rfl
theorem Mo_pairAt_n (s : Shp h) {f t : Nat} (hf : f < 2 ^ 31) (ht : t < 2 ^ 31) (ef : hI h 36 8 = nI f) (es : hI h 36 9 = nI (f ||| t)) {p : Nat} (hp : p < 31) : f_Mo_pairAt 36 (nI p) h = some (nI (lkv f t p), h) := by
  simp only [f_Mo_pairAt, jn, gd, hp, if_true, bind_s, shp s, ef, es, tb (Nat.or_lt_two_pow hf ht) hp, tb hf hp, b2i_0, Nat.testBit_or]
  unfold lkv
  cases f.testBit p <;> cases t.testBit p <;> rfl
theorem Ta_look_n (s : Shp h) {f t : Nat} (hf : f < 2 ^ 31) (ht : t < 2 ^ 31) (ef : hI h 7 2 = nI f) (es : hI h 7 3 = nI t) {p : Nat} (hp : p < 31) : f_Ta_look 7 (nI p) h = some (nI (lkv f t p), h) := by
  simp only [f_Ta_look, jn, gd, hp, if_true, bind_s, shp s, ef, es, tb ht hp, tb hf hp, b2i_1]
  unfold lkv
  cases f.testBit p <;> cases t.testBit p <;> rfl
end P36

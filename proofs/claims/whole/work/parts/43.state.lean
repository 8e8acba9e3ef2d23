theorem Fr.v {D : Nat → Nat → Bool} {h h' : xH} (x : Fr D h h') (n : 51 ≤ hN h) {p : Nat} (k : Nat) (hp : p < 51) (d : D p k = true) : hI h' p k = hI h p k := ((x.2 p (Nat.lt_of_lt_of_le hp n)).2.2 k d).1
theorem Fr.w {D : Nat → Nat → Bool} {h h' : xH} (x : Fr D h h') (n : 51 ≤ hN h) {p : Nat} (k : Nat) (hp : p < 51) (d : D p k = true) : hR h' p k = hR h p k := ((x.2 p (Nat.lt_of_lt_of_le hp n)).2.2 k d).2
/-! bits gathered pair by pair -/
def fbits (w : Nat → Bool) : Nat → Nat
  | 0 => 0
  | p + 1 => if w p = true then fbits w p ||| 2 ^ p else fbits w p
theorem fbits_lt (w : Nat → Bool) : ∀ p, fbits w p < 2 ^ p
  | 0 => Nat.one_pos
  | p + 1 => by
    have := fbits_lt w p
    unfold fbits
    split
    · exact Nat.or_lt_two_pow (Nat.lt_trans this (Nat.pow_lt_pow_succ (by decide))) (Nat.pow_lt_pow_succ (by decide))
    · exact Nat.lt_trans this (Nat.pow_lt_pow_succ (by decide))
theorem fbits_bit (w : Nat → Bool) (i : Nat) : ∀ p, (fbits w p).testBit i = (decide (i < p) && w i)
  | 0 => by
    show Nat.testBit 0 i = _
    rw [Nat.zero_testBit, decide_eq_false (by omega)]
    rfl
  | p + 1 => by
    unfold fbits
    have ih := fbits_bit w i p
    by_cases e : w p = true
    · rw [if_pos e, Nat.testBit_or, ih, Nat.testBit_two_pow]
      by_cases hk : p = i
      · subst hk
        rw [e]
        simp
      · rw [decide_eq_false hk, Bool.or_false]
        congr 1
        exact decide_eq_decide.mpr ⟨fun _ => by omega, fun _ => by omega⟩
    · rw [if_neg e, ih]
      by_cases hk : p = i
      · subst hk
        rw [Bool.not_eq_true] at e
        rw [e]
        simp
      · congr 1
        exact decide_eq_decide.mpr ⟨fun _ => by omega, fun _ => by omega⟩
/-- all pairs but those -/
theorem all_an {g F : Nat} (h : F < 2 ^ c2 g) : F ||| an (2 ^ c2 g - 1) F = 2 ^ c2 g - 1 ∧ F &&& an (2 ^ c2 g - 1) F = 0 ∧ an (2 ^ c2 g - 1) F < 2 ^ c2 g := by
  refine ⟨?_, ?_, an_lt (by have := Nat.two_pow_pos (c2 g); omega)⟩
  · apply Nat.eq_of_testBit_eq
    intro i
    rw [Nat.testBit_or, an_bit, Nat.testBit_two_pow_sub_one]
    by_cases hi : i < c2 g
    · rw [decide_eq_true hi]
      cases F.testBit i <;> rfl
    · rw [decide_eq_false hi]
      cases e : F.testBit i with
      | false => rfl
      | true => exact absurd (lt_bit h e) hi
  · apply and_nil.mpr
    rintro i ⟨a, b⟩
    rw [an_bit, a] at b
    simp at b
theorem c2_succ : ∀ k, k < 7 → c2 k + k = c2 (k + 1) := by decide +kernel
theorem c2_0 : c2 1 = 0 := by decide
theorem prs_c2 : ∀ k, k < 7 → ∀ i, i < k → prs i k = c2 k + i ∧ lo (c2 k + i) = i ∧ hi (c2 k + i) = k ∧ c2 k + i < 21 ∧ c2 k + i < c2 (k + 1) := by decide +kernel
theorem c2_mono : ∀ g, g < 8 → ∀ k, k ≤ g → c2 k ≤ c2 g := by decide +kernel
/-- a loop over j (from 1) and i below j, as a walk over the pairs' numbers -/
def kn2 (kd m g p : Nat) : Bool := kn kd m g (lo p) (hi p)
section P43
variable {h : xH}
theorem Ma_friendsIn_e (s : Shp h) {q kd m g : Nat} (g1 : 1 ≤ g) (g7 : g ≤ 7) (e1 : hI h 7 1 = nI g) (hk : hK h q = 8) (hd : kd < 6) (hm : m < 10) (x0 : hI h q 0 = nI kd) (x1 : hI h q 1 = nI m) : f_Ma_friendsIn 1 q h = some (nI (fbits (kn2 kd m g) (c2 g)), h) := by
  have inner : ∀ k K, k < g → f_Ma_friendsIn_L18 1 q (nI k) fu (nI (fbits (kn2 kd m g) (c2 k))) (0 : Int32) h K = K (nI (fbits (kn2 kd m g) (c2 (k + 1)))) (nI k) h := by
    intro k K hk7
    refine lpf (fun n i (v : Int32) => f_Ma_friendsIn_L18 1 q (nI k) n v i h K) (fun o => o = K (nI (fbits (kn2 kd m g) (c2 (k + 1)))) (nI k) h) (fun i v => v = nI (fbits (kn2 kd m g) (c2 k + i))) k (Nat.zero_le _) (by omega) rfl ?_ ?_
    · intro n i v hi e
      subst e
      obtain ⟨p1, p2, p3, p4, p5⟩ := prs_c2 k (by omega) i hi
      obtain ⟨-, E⟩ := kn_e kd hd m hm g (by omega) k hk7 i hi
      refine Or.inr ⟨_, ?_, rfl⟩
      simp only [f_Ma_friendsIn_L18, jn, gd, shp s, if_true, hk, To_knows_e hk, bind_s, x0, x1, e1]
      rw [if_neg (nI_ge hi (by omega)), E]
      have ek : fbits (kn2 kd m g) (c2 k + (i + 1)) = if kn2 kd m g (c2 k + i) = true then fbits (kn2 kd m g) (c2 k + i) ||| 2 ^ (c2 k + i) else fbits (kn2 kd m g) (c2 k + i) := rfl
      have ew : kn2 kd m g (c2 k + i) = (kC (nI kd) (nI m) (nI i) (nI k) (nI g) != 0) := by
        unfold kn2 kn
        rw [p2, p3]
      rw [ek, ew]
      cases kC (nI kd) (nI m) (nI i) (nI k) (nI g) != 0
      · rw [if_pos (show b2i false = 0 from rfl), if_neg (by decide), nI_1]
      · rw [if_neg (show ¬ b2i true = 0 by decide), if_pos rfl, Se_pairOf_n (by omega) (by omega), bind_s, p1, ss _ (by omega), fa_or, nI_1]
    · intro n v e
      subst e
      simp only [f_Ma_friendsIn_L18]
      rw [if_pos (nI_le (Nat.le_refl _) (by omega)), c2_succ k (by omega)]
  unfold f_Ma_friendsIn
  refine lpf (fun n i (v : Int32) => f_Ma_friendsIn_L4 1 q n v i h (fun v21 v22 h23 => some (v21, h23))) (fun o => o = some (nI (fbits (kn2 kd m g) (c2 g)), h)) (fun i v => v = nI (fbits (kn2 kd m g) (c2 i))) g (i := 1) g1 (by omega) rfl ?_ ?_
  · intro n i v hi e
    subst e
    refine Or.inr ⟨_, ?_, rfl⟩
    simp only [f_Ma_friendsIn_L4, gd, shp s, if_true, e1]
    rw [if_neg (nI_ge hi (by omega)), inner i _ hi, nI_1]
  · intro n v e
    subst e
    simp only [f_Ma_friendsIn_L4, gd, shp s, if_true, e1]
    rw [if_pos (nI_le (Nat.le_refl _) (by omega))]
end P43
def dKn (p k : Nat) : Bool := !(decide (p = 36) && decide (k = 8))
def dTb (p k : Nat) : Bool := !(decide (p = 7) || (decide (p = 36) && decide (7 ≤ k) && decide (k ≤ 9)))
/-- the table told anew -/
theorem J_tb {h h' : xH} {g f s n r : Nat} {T : Nat → Nat → (Nat → Int32) → Int32} {f' s' : Nat} (sh : Shp h') (x : Fr dTb h h') (j : J g f s n r T h) (jt : Jtab g f' s' h') : J g f' s' n r T h' := by
  obtain ⟨-, a, b1, b2, b3, b4, b5, b6, b7, b8, b9⟩ := j
  exact ⟨sh, Nat.le_trans a x.1, J_seat a x (fun p k h1 h2 => by simp [dTb]; omega) b1, jt, J_kept a x rfl (fun k => rfl) (fun k h1 h2 => by simp [dTb]; omega) b3, J_town a x rfl rfl (fun k => ⟨rfl, rfl, rfl⟩) (fun p k hp => by simp [dTb]; omega) b4, J_tape a x rfl rfl (fun k => ⟨rfl, rfl⟩) b5, J_sheet a x (fun p k h1 h2 => by simp [dTb]; omega) (fun p k h1 h2 => by simp [dTb]; omega) b6, J_st a x rfl (fun k => ⟨rfl, rfl⟩) b7, J_text a x rfl rfl (fun k => ⟨rfl, rfl, rfl⟩) (fun p k h1 h2 => by simp [dTb]; omega) (fun p k hp => by simp [dTb]; omega) b8, J_rule a x rfl rfl rfl rfl b9⟩
theorem b2i_n {b : Bool} : (if b2i b = 0 then (0 : Int32) else (1 : Int32)) = b2i b := by cases b <;> rfl
theorem shl_b {b : Bool} {p : Nat} (hp : p < 31) : jShl (b2i b) (nI p) = nI (if b = true then 2 ^ p else 0) := by
  cases b
  · exact ss0 p hp
  · exact ss p hp
theorem or_if {x p : Nat} {b : Bool} : x ||| (if b = true then 2 ^ p else 0) = if b = true then x ||| 2 ^ p else x := by
  cases b
  · exact Nat.or_zero x
  · rfl
def PAs (h0 : xH) (w : Nat → Bool) (p : Nat) (v : xH) : Prop := Shp v ∧ Fr dKn h0 v ∧ hI v 36 8 = nI (fbits w p)
theorem Mo_asIn_L {h0 : xH} (s : Shp h0) (n51 : 51 ≤ hN h0) {a kd m g : Nat} (ha : a < 5) (hd : kd < 6) (hm : m < 10) (g1 : 1 ≤ g) (g7 : g ≤ 7) (m1 : hI h0 36 7 = nI g) (q6 : hI h0 40 a = nI kd) (q7 : hI h0 41 a = nI m) (z8 : hI h0 36 8 = nI 0) (K : Int32 → xH → Option (Int32 × xH)) : ∃ h2, f_Mo_asIn_L29 36 (nI a) fu (1 : Int32) h0 K = K (nI g) h2 ∧ PAs h0 (kn2 kd m g) (c2 g) h2 := by
  have inner : ∀ k h1 K, k < g → PAs h0 (kn2 kd m g) (c2 k) h1 → ∃ h2, f_Mo_asIn_L39 36 (nI a) (nI k) fu (0 : Int32) h1 K = K (nI k) h2 ∧ PAs h0 (kn2 kd m g) (c2 (k + 1)) h2 := by
    intro k h1 K hk7 P
    refine lpf (fun n i (v : xH) => f_Mo_asIn_L39 36 (nI a) (nI k) n i v K) (fun o => ∃ h2, o = K (nI k) h2 ∧ PAs h0 (kn2 kd m g) (c2 (k + 1)) h2) (fun i v => PAs h0 (kn2 kd m g) (c2 k + i) v) k (Nat.zero_le _) (by omega) P ?_ ?_
    · intro n i v hi ⟨sv, xv, ev⟩
      obtain ⟨p1, p2, p3, p4, p5⟩ := prs_c2 k (by omega) i hi
      obtain ⟨E0, E⟩ := kn_e kd hd m hm g (by omega) k hk7 i hi
      have u6 := (((xv.2 40 (by omega)).2.2 a rfl).1).trans q6
      have u7 := (((xv.2 41 (by omega)).2.2 a rfl).1).trans q7
      have u1 := (((xv.2 36 (by omega)).2.2 7 rfl).1).trans m1
      have ew : kn2 kd m g (c2 k + i) = (kC (nI kd) (nI m) (nI i) (nI k) (nI g) != 0) := by
        unfold kn2 kn
        rw [p2, p3]
      refine Or.inr ⟨hIu v 36 8 (nI (fbits (kn2 kd m g) (c2 k + (i + 1)))), ?_, sv, xv.I rfl, by rw [iI, if_pos ⟨rfl, rfl⟩]⟩
      have ek : fbits (kn2 kd m g) (c2 k + (i + 1)) = if kn2 kd m g (c2 k + i) = true then fbits (kn2 kd m g) (c2 k + i) ||| 2 ^ (c2 k + i) else fbits (kn2 kd m g) (c2 k + i) := rfl
      simp only [f_Mo_asIn_L39, gd, shp sv, if_true, bind_s, Mo_isSo_e sv ha hm u6 u7, u1, Mo_seat_n (show i < 7 by omega) (show k < 7 by omega)]
      rw [if_neg (nI_ge hi (by omega)), ← E0, E, b2i_n, p1, shl_b (by omega), ev, fa_or, or_if, ek, ew, nI_1]
    · intro n v P
      refine ⟨v, ?_, ?_⟩
      · simp only [f_Mo_asIn_L39]
        rw [if_pos (nI_le (Nat.le_refl _) (by omega))]
      · rw [← c2_succ k (by omega)]
        exact P
  refine lpf (fun n i (v : xH) => f_Mo_asIn_L29 36 (nI a) n i v K) (fun o => ∃ h2, o = K (nI g) h2 ∧ PAs h0 (kn2 kd m g) (c2 g) h2) (fun i v => PAs h0 (kn2 kd m g) (c2 i) v) g (i := 1) g1 (by omega) ⟨s, Fr.refl _, z8⟩ ?_ ?_
  · intro n i v hi P
    obtain ⟨h2, a1, a2⟩ := inner i v (fun v25 h26 => f_Mo_asIn_L29 36 (nI a) n (nI i + (1 : Int32)) h26 K) hi P
    have u1 := (((P.2.1.2 36 (by omega)).2.2 7 rfl).1).trans m1
    refine Or.inr ⟨h2, ?_, a2⟩
    simp only [f_Mo_asIn_L29, gd, shp P.1, if_true, u1]
    rw [if_neg (nI_ge hi (by omega)), a1, nI_1]
  · intro n v P
    have u1 := (((P.2.1.2 36 (by omega)).2.2 7 rfl).1).trans m1
    refine ⟨v, ?_, P⟩
    simp only [f_Mo_asIn_L29, gd, shp P.1, if_true, u1]
    rw [if_pos (nI_le (Nat.le_refl _) (by omega))]
theorem dKn_tb {p k : Nat} (h : dTb p k = true) : dKn p k = true := by
  simp [dTb] at h
  simp [dKn]
  omega
theorem Y_asIn : Sp_asIn Inv := by
  intro x h I
  obtain ⟨g, f, t, n, r, T, j⟩ := I
  have j0 := j
  obtain ⟨sh, hn, z, ⟨⟨g1, g7, hf, ht, hd⟩, e1, e2, e3, m1, m2, m3⟩, jk, jw, jp, js, jst, jx, jr⟩ := j0
  have f24 := lt24 g7 hf
  have t24 := lt24 g7 ht
  have f31 := lt3 f24
  have t31 := lt3 t24
  have s36 : hK h 36 = 11 := by simp only [shp sh]
  obtain ⟨tn, hn5, tw1, tw2, tw⟩ := jw
  cases ct : ing x tn with
  | false =>
    refine ⟨-2, h, h, ?_, s36, ?_, ⟨g, f, t, n, r, T, j⟩⟩
    · simp only [f_Ma_asIn, gd, if_true, bind_s, shp sh, Ma_townAt_no sh tw1 ct]
    · simp only [f_Mo_asIn, gd, if_true, bind_s, shp sh, Mo_isTown_e sh hn5 tw2, ct, b2i_f]
  | true =>
    obtain ⟨a, ha, rfl⟩ := ing_ex (by omega) ct
    obtain ⟨⟨q1, q2⟩, q3, kd, m, q4, q5, q6, q7, q8, q9⟩ := tw a ha
    have q0 : ¬ hR h 22 a = 0 := by omega
    have FL := fbits_lt (kn2 kd m g) (c2 g)
    have F24 := lt24 g7 FL
    obtain ⟨A1, A2, A3⟩ := all_an FL
    have B1 : f_Ma_asIn 1 (nI a) h = some (nI (pcn 31 (fbits (kn2 kd m g) (c2 g))), hIu (hIu h 7 2 (nI (fbits (kn2 kd m g) (c2 g)))) 7 3 (nI (an (2 ^ c2 g - 1) (fbits (kn2 kd m g) (c2 g))))) := by
      simp only [f_Ma_asIn, gd, if_true, bind_s, shp sh, Ma_townAt_y sh hn5 tw1 ha, if_neg q0, Ma_friendsIn_e sh g1 g7 e1 q3 q4 q5 q8 q9, Ta_everyPair_n sh z g7 e1, f_Ta_layBits, an_I, pcI F24]
    obtain ⟨h2, C1, s2, x2, C2⟩ := Mo_asIn_L (h0 := hIu (hIu (hIu (hIu h 7 2 (nI (fbits (kn2 kd m g) (c2 g)))) 7 3 (nI (an (2 ^ c2 g - 1) (fbits (kn2 kd m g) (c2 g))))) 36 8 (0 : Int32)) 36 9 (nI (2 ^ c2 g - 1))) sh hn (show a < 5 by omega) q4 q5 g1 g7 (by rw [iI, if_neg (by omega), iI, if_neg (by omega), iI, if_neg (by omega), iI, if_neg (by omega), m1]) q6 q7 (by rw [iI, if_neg (by omega), iI, if_pos ⟨rfl, rfl⟩]; rfl) (fun v27 h28 => gd (hK h28 36 = 11) (Option.bind (f_Mo_bitsOf (hI h28 36 8) h28) (fun q30 => some (q30.1, q30.2))))
    refine ⟨_, _, h2, B1, s36, ?_, ⟨g, fbits (kn2 kd m g) (c2 g), an (2 ^ c2 g - 1) (fbits (kn2 kd m g) (c2 g)), n, r, T, J_tb s2 (((((Fr.refl h).I rfl).I rfl).I rfl).I rfl |>.trans (x2.mono (fun p k => dKn_tb))) j ⟨⟨g1, g7, FL, A3, A2⟩, ?_, ?_, ?_, ?_, ?_, ?_⟩⟩⟩
    · rw [C2] at C1
      simp only [f_Mo_asIn, gd, if_true, bind_s, kI, shp sh, Mo_isTown_e (h := hIu (hIu h 7 2 (nI (fbits (kn2 kd m g) (c2 g)))) 7 3 (nI (an (2 ^ c2 g - 1) (fbits (kn2 kd m g) (c2 g))))) sh hn5 tw2, ct, b2i_t, i10, if_false]
      have e7 : hI (hIu (hIu (hIu h 7 2 (nI (fbits (kn2 kd m g) (c2 g)))) 7 3 (nI (an (2 ^ c2 g - 1) (fbits (kn2 kd m g) (c2 g))))) 36 8 (0 : Int32)) 36 7 = nI g := by rw [iI, if_neg (by omega), iI, if_neg (by omega), iI, if_neg (by omega), m1]
      rw [e7, Mo_allOf_n g7, bind_s, kI, kI, kI, s36, if_pos rfl]
      refine C1.trans ?_
      simp only [gd, shp s2, if_true, Mo_bitsOf_e (lt3 F24), bind_s]
    · rw [x2.v hn 1 (p := 7) (by decide) rfl, iI, if_neg (by omega), iI, if_neg (by omega), iI, if_neg (by omega), iI, if_neg (by omega), e1]
    · rw [x2.v hn 2 (p := 7) (by decide) rfl, iI, if_neg (by omega), iI, if_neg (by omega), iI, if_neg (by omega), iI, if_pos ⟨rfl, rfl⟩]
    · rw [x2.v hn 3 (p := 7) (by decide) rfl, iI, if_neg (by omega), iI, if_neg (by omega), iI, if_pos ⟨rfl, rfl⟩]
    · rw [x2.v hn 7 (p := 36) (by decide) rfl, iI, if_neg (by omega), iI, if_neg (by omega), iI, if_neg (by omega), iI, if_neg (by omega), m1]
    · exact C2
    · rw [x2.v hn 9 (p := 36) (by decide) rfl, iI, if_pos ⟨rfl, rfl⟩, A1]
/-! what a town's prices are together -/
def isum (w : Nat → Int32) : Nat → Int32
  | 0 => 0
  | p + 1 => isum w p + w p
theorem isum_congr {w w2 : Nat → Int32} : ∀ n, (∀ k, k < n → w k = w2 k) → isum w n = isum w2 n
  | 0, _ => rfl
  | n + 1, h => by
    unfold isum
    rw [isum_congr n (fun k hk => h k (by omega)), h n (by omega)]
def lk2 (kd m g f t p : Nat) : Int32 := if (f.testBit p || t.testBit p) && (f.testBit p != kn2 kd m g p) then pC (nI kd) (nI m) (nI (lo p)) (nI (hi p)) else 0
theorem lk_if {x y : Int32} {b : Bool} : (if b = true then x + y else x) = x + (if b = true then y else 0) := by
  cases b
  · simp
  · rfl
section P43
variable {h : xH}
theorem Ma_like_L {a1 : Int32} {q kd m g W : Nat} (s : Shp h) (z : Jseat h) (g7 : g ≤ 7) (e1 : hI h 7 1 = nI g) (hk : hK h q = 8) (hW : W < 2 ^ 31) (x0 : hI h q 0 = nI kd) (x1 : hI h q 1 = nI m) : f_Ma_like_L49 1 a1 q (nI W) fu (0 : Int32) (0 : Int32) h (fun v38 v39 h40 => some (v38, h40)) = some (isum (fun p => if W.testBit p = true then pC (nI kd) (nI m) (nI (lo p)) (nI (hi p)) else 0) (c2 g), h) := by
  have hc := c2_le g g7
  refine lpf (fun n i (v : Int32) => f_Ma_like_L49 1 a1 q (nI W) n v i h (fun v38 v39 h40 => some (v38, h40))) (fun o => o = some (isum (fun p => if W.testBit p = true then pC (nI kd) (nI m) (nI (lo p)) (nI (hi p)) else 0) (c2 g), h)) (fun i v => v = isum (fun p => if W.testBit p = true then pC (nI kd) (nI m) (nI (lo p)) (nI (hi p)) else 0) i) (c2 g) (Nat.zero_le _) (by omega) rfl ?_ ?_
  · intro n i v hx e
    subst e
    refine Or.inr ⟨_, ?_, rfl⟩
    simp only [f_Ma_like_L49, jn, gd, shp s, if_true, e1, Se_pairsAmong_n g7, bind_s, tb hW (show i < 31 by omega), b2i_1]
    rw [if_neg (nI_ge hx (by omega))]
    show _ = f_Ma_like_L49 1 a1 q (nI W) n (isum (fun p => if W.testBit p = true then pC (nI kd) (nI m) (nI (lo p)) (nI (hi p)) else 0) i + (if W.testBit i = true then pC (nI kd) (nI m) (nI (lo i)) (nI (hi i)) else 0)) (nI (i + 1)) h _
    rw [← lk_if]
    cases W.testBit i
    · simp only [Bool.false_eq_true, if_false, nI_1]
    · simp only [if_true, Se_lower_e s z (show i < 21 by omega), Se_higher_e s z (show i < 21 by omega), bind_s, shp s, hk, To_price_e hk, x0, x1, nI_1]
  · intro n v e
    subst e
    simp only [f_Ma_like_L49, gd, shp s, if_true, e1, Se_pairsAmong_n g7, bind_s]
    rw [if_pos (nI_le (Nat.le_refl _) (by omega))]
theorem Mo_like_L (s : Shp h) {a kd m g f t : Nat} (ha : a < 5) (hd : kd < 6) (hm : m < 10) (g1 : 1 ≤ g) (g7 : g ≤ 7) (f31 : f < 2 ^ 31) (t31 : t < 2 ^ 31) (m1 : hI h 36 7 = nI g) (m2 : hI h 36 8 = nI f) (m3 : hI h 36 9 = nI (f ||| t)) (q6 : hI h 40 a = nI kd) (q7 : hI h 41 a = nI m) : f_Mo_like_L15 36 (nI a) fu (0 : Int32) (1 : Int32) h (fun v33 v34 h35 => some (v33, h35)) = some (isum (lk2 kd m g f t) (c2 g), h) := by
  have inner : ∀ k K, k < g → f_Mo_like_L26 36 (nI a) (nI k) fu (isum (lk2 kd m g f t) (c2 k)) (0 : Int32) h K = K (isum (lk2 kd m g f t) (c2 (k + 1))) (nI k) h := by
    intro k K hk7
    refine lpf (fun n i (v : Int32) => f_Mo_like_L26 36 (nI a) (nI k) n v i h K) (fun o => o = K (isum (lk2 kd m g f t) (c2 (k + 1))) (nI k) h) (fun i v => v = isum (lk2 kd m g f t) (c2 k + i)) k (Nat.zero_le _) (by omega) rfl ?_ ?_
    · intro n i v hi e
      subst e
      obtain ⟨p1, p2, p3, p4, p5⟩ := prs_c2 k (by omega) i hi
      obtain ⟨E0, E⟩ := kn_e kd hd m hm g (by omega) k hk7 i hi
      have E2 := pr_e kd hd m hm k (by omega) i hi
      have ew : kn2 kd m g (c2 k + i) = (kC (nI kd) (nI m) (nI i) (nI k) (nI g) != 0) := by
        unfold kn2 kn
        rw [p2, p3]
      obtain ⟨bb, hb⟩ : ∃ bb, bb = (kC (nI kd) (nI m) (nI i) (nI k) (nI g) != 0) := ⟨_, rfl⟩
      rw [← hb] at ew E
      have el : lk2 kd m g f t (c2 k + i) = if (f.testBit (c2 k + i) || t.testBit (c2 k + i)) && (f.testBit (c2 k + i) != kn2 kd m g (c2 k + i)) then pC (nI kd) (nI m) (nI i) (nI k) else 0 := by
        unfold lk2
        rw [p2, p3]
      refine Or.inr ⟨_, ?_, rfl⟩
      show _ = f_Mo_like_L26 36 (nI a) (nI k) n (isum (lk2 kd m g f t) (c2 k + i) + lk2 kd m g f t (c2 k + i)) (nI (i + 1)) h K
      simp only [f_Mo_like_L26, jn, gd, shp s, if_true, bind_s, Mo_seat_n (show i < 7 by omega) (show k < 7 by omega), p1, Mo_pairAt_n s f31 t31 m2 m3 (show c2 k + i < 31 by omega), Mo_isSo_e s ha hm q6 q7, m1, Mo_price_e s ha q6 q7, ← E0, ← E2, E]
      rw [if_neg (nI_ge hi (by omega)), el, ← lk_if, ew, nI_1]
      unfold lkv
      cases f.testBit (c2 k + i)
      · cases t.testBit (c2 k + i)
        · rfl
        · cases bb
          · rfl
          · rfl
      · cases bb
        · cases t.testBit (c2 k + i) <;> rfl
        · cases t.testBit (c2 k + i) <;> rfl
    · intro n v e
      subst e
      simp only [f_Mo_like_L26]
      rw [if_pos (nI_le (Nat.le_refl _) (by omega)), c2_succ k (by omega)]
  refine lpf (fun n i (v : Int32) => f_Mo_like_L15 36 (nI a) n v i h (fun v33 v34 h35 => some (v33, h35))) (fun o => o = some (isum (lk2 kd m g f t) (c2 g), h)) (fun i v => v = isum (lk2 kd m g f t) (c2 i)) g (i := 1) g1 (by omega) rfl ?_ ?_
  · intro n i v hi e
    subst e
    refine Or.inr ⟨_, ?_, rfl⟩
    simp only [f_Mo_like_L15, gd, shp s, if_true, m1]
    rw [if_neg (nI_ge hi (by omega)), inner i _ hi, nI_1]
  · intro n v e
    subst e
    simp only [f_Mo_like_L15, gd, shp s, if_true, m1]
    rw [if_pos (nI_le (Nat.le_refl _) (by omega))]
end P43
theorem Y_like : Sp_like Inv := by
  intro x h I
  obtain ⟨g, f, t, n, r, T, j⟩ := I
  have j0 := j
  obtain ⟨sh, hn, z, ⟨⟨g1, g7, hf, ht, hd⟩, e1, e2, e3, m1, m2, m3⟩, jk, jw, jp, js, jst, jx, jr⟩ := j0
  have f24 := lt24 g7 hf
  have t24 := lt24 g7 ht
  have f31 := lt3 f24
  have t31 := lt3 t24
  have s36 : hK h 36 = 11 := by simp only [shp sh]
  obtain ⟨tn, hn5, tw1, tw2, tw⟩ := jw
  cases ct : ing x tn with
  | false =>
    refine ⟨-2, h, h, ?_, s36, ?_, ⟨g, f, t, n, r, T, j⟩⟩
    · simp only [f_Ma_like, gd, if_true, bind_s, shp sh, Ma_townAt_no sh tw1 ct]
    · simp only [f_Mo_like, gd, if_true, bind_s, shp sh, Mo_isTown_e sh hn5 tw2, ct, b2i_f]
  | true =>
    obtain ⟨a, ha, rfl⟩ := ing_ex (by omega) ct
    obtain ⟨⟨q1, q2⟩, q3, kd, m, q4, q5, q6, q7, q8, q9⟩ := tw a ha
    have q0 : ¬ hR h 22 a = 0 := by omega
    have FL := fbits_lt (kn2 kd m g) (c2 g)
    have F24 := lt24 g7 FL
    refine ⟨isum (lk2 kd m g f t) (c2 g), h, h, ?_, s36, ?_, ⟨g, f, t, n, r, T, j⟩⟩
    · have W31 : ((f ||| t) &&& (f ^^^ fbits (kn2 kd m g) (c2 g))) < 2 ^ 31 := Nat.lt_of_le_of_lt Nat.and_le_left (Nat.or_lt_two_pow f31 t31)
      simp only [f_Ma_like, gd, if_true, bind_s, shp sh, Ma_townAt_y sh hn5 tw1 ha, if_neg q0, Ma_friendsIn_e sh g1 g7 e1 q3 q4 q5 q8 q9, e2, e3, fa_or, fb_xorI, fa_and, Ma_like_L sh z g7 e1 q3 W31 q8 q9]
      congr 2
      refine isum_congr _ (fun p hp => ?_)
      unfold lk2
      rw [Nat.testBit_and, Nat.testBit_or, Nat.testBit_xor, fbits_bit, decide_eq_true hp, Bool.true_and]
    · simp only [f_Mo_like, gd, if_true, bind_s, shp sh, Mo_isTown_e sh hn5 tw2, ct, b2i_t, i10, if_false]
      exact Mo_like_L sh (by omega) q4 q5 g1 g7 f31 t31 m1 m2 m3 q6 q7

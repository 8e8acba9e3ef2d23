/-! the reference asks its rule and gathers the threes -/
def dSy (p k : Nat) : Bool := !(decide (p = 36) && decide (13 ≤ k) && decide (k ≤ 27))
theorem dPar_sy {p k : Nat} (h : dSy p k = true) : dPar p k = true := by
  simp [dSy] at h
  unfold dPar
  cases e : (p == 36) with
  | false => rfl
  | true =>
    have e2 := eq_of_beq e
    have hk : k < 13 ∨ 27 < k := by omega
    cases e3 : Nat.ble 19 k with
    | false => rfl
    | true =>
      have e4 := Nat.le_of_ble_eq_true e3
      have : Nat.ble k 27 = false := by
        cases e5 : Nat.ble k 27 with
        | false => rfl
        | true => have := Nat.le_of_ble_eq_true e5; omega
      rw [this]
      rfl
section P48
variable {h : xH} {g r : Nat} {T : Nat → Nat → (Nat → Int32) → Int32}
theorem Mo_says_e (R : RdM g r T h) {w : Nat} (hw : w < 3) (a b c d e : Int32) : ∃ h', f_Mo_says 36 (nI w) a b c d e h = some (T r w (nm6 a b c d e (nI g)), h') ∧ Shp h' ∧ Fr dSy h h' := by
  obtain ⟨a1, a2, ⟨a3, a4⟩, a5, ⟨z, b1, b2, b3⟩, a7, a8⟩ := R
  have F : Fr dSy h (hIu (hIu (hIu (hIu (hIu (hIu h 36 13 a) 36 14 b) 36 15 c) 36 16 d) 36 17 e) 36 18 (nI g)) := ((((((Fr.refl h).I rfl).I rfl).I rfl).I rfl).I rfl).I rfl
  have s4 : Shp (hIu (hIu (hIu (hIu (hIu (hIu h 36 13 a) 36 14 b) 36 15 c) 36 16 d) 36 17 e) 36 18 (nI g)) := a1
  obtain ⟨h2, c1, c2, c3⟩ := b3 (hIu (hIu (hIu (hIu (hIu (hIu h 36 13 a) 36 14 b) 36 15 c) 36 16 d) 36 17 e) 36 18 (nI g)) s4 ((F.v a2 r (by decide) rfl).trans b2) (fun i hi => F.v a2 _ (by decide) rfl) w hw
  refine ⟨h2, ?_, c2, F.trans (c3.mono (fun p k => dPar_sy))⟩
  have E7 : hI (hIu (hIu (hIu (hIu (hIu h 36 13 a) 36 14 b) 36 15 c) 36 16 d) 36 17 e) 36 7 = nI g := by
    rw [iI, if_neg (by omega), iI, if_neg (by omega), iI, if_neg (by omega), iI, if_neg (by omega), iI, if_neg (by omega), a4]
  have E4 : hI (hIu (hIu (hIu (hIu (hIu (hIu h 36 13 a) 36 14 b) 36 15 c) 36 16 d) 36 17 e) 36 18 (nI g)) 36 4 = nI r := (F.v a2 4 (by decide) rfl).trans a8
  simp only [f_Mo_says, gd, hp, shp a1, if_true, E7, E4, c1, bind_s]
  congr 2
  refine a5 r w _ _ (fun x hx => ?_)
  rcases (by omega : x = 0 ∨ x = 1 ∨ x = 2 ∨ x = 3 ∨ x = 4 ∨ x = 5) with rfl | rfl | rfl | rfl | rfl | rfl <;> rfl
theorem RdM_sy {h' : xH} (R : RdM g r T h) (s : Shp h') (x : Fr dSy h h') : RdM g r T h' := RdM_fr R s x rfl rfl rfl (fun k => rfl)
end P48
def pos (g i j k : Nat) : Nat := (tm g).countP (fun t => decide (t.1 < i ∨ t.1 = i ∧ (t.2.1 < j ∨ t.2.1 = j ∧ t.2.2 < k)))
theorem pos_1a : ∀ g, g < 8 → ∀ k, k < g → ∀ j, j < k → ∀ i, i < j → (tmn g (pos g i j k) == (i, j, k) && (pos g i j (k + 1) == pos g i j k + 1 && decide (pos g i j k < c3 g))) = true := by decide +kernel
theorem pos_1 (g : Nat) (hg : g < 8) (k : Nat) (hk : k < g) (j : Nat) (hj : j < k) (i : Nat) (hi : i < j) : tmn g (pos g i j k) = (i, j, k) ∧ pos g i j (k + 1) = pos g i j k + 1 ∧ pos g i j k < c3 g := by
  have e := pos_1a g hg k hk j hj i hi
  rw [Bool.and_eq_true, Bool.and_eq_true] at e
  exact ⟨eq_of_beq e.1, eq_of_beq e.2.1, of_decide_eq_true e.2.2⟩
theorem pos_2 : ∀ g, g < 8 → ∀ j, j < g → ∀ i, i < j → pos g i j g = pos g i (j + 1) (j + 2) := by decide +kernel
theorem pos_3 : ∀ g, g < 8 → ∀ i, i < g → pos g i g (g + 1) = pos g (i + 1) (i + 2) (i + 3) := by decide +kernel
theorem pos_4 : ∀ g, g < 8 → pos g 0 1 2 = 0 ∧ pos g g (g + 1) (g + 2) = c3 g := by decide +kernel
theorem msk3 : ∀ k, k < 7 → ∀ j, j < k → ∀ i, i < j → (jShl (1 : Int32) (nI (prs i j)) ||| jShl (1 : Int32) (nI (prs i k))) ||| jShl (1 : Int32) (nI (prs j k)) = nI (pm3 (i, j, k)) := by decide +kernel
theorem who3 (i j k : Nat) : ((100 : Int32) * nI i + (10 : Int32) * nI j) + nI k = nI (wh3 (i, j, k)) := by
  rw [show (100 : Int32) = nI 100 from rfl, show (10 : Int32) = nI 10 from rfl, li_mul, li_mul, nI_add, nI_add]
  rfl
theorem b2i_nb (v : Int32) : nb (if v = 0 then (0 : Int32) else (1 : Int32)) = b2i (v != 0) := by
  rw [nb_if]
  by_cases e : v = 0
  · rw [if_pos e, e]
    rfl
  · rw [if_neg e, show (v != 0) = true from bne_iff_ne.mpr e]
    rfl
def dGa (p k : Nat) : Bool := !((decide (p = 36) && ((decide (13 ≤ k) && decide (k ≤ 27)) || decide (k = 32))) || (decide (42 ≤ p) && decide (p ≤ 45)))
theorem dGa_sy {p k : Nat} (h : dGa p k = true) : dSy p k = true := by
  simp [dGa] at h
  simp [dSy]
  omega
/-- the rows of the threes before that many -/
def RwG (g r : Nat) (T : Nat → Nat → (Nat → Int32) → Int32) (t : Nat) (v : xH) : Prop := hI v 42 t = nI (pm3 (tmn g t)) ∧ hI v 43 t = nI (wh3 (tmn g t)) ∧ hI v 44 t = b2i (T r 0 (nm6 (nI (tmn g t).1) (nI (tmn g t).2.1) (nI (tmn g t).2.2) 3 3 (nI g)) != 0) ∧ hI v 45 t = b2i (T r 0 (nm6 (nI (tmn g t).1) (nI (tmn g t).2.1) (nI (tmn g t).2.2) 0 3 (nI g)) != 0)
def PGa (g r : Nat) (T : Nat → Nat → (Nat → Int32) → Int32) (h0 : xH) (m : Nat) (v : xH) : Prop := Shp v ∧ Fr dGa h0 v ∧ hI v 36 32 = nI m ∧ ∀ t, t < m → RwG g r T t v
section P48
variable {h : xH} {g r : Nat} {T : Nat → Nat → (Nat → Int32) → Int32}
theorem RdM_ga {h' : xH} (R : RdM g r T h) (s : Shp h') (x : Fr dGa h h') : RdM g r T h' := RdM_fr R s x rfl rfl rfl (fun k => rfl)
theorem PGa_step (R : RdM g r T h) {i j k : Nat} (hk : k < g) (hj : j < k) (hi : i < j) {v : xH} (P : PGa g r T h (pos g i j k) v) (n : Nat) (K : Int32 → xH → Option (Unit × xH)) : ∃ v', f_Mo_gathers_L31 36 (nI i) (nI j) (n + 1) (nI k) v K = f_Mo_gathers_L31 36 (nI i) (nI j) n (nI (k + 1)) v' K ∧ PGa g r T h (pos g i j (k + 1)) v' := by
  obtain ⟨s1, x1, y1, z1⟩ := P
  have g7 := R.2.2.1.1
  obtain ⟨p1, p2, p3⟩ := pos_1 g (by omega) k hk j hj i hi
  have n51 := R.2.1
  have n1 : 51 ≤ hN v := Nat.le_trans n51 x1.1
  have c35 := c3_le g g7
  generalize hm : pos g i j k = m at *
  have R1 := RdM_ga R s1 x1
  have hin : ¬ (nI m < 0 ∨ 35 ≤ m) := nin (by omega) (by omega)
  -- the two stores
  have s2 : Shp (hIu (hIu v 42 m (nI (pm3 (i, j, k)))) 43 m (nI (wh3 (i, j, k)))) := s1
  have x2 : Fr dGa v (hIu (hIu v 42 m (nI (pm3 (i, j, k)))) 43 m (nI (wh3 (i, j, k)))) := ((Fr.refl v).I rfl).I rfl
  obtain ⟨v3, a1, a2, a3⟩ := Mo_says_e (RdM_ga R1 s2 x2) (w := 0) (by decide) (nI i) (nI j) (nI k) 3 3
  have n3 : 51 ≤ hN v3 := Nat.le_trans n1 a3.1
  have s4 : Shp (hIu v3 44 m (b2i (T r 0 (nm6 (nI i) (nI j) (nI k) 3 3 (nI g)) != 0))) := a2
  have x4 : Fr dGa v (hIu v3 44 m (b2i (T r 0 (nm6 (nI i) (nI j) (nI k) 3 3 (nI g)) != 0))) := (x2.trans (a3.mono (fun p k => dGa_sy))).I rfl
  obtain ⟨v5, b1, b2, b3⟩ := Mo_says_e (RdM_ga R1 s4 x4) (w := 0) (by decide) (nI i) (nI j) (nI k) 0 3
  have n5 : 51 ≤ hN v5 := Nat.le_trans n3 b3.1
  have x6 : Fr dGa v (hIu (hIu v5 45 m (b2i (T r 0 (nm6 (nI i) (nI j) (nI k) 0 3 (nI g)) != 0))) 36 32 (nI (m + 1))) := ((x4.trans (b3.mono (fun p k => dGa_sy))).I rfl).I rfl
  have w2 : hI (hIu v 42 m (nI (pm3 (i, j, k)))) 36 32 = nI m := by rw [iI, if_neg (by omega), y1]
  have w2' : hI (hIu (hIu v 42 m (nI (pm3 (i, j, k)))) 43 m (nI (wh3 (i, j, k)))) 36 32 = nI m := by rw [iI, if_neg (by omega), w2]
  have w3 : hI v3 36 32 = nI m := (a3.v n1 32 (by decide) rfl).trans w2'
  have w4 : hI (hIu v3 44 m (b2i (T r 0 (nm6 (nI i) (nI j) (nI k) 3 3 (nI g)) != 0))) 36 32 = nI m := by rw [iI, if_neg (by omega), w3]
  have w5 : hI v5 36 32 = nI m := (b3.v n3 32 (by decide) rfl).trans w4
  have w6 : hI (hIu v5 45 m (b2i (T r 0 (nm6 (nI i) (nI j) (nI k) 0 3 (nI g)) != 0))) 36 32 = nI m := by rw [iI, if_neg (by omega), w5]
  refine ⟨hIu (hIu v5 45 m (b2i (T r 0 (nm6 (nI i) (nI j) (nI k) 0 3 (nI g)) != 0))) 36 32 (nI (m + 1)), ?_, b2, x1.trans x6, by rw [iI, if_pos ⟨rfl, rfl⟩, p2], ?_⟩
  · rw [f_Mo_gathers_L31]
    simp only [gd, hp, shp s1, if_true, R1.2.2.1.2]
    rw [if_neg (nI_ge hk (by omega))]
    simp only [Mo_seat_n (show i < 7 by omega) (show j < 7 by omega), Mo_seat_n (show i < 7 by omega) (show k < 7 by omega), Mo_seat_n (show j < 7 by omega) (show k < 7 by omega), bind_s, msk3 k (by omega) j hj i hi, who3, kI, lI, rI, shp s1, if_true, y1, nI_clamp (show m < 2 ^ 31 by omega), if_pos hin, w2, w2']
    rw [show f_Mo_says 36 (0 : Int32) (nI i) (nI j) (nI k) 3 3 (hIu (hIu v 42 m (nI (pm3 (i, j, k)))) 43 m (nI (wh3 (i, j, k)))) = _ from a1]
    simp only [bind_s, kI, lI, rI, shp a2, if_true, if_pos hin, b2i_nb, w4, nI_clamp (show m < 2 ^ 31 by omega)]
    rw [show f_Mo_says 36 (0 : Int32) (nI i) (nI j) (nI k) 0 3 (hIu v3 44 m (b2i (T r 0 (nm6 (nI i) (nI j) (nI k) 3 3 (nI g)) != 0))) = _ from b1]
    simp only [bind_s, kI, lI, rI, shp b2, if_true, if_pos hin, b2i_nb, w6, nI_1]
  · intro t ht
    rw [p2] at ht
    have base : ∀ p q, (p = 42 ∨ p = 43) → hI (hIu (hIu v5 45 m (b2i (T r 0 (nm6 (nI i) (nI j) (nI k) 0 3 (nI g)) != 0))) 36 32 (nI (m + 1))) p q = hI (hIu (hIu v 42 m (nI (pm3 (i, j, k)))) 43 m (nI (wh3 (i, j, k)))) p q := by
      intro p q hp
      rw [iI, if_neg (by omega), iI, if_neg (by omega), b3.v n3 q (by omega) (by simp [dSy]; omega), iI, if_neg (by omega), a3.v n1 q (by omega) (by simp [dSy]; omega)]
    have b44 : ∀ q, hI (hIu (hIu v5 45 m (b2i (T r 0 (nm6 (nI i) (nI j) (nI k) 0 3 (nI g)) != 0))) 36 32 (nI (m + 1))) 44 q = if q = m then b2i (T r 0 (nm6 (nI i) (nI j) (nI k) 3 3 (nI g)) != 0) else hI v 44 q := by
      intro q
      rw [iI, if_neg (by omega), iI, if_neg (by omega), b3.v n3 q (by decide) rfl, iI]
      by_cases e : q = m
      · rw [if_pos ⟨rfl, e⟩, if_pos e]
      · rw [if_neg (fun z => e z.2), if_neg e, a3.v n1 q (by decide) rfl, iI, if_neg (by omega), iI, if_neg (by omega)]
    have b45 : ∀ q, hI (hIu (hIu v5 45 m (b2i (T r 0 (nm6 (nI i) (nI j) (nI k) 0 3 (nI g)) != 0))) 36 32 (nI (m + 1))) 45 q = if q = m then b2i (T r 0 (nm6 (nI i) (nI j) (nI k) 0 3 (nI g)) != 0) else hI v 45 q := by
      intro q
      rw [iI, if_neg (by omega), iI]
      by_cases e : q = m
      · rw [if_pos ⟨rfl, e⟩, if_pos e]
      · rw [if_neg (fun z => e z.2), if_neg e, b3.v n3 q (by decide) rfl, iI, if_neg (by omega), a3.v n1 q (by decide) rfl, iI, if_neg (by omega), iI, if_neg (by omega)]
    unfold RwG
    rw [base 42 t (Or.inl rfl), base 43 t (Or.inr rfl), b44, b45]
    by_cases e : t = m
    · subst e
      rw [if_pos rfl, if_pos rfl, p1, iI, if_neg (by omega), iI, if_pos ⟨rfl, rfl⟩, iI, if_pos ⟨rfl, rfl⟩]
      exact ⟨rfl, rfl, rfl, rfl⟩
    · rw [if_neg e, if_neg e, iI, if_neg (by omega), iI, if_neg (by omega), iI, if_neg (by omega), iI, if_neg (by omega)]
      exact z1 t (by omega)
theorem Mo_gathers_e (R : RdM g r T h) (js : Jst g r T h) : ∃ h', f_Mo_gathers 36 h = some ((), h') ∧ Shp h' ∧ Fr dGa h h' ∧ Jga g h' := by
  have g7 := R.2.2.1.1
  have n51 := R.2.1
  have gI : ∀ {m v}, PGa g r T h m v → hI v 36 7 = nI g := fun P => (P.2.1.v n51 7 (by decide) rfl).trans R.2.2.1.2
  have L3 : ∀ i j v K, i < j → j < g → PGa g r T h (pos g i j (j + 1)) v → ∃ v', f_Mo_gathers_L31 36 (nI i) (nI j) fu (nI (j + 1)) v K = K (nI g) v' ∧ PGa g r T h (pos g i (j + 1) (j + 2)) v' := by
    intro i j v K hi hj P
    refine lpf (fun n k v => f_Mo_gathers_L31 36 (nI i) (nI j) n k v K) (fun o => ∃ v', o = K (nI g) v' ∧ PGa g r T h (pos g i (j + 1) (j + 2)) v') (fun k v => j < k ∧ PGa g r T h (pos g i j k) v) g (i := j + 1) (by omega) (by omega) ⟨by omega, P⟩ ?_ ?_
    · intro n k v hk ⟨q, P⟩
      obtain ⟨v', a1, a2⟩ := PGa_step R hk q hi P n K
      exact Or.inr ⟨v', a1, by omega, a2⟩
    · intro n v ⟨q, P⟩
      refine ⟨v, ?_, ?_⟩
      · simp only [f_Mo_gathers_L31, gd, shp P.1, if_true, gI P]
        rw [if_pos (nI_le (Nat.le_refl _) (by omega))]
      · rw [← pos_2 g (by omega) j hj i hi]
        exact P
  have L2 : ∀ i v K, i < g → PGa g r T h (pos g i (i + 1) (i + 2)) v → ∃ v', f_Mo_gathers_L19 36 (nI i) fu (nI (i + 1)) v K = K (nI g) v' ∧ PGa g r T h (pos g (i + 1) (i + 2) (i + 3)) v' := by
    intro i v K hi P
    refine lpf (fun n k v => f_Mo_gathers_L19 36 (nI i) n k v K) (fun o => ∃ v', o = K (nI g) v' ∧ PGa g r T h (pos g (i + 1) (i + 2) (i + 3)) v') (fun k v => i < k ∧ PGa g r T h (pos g i k (k + 1)) v) g (i := i + 1) (by omega) (by omega) ⟨by omega, P⟩ ?_ ?_
    · intro n k v hk ⟨q, P⟩
      obtain ⟨v', a1, a2⟩ := L3 i k v (fun v51 h52 => f_Mo_gathers_L19 36 (nI i) n (nI (k + 1)) h52 K) q hk P
      refine Or.inr ⟨v', ?_, by omega, a2⟩
      simp only [f_Mo_gathers_L19, gd, shp P.1, if_true, gI P]
      rw [if_neg (nI_ge hk (by omega)), nI_1, a1]
    · intro n v ⟨q, P⟩
      refine ⟨v, ?_, ?_⟩
      · simp only [f_Mo_gathers_L19, gd, shp P.1, if_true, gI P]
        rw [if_pos (nI_le (Nat.le_refl _) (by omega))]
      · rw [← pos_3 g (by omega) i hi]
        exact P
  have L1 : ∃ v', f_Mo_gathers_L7 36 fu (0 : Int32) (hIu h 36 32 (0 : Int32)) (fun v55 h56 => some ((), h56)) = some ((), v') ∧ PGa g r T h (c3 g) v' := by
    have P0 : PGa g r T h (pos g 0 1 2) (hIu h 36 32 (0 : Int32)) := ⟨R.1, (Fr.refl h).I rfl, by rw [iI, if_pos ⟨rfl, rfl⟩, (pos_4 g (by omega)).1]; rfl, fun t ht => by rw [(pos_4 g (by omega)).1] at ht; omega⟩
    refine lpf (fun n k v => f_Mo_gathers_L7 36 n k v (fun v55 h56 => some ((), h56))) (fun o => ∃ v', o = some ((), v') ∧ PGa g r T h (c3 g) v') (fun k v => PGa g r T h (pos g k (k + 1) (k + 2)) v) g (i := 0) (Nat.zero_le _) (by omega) P0 ?_ ?_
    · intro n k v hk P
      obtain ⟨v', a1, a2⟩ := L2 k v (fun v53 h54 => f_Mo_gathers_L7 36 n (nI (k + 1)) h54 (fun v55 h56 => some ((), h56))) hk P
      refine Or.inr ⟨v', ?_, a2⟩
      simp only [f_Mo_gathers_L7, gd, shp P.1, if_true, gI P]
      rw [if_neg (nI_ge hk (by omega)), nI_1, a1]
    · intro n v P
      refine ⟨v, ?_, ?_⟩
      · simp only [f_Mo_gathers_L7, gd, shp P.1, if_true, gI P]
        rw [if_pos (nI_le (Nat.le_refl _) (by omega))]
      · rw [← (pos_4 g (by omega)).2]
        exact P
  obtain ⟨v', a1, a2, a3, a4, a5⟩ := L1
  refine ⟨v', ?_, a2, a3, a4, ?_⟩
  · simp only [f_Mo_gathers, gd, shp R.1, if_true]
    exact a1
  · intro t ht
    obtain ⟨b1, b2, b3, b4⟩ := a5 t ht
    obtain ⟨t1, t2, t3⟩ := tm_in g g7 t ht
    have e := js.2 (tmn g t).1 (tmn g t).2.1 (tmn g t).2.2 t1 t2 t3
    refine ⟨b1, b2, ?_, ?_⟩
    · rw [b3, a3.v n51 _ (by decide) rfl, ← e.1]
    · rw [b4, a3.v n51 _ (by decide) rfl, ← e.2]
end P48

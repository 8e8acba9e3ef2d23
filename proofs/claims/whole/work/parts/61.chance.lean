/-! the chance in lowest terms -/
def chl : Nat → Nat → Nat → Nat × Nat
  | 0, b, a => (b, a)
  | k + 1, b, a => if b ≤ 1 then (b, a) else if a % 2 = 0 then chl k (b / 2) (a / 2) else (b, a)
theorem chl_g : ∀ m, m < 11 → ∀ a, a < 2 ^ m + 1 → chl 10 (2 ^ m) a = (2 ^ m / Nat.gcd (2 ^ m) a, a / Nat.gcd (2 ^ m) a) := by decide +kernel
section P61
variable {h : xH}
theorem Ma_chance_L {a1 : Int32} (K : Int32 → Int32 → Int32 → xH → Option (Int64 × xH)) : ∀ (k tw b a n : Nat), k + tw = 10 → k < n → b < 2 ^ 31 → a < 2 ^ 31 → ∃ x, f_Ma_chance_L52 1 a1 n (nI b) (nI a) (nI tw) h K = K (nI (chl k b a).1) (nI (chl k b a).2) x h := by
  intro k
  induction k with
  | zero =>
    intro tw b a n e hn hb ha
    obtain ⟨n, rfl⟩ : ∃ q, n = q + 1 := ⟨n - 1, by omega⟩
    refine ⟨nI tw, ?_⟩
    rw [f_Ma_chance_L52, if_pos (show (10 : Int32) ≤ nI tw from nI_le (a := 10) (by omega) (by omega))]
    rfl
  | succ k ih =>
    intro tw b a n e hn hb ha
    obtain ⟨n, rfl⟩ : ∃ q, n = q + 1 := ⟨n - 1, by omega⟩
    rw [f_Ma_chance_L52, if_neg (show ¬ (10 : Int32) ≤ nI tw from nI_ge (b := 10) (by omega) (by decide))]
    have er : jRem (nI a) (2 : Int32) = nI (a % 2) := pk_rem (d := 2) ha (by decide) (by decide)
    have d1 : nI b / (2 : Int32) = nI (b / 2) := pk_div (d := 2) hb (by decide) (by decide)
    have d2 : nI a / (2 : Int32) = nI (a / 2) := pk_div (d := 2) ha (by decide) (by decide)
    by_cases c1 : b ≤ 1
    · refine ⟨nI tw, ?_⟩
      have e1 : chl (k + 1) b a = (b, a) := by
        conv => lhs; unfold chl
        exact if_pos c1
      rw [if_pos (show nI b ≤ (1 : Int32) from nI_le (b := 1) c1 (by decide)), e1]
    · rw [if_neg (show ¬ nI b ≤ (1 : Int32) from nI_ge (a := 1) (by omega) hb)]
      by_cases c2 : a % 2 = 0
      · have e1 : chl (k + 1) b a = chl k (b / 2) (a / 2) := by
          conv => lhs; unfold chl
          rw [if_neg c1, if_pos c2]
        obtain ⟨x, q⟩ := ih (tw + 1) (b / 2) (a / 2) n (by omega) (by omega) (by omega) (by omega)
        refine ⟨x, ?_⟩
        rw [er, c2, if_pos (show nI 0 = 0 from rfl), d1, d2, nI_1, e1]
        exact q
      · refine ⟨nI tw, ?_⟩
        have e1 : chl (k + 1) b a = (b, a) := by
          conv => lhs; unfold chl
          rw [if_neg c1, if_neg c2]
        rw [er, if_neg (nI_ne0 (by omega) (by omega)), e1]
theorem Mo_chance_L {a1 : Int32} {a2 a4 : Int64} (K : Int64 → Int64 → xH → Option (Int64 × xH)) : ∀ (n q p : Nat), q < n → p < 2 ^ 62 → q < 2 ^ 62 → f_Mo_chance_L52 36 a1 a2 a4 n (lN p) (lN q) h K = K (lN (Nat.gcd q p)) 0 h := by
  intro n
  induction n with
  | zero => intro q p hq; omega
  | succ n ih =>
    intro q p hq hp hq2
    rw [f_Mo_chance_L52]
    by_cases c : q = 0
    · subst c
      rw [if_pos (show jCmpL (lN 0) (0 : Int64) = 0 from (lg_cmp_eq _ _).mpr rfl), Nat.gcd_zero_left]
      rfl
    · have nz : ¬ lN q = 0 := by
        show ¬ lN q = lN 0
        rw [pk_lEQ (by omega) (by decide)]
        exact c
      have r : jRemL (lN p) (lN q) = lN (p % q) := pk_lRem (by omega) (by omega) (by omega)
      have ml := Nat.mod_lt p (show 0 < q by omega)
      rw [if_neg (show ¬ jCmpL (lN q) (0 : Int64) = 0 from fun z => nz ((lg_cmp_eq _ _).mp z)), gd_t nz, r, ih (p % q) q (by omega) hq2 (by omega), ← Nat.gcd_rec]
end P61
theorem shlL : ∀ m, m < 11 → jShlL (1 : Int64) (nI m) = lN (2 ^ m) := by decide +kernel
theorem wys_le {c d : Nat → Int32} {g f U : Nat} (g7 : g ≤ 7) (hU : U < 2 ^ c2 g) : (wys c d g f U).1 ≤ 2 ^ pcn 31 U := by
  have := (Fw_le (vO c d g) (c := 35) (fun x => Nat.le_trans (hmt_le _ _ _ _ _) (c3_le g g7)) (dl U (c2 g)) f (0, 0)).1
  rw [pcn_dl g7 hU, Nat.zero_add] at this
  exact this
theorem Y_chance : Sp_chance Inv := by
  intro w h I
  obtain ⟨g, f, t, n, r, T, j⟩ := I
  have j0 := j
  obtain ⟨sh, hn, z, ⟨⟨g1, g7, hf, ht, hd⟩, e1, e2, e3, m1, m2, m3⟩, jk, jw, jp, js, jst, jx, jr⟩ := j0
  have f24 := lt24 g7 hf
  have t24 := lt24 g7 ht
  have f31 := lt3 f24
  have t31 := lt3 t24
  have s36 : hK h 36 = 11 := by simp only [shp sh]
  have UL := uns_lt (g := g) (x := f ||| t) g7
  have U24 := lt24 g7 UL
  have uc : (nI (pcn 31 (an (2 ^ c2 g - 1) (f ||| t))) ≤ (10 : Int32)) = (pcn 31 (an (2 ^ c2 g - 1) (f ||| t)) ≤ 10) := li_le (pcn_lt32 _) (by decide)
  cases cw : inr w 1 with
  | false =>
    refine ⟨-4611686018427387904, h, h, ?_, s36, ?_, ⟨g, f, t, n, r, T, j⟩⟩
    · simp only [f_Ma_chance, jn, Ma_isWithin_1, cw, bind_s, b2i_f, if_true]
    · simp only [f_Mo_chance, jn, Mo_in_1, cw, bind_s, b2i_f, if_true]
  | true =>
    by_cases hu : pcn 31 (an (2 ^ c2 g - 1) (f ||| t)) ≤ 10
    · obtain ⟨h1, a1, a2, a3, a4, a5⟩ := fillAll_e sh hn z g7 e1 e2 e3 hf ht hd jst.1 hu
      have j1 := J_all a2 (a3.mono (fun p k => dWn_all)) j
      have n1 := Nat.le_trans hn a3.1
      have p1 := (a3.v hn 1 (p := 7) (by decide) rfl).trans e1
      have p2 := (a3.v hn 2 (p := 7) (by decide) rfl).trans e2
      have p3 := (a3.v hn 3 (p := 7) (by decide) rfl).trans e3
      have q1 := (a3.v hn 7 (p := 36) (by decide) rfl).trans m1
      have q2 := (a3.v hn 8 (p := 36) (by decide) rfl).trans m2
      have q3 := (a3.v hn 9 (p := 36) (by decide) rfl).trans m3
      obtain ⟨h2, b1, b2, b3, b4⟩ := waysWithout_e (t := t) (J_M j1) (Jst_fr hn a3 rfl (fun k => ⟨rfl, rfl⟩) jst) hf q2 q3 hu
      rw [show hI h1 12 = hI h 12 from funext fun k => a3.v hn k (by decide) rfl, show hI h1 13 = hI h 13 from funext fun k => a3.v hn k (by decide) rfl] at b1 b4
      have wl := wys_le (c := hI h 12) (d := hI h 13) (f := f) g7 UL
      have UE1 := Ma_unseen_e sh z g7 e1 e2 e3
      have UE2 := Ma_unseen_e a2 (J_C j1).2.2.1 g7 p1 p2 p3
      have UM := Mo_unseen_e a2 g7 q1 q3
      have UB := Mo_bitsOf_e (h := h1) (lt3 U24)
      generalize (wys (hI h 12) (hI h 13) g f (an (2 ^ c2 g - 1) (f ||| t))).1 = W at *
      generalize pcn 31 (an (2 ^ c2 g - 1) (f ||| t)) = m at *
      have pw : 2 ^ m ≤ 2 ^ 10 := Nat.pow_le_pow_right (by decide) hu
      have GC := chl_g m (by omega) (2 ^ m - W) (by omega)
      obtain ⟨x, L⟩ := Ma_chance_L (a1 := w) (h := h1) (fun v28 v29 v30 h31 => some ((if w = 0 then v29.toInt64 else v28.toInt64), h31)) 10 0 (2 ^ m) (2 ^ m - W) fu (by omega) (by show 10 < 2000; decide) (by omega) (by omega)
      rw [GC] at L
      have gp : 0 < Nat.gcd (2 ^ m) (2 ^ m - W) := Nat.gcd_pos_of_pos_left _ (Nat.two_pow_pos m)
      have gl : Nat.gcd (2 ^ m) (2 ^ m - W) ≤ 2 ^ m := Nat.gcd_le_left _ (Nat.two_pow_pos m)
      have dl1 : (2 ^ m - W) / Nat.gcd (2 ^ m) (2 ^ m - W) ≤ 2 ^ m - W := Nat.div_le_self _ _
      have dl2 : 2 ^ m / Nat.gcd (2 ^ m) (2 ^ m - W) ≤ 2 ^ m := Nat.div_le_self _ _
      have ML := fun (a2 a4 : Int64) (K : Int64 → Int64 → xH → Option (Int64 × xH)) => Mo_chance_L (a1 := w) (h := h2) (a2 := a2) (a4 := a4) K fu (2 ^ m) (2 ^ m - W) (by show _ < 2000; omega) (by omega) (by omega)
      have GP : ¬ lN (Nat.gcd (2 ^ m) (2 ^ m - W)) = 0 := by
        show ¬ lN _ = lN 0
        rw [pk_lEQ (by omega) (by decide)]
        omega
      have D1 := pk_lDiv (a := 2 ^ m - W) (b := Nat.gcd (2 ^ m) (2 ^ m - W)) (by omega) gp (by omega)
      have D2 := pk_lDiv (a := 2 ^ m) (b := Nat.gcd (2 ^ m) (2 ^ m - W)) (by omega) gp (by omega)
      generalize Nat.gcd (2 ^ m) (2 ^ m - W) = G at *
      refine ⟨if w = 0 then lN ((2 ^ m - W) / G) else lN (2 ^ m / G), h1, h2, ?_, by simp only [shp a2], ?_, ⟨g, f, t, n, r, T, J_all b2 (b3.mono (fun p k => dAll_wy)) j1⟩⟩
      · simp only [f_Ma_chance, jn, Ma_isWithin_1, cw, bind_s, b2i_t, i10, if_false, gd, shp sh, if_true, UE1, uc, if_pos hu, a1, shp a2, UE2, a4]
        rw [ss m (by omega), li_sub wl]
        refine L.trans ?_
        rw [nI_l (by omega), nI_l (by omega)]
      · simp only [f_Mo_chance, jn, Mo_in_1, cw, bind_s, b2i_t, i10, if_false, gd, shp a2, if_true, UM, UB, uc, if_pos hu, b1]
        rw [shlL m (by omega), nI_l (by omega), lN_sub wl, ML]
        split
        · rw [D1]
        · rw [D2]
    · refine ⟨-4611686018427387904, h, h, ?_, s36, ?_, ⟨g, f, t, n, r, T, j⟩⟩
      · simp only [f_Ma_chance, jn, Ma_isWithin_1, cw, bind_s, b2i_t, i10, if_false, gd, shp sh, if_true, Ma_unseen_e sh z g7 e1 e2 e3, uc, if_neg hu]
      · simp only [f_Mo_chance, jn, Mo_in_1, cw, bind_s, b2i_t, i10, if_false, gd, shp sh, if_true, Mo_unseen_e sh g7 m1 m3, Mo_bitsOf_e (lt3 U24), uc, if_neg hu]

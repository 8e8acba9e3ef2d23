/-! the law's loop, out of a pair of steps for each method -/
theorem jCmpL_self (r : Int64) : jCmpL r r = 0 := by
  unfold jCmpL lg_cmp
  rw [if_neg (fun h => by rw [gt_iff_lt, fa_lt64] at h; omega), if_pos rfl]
set_option maxHeartbeats 4000000 in
theorem La_loop {Inv : xH → Prop} (S : Sp_every Inv) {L : Nat} {xs : Nat → Int32} (hL : L ≤ 3072) : ∀ (n k : Nat) (h : xH), Inv h → k ≤ L + 6 → L + 6 < k + 6 * n → ∃ h2, f_La_law_L18 (L, xs) 1 36 n (nI k) h (fun _ h => some ((1 : Int32), h)) = some (1, h2) := by
  obtain ⟨kk, s_sit, s_meet, s_told, s_town, s_asIn, s_tells, s_feed, s_text, s_force, s_threes, s_guest, s_most, s_home, s_change, s_noneLeft, s_all, s_halved, s_fours, s_common, s_without, s_half, s_chance, s_game, s_judge, s_drawn, s_like, s_image, s_back, s_count, s_sheet, s_cell, s_copy, s_pairs, s_taken⟩ := S
  intro n
  induction n with
  | zero => intro k h _ _ hn; omega
  | succ n ih =>
    intro k h hI hk hn
    rw [f_La_law_L18]
    have e6 : ((Int32.ofNat (L, xs).1) - (6 : Int32) < nI k) ↔ L < k + 6 := by
      rw [fa_lt, nI_toInt (by omega)]
      have : (Int32.ofNat L - (6 : Int32)).toInt = (L : Int) - 6 := by
        have h1 : (Int32.ofNat L).toInt = (L : Int) := nI_toInt (n := L) (by omega)
        rw [fb_subI]
        · rw [h1]; rfl
        · rw [h1]; show -2147483648 ≤ (L : Int) - 6; omega
        · rw [h1]; show (L : Int) - 6 < 2147483648; omega
      show (Int32.ofNat L - (6 : Int32)).toInt < (k : Int) ↔ _
      rw [this]
      omega
    by_cases hx : L < k + 6
    · rw [if_pos (e6.mpr hx)]
      exact ⟨h, rfl⟩
    · rw [if_neg (fun q => hx (e6.mp q))]
      have gk : ∀ j : Nat, j < 6 → ¬ (nI k + nI j < 0 ∨ (L, xs).1 ≤ (nI k + nI j).toNatClampNeg) := by
        intro j hj
        rw [nI_add]
        exact nI_in (by omega) (by show L < 2 ^ 31; omega)
      have g0 : ¬ (nI k < 0 ∨ (L, xs).1 ≤ (nI k).toNatClampNeg) := nI_in (by omega) (by show L < 2 ^ 31; omega)
      have g1 : ¬ (nI k + (1 : Int32) < 0 ∨ (L, xs).1 ≤ (nI k + (1 : Int32)).toNatClampNeg) := gk 1 (by decide)
      have g2 : ¬ (nI k + (2 : Int32) < 0 ∨ (L, xs).1 ≤ (nI k + (2 : Int32)).toNatClampNeg) := gk 2 (by decide)
      have g3 : ¬ (nI k + (3 : Int32) < 0 ∨ (L, xs).1 ≤ (nI k + (3 : Int32)).toNatClampNeg) := gk 3 (by decide)
      have g4 : ¬ (nI k + (4 : Int32) < 0 ∨ (L, xs).1 ≤ (nI k + (4 : Int32)).toNatClampNeg) := gk 4 (by decide)
      have g5 : ¬ (nI k + (5 : Int32) < 0 ∨ (L, xs).1 ≤ (nI k + (5 : Int32)).toNatClampNeg) := gk 5 (by decide)
      have e9 : nI k + (6 : Int32) = nI (k + 6) := nI_add k 6
      have ih2 : ∀ h, Inv h → ∃ h2, f_La_law_L18 (L, xs) 1 36 n (nI (k + 6)) h (fun _ h => some ((1 : Int32), h)) = some (1, h2) := fun h hI => ih (k + 6) h hI (by omega) (by omega)
      have k1 := kk h hI
      simp only [gd, jn, g0, g1, g2, g3, g4, g5, not_false_eq_true, if_true, e9, k1]
      generalize xs (nI k).toNatClampNeg &&& (63 : Int32) = op
      generalize xs (nI k + (1 : Int32)).toNatClampNeg = y1
      generalize xs (nI k + (2 : Int32)).toNatClampNeg = y2
      generalize xs (nI k + (3 : Int32)).toNatClampNeg = y3
      generalize xs (nI k + (4 : Int32)).toNatClampNeg = y4
      generalize xs (nI k + (5 : Int32)).toNatClampNeg = y5
      by_cases c0 : op = (0 : Int32)
      · rw [if_pos c0]
        obtain ⟨r, h1, h2, e1, e2, e3, e4⟩ := s_sit y1 h hI
        simp only [e1, bind_s, e2, e3, if_true, jCmpL_self]
        exact ih2 h2 e4
      · rw [if_neg c0]
        by_cases c1 : op = (1 : Int32)
        · rw [if_pos c1]
          obtain ⟨r, h1, h2, e1, e2, e3, e4⟩ := s_meet y1 y2 y3 h hI
          simp only [e1, bind_s, e2, e3, if_true, jCmpL_self]
          exact ih2 h2 e4
        · rw [if_neg c1]
          by_cases c2 : op = (2 : Int32)
          · rw [if_pos c2]
            obtain ⟨r, h1, h2, e1, e2, e3, e4⟩ := s_told y1 y2 h hI
            simp only [e1, bind_s, e2, e3, if_true, jCmpL_self]
            exact ih2 h2 e4
          · rw [if_neg c2]
            by_cases c3 : op = (3 : Int32)
            · rw [if_pos c3]
              obtain ⟨r, h1, h2, e1, e2, e3, e4⟩ := s_town y1 y2 h hI
              simp only [e1, bind_s, e2, e3, if_true, jCmpL_self]
              exact ih2 h2 e4
            · rw [if_neg c3]
              by_cases c4 : op = (4 : Int32)
              · rw [if_pos c4]
                obtain ⟨r, h1, h2, e1, e2, e3, e4⟩ := s_asIn y1 h hI
                simp only [e1, bind_s, e2, e3, if_true, jCmpL_self]
                exact ih2 h2 e4
              · rw [if_neg c4]
                by_cases c5 : op = (5 : Int32)
                · rw [if_pos c5]
                  obtain ⟨r, h1, h2, e1, e2, e3, e4⟩ := s_tells y1 y2 y3 y4 h hI
                  simp only [e1, bind_s, e2, e3, if_true, jCmpL_self]
                  exact ih2 h2 e4
                · rw [if_neg c5]
                  by_cases c6 : op = (6 : Int32)
                  · rw [if_pos c6]
                    obtain ⟨r, h1, h2, e1, e2, e3, e4⟩ := s_feed y1 h hI
                    simp only [e1, bind_s, e2, e3, if_true, jCmpL_self]
                    exact ih2 h2 e4
                  · rw [if_neg c6]
                    by_cases c7 : op = (7 : Int32)
                    · rw [if_pos c7]
                      obtain ⟨r, h1, h2, e1, e2, e3, e4⟩ := s_text h hI
                      simp only [e1, bind_s, e2, e3, if_true, jCmpL_self]
                      exact ih2 h2 e4
                    · rw [if_neg c7]
                      by_cases c8 : op = (8 : Int32)
                      · rw [if_pos c8]
                        obtain ⟨r, h1, h2, e1, e2, e3, e4⟩ := s_force y1 h hI
                        simp only [e1, bind_s, e2, e3, if_true, jCmpL_self]
                        exact ih2 h2 e4
                      · rw [if_neg c8]
                        by_cases c9 : op = (9 : Int32)
                        · rw [if_pos c9]
                          obtain ⟨r, h1, h2, e1, e2, e3, e4⟩ := s_threes y1 h hI
                          simp only [e1, bind_s, e2, e3, if_true, jCmpL_self]
                          exact ih2 h2 e4
                        · rw [if_neg c9]
                          by_cases c10 : op = (10 : Int32)
                          · rw [if_pos c10]
                            obtain ⟨r, h1, h2, e1, e2, e3, e4⟩ := s_guest y1 y2 h hI
                            simp only [e1, bind_s, e2, e3, if_true, jCmpL_self]
                            exact ih2 h2 e4
                          · rw [if_neg c10]
                            by_cases c11 : op = (11 : Int32)
                            · rw [if_pos c11]
                              obtain ⟨r, h1, h2, e1, e2, e3, e4⟩ := s_most h hI
                              simp only [e1, bind_s, e2, e3, if_true, jCmpL_self]
                              exact ih2 h2 e4
                            · rw [if_neg c11]
                              by_cases c12 : op = (12 : Int32)
                              · rw [if_pos c12]
                                obtain ⟨r, h1, h2, e1, e2, e3, e4⟩ := s_home y1 h hI
                                simp only [e1, bind_s, e2, e3, if_true, jCmpL_self]
                                exact ih2 h2 e4
                              · rw [if_neg c12]
                                by_cases c13 : op = (13 : Int32)
                                · rw [if_pos c13]
                                  obtain ⟨r, h1, h2, e1, e2, e3, e4⟩ := s_change y1 h hI
                                  simp only [e1, bind_s, e2, e3, if_true, jCmpL_self]
                                  exact ih2 h2 e4
                                · rw [if_neg c13]
                                  by_cases c14 : op = (14 : Int32)
                                  · rw [if_pos c14]
                                    obtain ⟨r, h1, h2, e1, e2, e3, e4⟩ := s_noneLeft y1 h hI
                                    simp only [e1, bind_s, e2, e3, if_true, jCmpL_self]
                                    exact ih2 h2 e4
                                  · rw [if_neg c14]
                                    by_cases c15 : op = (15 : Int32)
                                    · rw [if_pos c15]
                                      obtain ⟨r, h1, h2, e1, e2, e3, e4⟩ := s_all y1 y2 h hI
                                      simp only [e1, bind_s, e2, e3, if_true, jCmpL_self]
                                      exact ih2 h2 e4
                                    · rw [if_neg c15]
                                      by_cases c16 : op = (16 : Int32)
                                      · rw [if_pos c16]
                                        obtain ⟨r, h1, h2, e1, e2, e3, e4⟩ := s_halved y1 h hI
                                        simp only [e1, bind_s, e2, e3, if_true, jCmpL_self]
                                        exact ih2 h2 e4
                                      · rw [if_neg c16]
                                        by_cases c17 : op = (17 : Int32)
                                        · rw [if_pos c17]
                                          obtain ⟨r, h1, h2, e1, e2, e3, e4⟩ := s_fours h hI
                                          simp only [e1, bind_s, e2, e3, if_true, jCmpL_self]
                                          exact ih2 h2 e4
                                        · rw [if_neg c17]
                                          by_cases c18 : op = (18 : Int32)
                                          · rw [if_pos c18]
                                            obtain ⟨r, h1, h2, e1, e2, e3, e4⟩ := s_common y1 h hI
                                            simp only [e1, bind_s, e2, e3, if_true, jCmpL_self]
                                            exact ih2 h2 e4
                                          · rw [if_neg c18]
                                            by_cases c19 : op = (19 : Int32)
                                            · rw [if_pos c19]
                                              obtain ⟨r, h1, h2, e1, e2, e3, e4⟩ := s_without y1 y2 h hI
                                              simp only [e1, bind_s, e2, e3, if_true, jCmpL_self]
                                              exact ih2 h2 e4
                                            · rw [if_neg c19]
                                              by_cases c20 : op = (20 : Int32)
                                              · rw [if_pos c20]
                                                obtain ⟨r, h1, h2, e1, e2, e3, e4⟩ := s_half y1 h hI
                                                simp only [e1, bind_s, e2, e3, if_true, jCmpL_self]
                                                exact ih2 h2 e4
                                              · rw [if_neg c20]
                                                by_cases c21 : op = (21 : Int32)
                                                · rw [if_pos c21]
                                                  obtain ⟨r, h1, h2, e1, e2, e3, e4⟩ := s_chance y1 h hI
                                                  simp only [e1, bind_s, e2, e3, if_true, jCmpL_self]
                                                  exact ih2 h2 e4
                                                · rw [if_neg c21]
                                                  by_cases c22 : op = (22 : Int32)
                                                  · rw [if_pos c22]
                                                    obtain ⟨r, h1, h2, e1, e2, e3, e4⟩ := s_game y1 h hI
                                                    simp only [e1, bind_s, e2, e3, if_true, jCmpL_self]
                                                    exact ih2 h2 e4
                                                  · rw [if_neg c22]
                                                    by_cases c23 : op = (23 : Int32)
                                                    · rw [if_pos c23]
                                                      obtain ⟨r, h1, h2, e1, e2, e3, e4⟩ := s_judge y1 y2 h hI
                                                      simp only [e1, bind_s, e2, e3, if_true, jCmpL_self]
                                                      exact ih2 h2 e4
                                                    · rw [if_neg c23]
                                                      by_cases c24 : op = (24 : Int32)
                                                      · rw [if_pos c24]
                                                        obtain ⟨r, h1, h2, e1, e2, e3, e4⟩ := s_drawn y1 h hI
                                                        simp only [e1, bind_s, e2, e3, if_true, jCmpL_self]
                                                        exact ih2 h2 e4
                                                      · rw [if_neg c24]
                                                        by_cases c25 : op = (25 : Int32)
                                                        · rw [if_pos c25]
                                                          obtain ⟨r, h1, h2, e1, e2, e3, e4⟩ := s_like y1 h hI
                                                          simp only [e1, bind_s, e2, e3, if_true, jCmpL_self]
                                                          exact ih2 h2 e4
                                                        · rw [if_neg c25]
                                                          by_cases c26 : op = (26 : Int32)
                                                          · rw [if_pos c26]
                                                            obtain ⟨r, h1, h2, e1, e2, e3, e4⟩ := s_image h hI
                                                            simp only [e1, bind_s, e2, e3, if_true, jCmpL_self]
                                                            exact ih2 h2 e4
                                                          · rw [if_neg c26]
                                                            by_cases c27 : op = (27 : Int32)
                                                            · rw [if_pos c27]
                                                              obtain ⟨r, h1, h2, e1, e2, e3, e4⟩ := s_back h hI
                                                              simp only [e1, bind_s, e2, e3, if_true, jCmpL_self]
                                                              exact ih2 h2 e4
                                                            · rw [if_neg c27]
                                                              by_cases c28 : op = (28 : Int32)
                                                              · rw [if_pos c28]
                                                                obtain ⟨r, h1, h2, e1, e2, e3, e4⟩ := s_count y1 h hI
                                                                simp only [e1, bind_s, e2, e3, if_true, jCmpL_self]
                                                                exact ih2 h2 e4
                                                              · rw [if_neg c28]
                                                                by_cases c29 : op = (29 : Int32)
                                                                · rw [if_pos c29]
                                                                  obtain ⟨r, h1, h2, e1, e2, e3, e4⟩ := s_sheet y1 y2 y3 h hI
                                                                  simp only [e1, bind_s, e2, e3, if_true, jCmpL_self]
                                                                  exact ih2 h2 e4
                                                                · rw [if_neg c29]
                                                                  by_cases c30 : op = (30 : Int32)
                                                                  · rw [if_pos c30]
                                                                    obtain ⟨r, h1, h2, e1, e2, e3, e4⟩ := s_cell y1 y2 y3 h hI
                                                                    simp only [e1, bind_s, e2, e3, if_true, jCmpL_self]
                                                                    exact ih2 h2 e4
                                                                  · rw [if_neg c30]
                                                                    by_cases c31 : op = (31 : Int32)
                                                                    · rw [if_pos c31]
                                                                      obtain ⟨r, h1, h2, e1, e2, e3, e4⟩ := s_copy y1 y2 y3 y4 y5 h hI
                                                                      simp only [e1, bind_s, e2, e3, if_true, jCmpL_self]
                                                                      exact ih2 h2 e4
                                                                    · rw [if_neg c31]
                                                                      by_cases c32 : op = (32 : Int32)
                                                                      · rw [if_pos c32]
                                                                        obtain ⟨r, h1, h2, e1, e2, e3, e4⟩ := s_pairs y1 y2 y3 y4 h hI
                                                                        simp only [e1, bind_s, e2, e3, if_true, jCmpL_self]
                                                                        exact ih2 h2 e4
                                                                      · rw [if_neg c32]
                                                                        by_cases c33 : op = (33 : Int32)
                                                                        · rw [if_pos c33]
                                                                          obtain ⟨r, h1, h2, e1, e2, e3, e4⟩ := s_taken y1 y2 h hI
                                                                          simp only [e1, bind_s, e2, e3, if_true, jCmpL_self]
                                                                          exact ih2 h2 e4
                                                                        · rw [if_neg c33]
                                                                          exact ih2 h hI
/-- the whole law, out of what holds of the two new objects and of each pair of steps -/
theorem La_math {Inv : xH → Prop} (S : Sp_every Inv) (h0 : Inv yB) {L : Nat} (xs : Nat → Int32) (hL : L ≤ 3072) : OK (f_La_law (L, xs) x_h0) (fun q => q.1 = 1) := by
  have eA : f_Ma_init 1 (hNw x_h0 10 0) = some ((), yA) := y_of yA_some
  have eB : f_Mo_init 36 (hNw yA 11 0) = some ((), yB) := y_of yB_some
  obtain ⟨h2, e2⟩ := La_loop S (xs := xs) hL fu 0 yB h0 (Nat.zero_le _) (by unfold fu; omega)
  refine ⟨(1, h2), ?_, rfl⟩
  simp only [f_La_law, hp]
  rw [show hN x_h0 = 1 from rfl, eA]
  simp only [bind_s]
  rw [yAB_N.1, eB]
  rw [nI_0] at e2
  simp only [bind_s]
  exact e2

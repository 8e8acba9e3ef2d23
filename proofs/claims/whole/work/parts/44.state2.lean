/-! town, feed, image: what is new stands on both sides -/
def dTw (p k : Nat) : Bool := !(decide (p = 22) || decide (p = 40) || decide (p = 41) || (decide (p = 1) && decide (k = 12)) || (decide (p = 36) && decide (k = 12)))
theorem J_tw {h h' : xH} {g f s n r : Nat} {T : Nat → Nat → (Nat → Int32) → Int32} (sh : Shp h') (x : Fr dTw h h') (j : J g f s n r T h) (jw : Jtown h') : J g f s n r T h' := by
  obtain ⟨-, a, b1, b2, b3, b4, b5, b6, b7, b8, b9⟩ := j
  exact ⟨sh, Nat.le_trans a x.1, J_seat a x (fun p k h1 h2 => by simp [dTw]; omega) b1, J_tab a x (fun k => rfl) (fun k h1 h2 => by simp [dTw]; omega) b2, J_kept a x rfl (fun k => rfl) (fun k h1 h2 => by simp [dTw]; omega) b3, jw, J_tape a x rfl rfl (fun k => ⟨rfl, rfl⟩) b5, J_sheet a x (fun p k h1 h2 => by simp [dTw]; omega) (fun p k h1 h2 => by simp [dTw]; omega) b6, J_st a x rfl (fun k => ⟨rfl, rfl⟩) b7, J_text a x rfl rfl (fun k => ⟨rfl, rfl, rfl⟩) (fun p k h1 h2 => by simp [dTw]; omega) (fun p k hp => by simp [dTw]; omega) b8, J_rule a x rfl rfl rfl rfl b9⟩
def dTp (p k : Nat) : Bool := !(decide (p = 18) || decide (p = 39) || (decide (p = 17) && decide (k = 1)) || (decide (p = 36) && decide (k = 6)))
theorem J_tp {h h' : xH} {g f s n r : Nat} {T : Nat → Nat → (Nat → Int32) → Int32} (sh : Shp h') (x : Fr dTp h h') (j : J g f s n r T h) (jp : Jtape h') : J g f s n r T h' := by
  obtain ⟨-, a, b1, b2, b3, b4, b5, b6, b7, b8, b9⟩ := j
  exact ⟨sh, Nat.le_trans a x.1, J_seat a x (fun p k h1 h2 => by simp [dTp]; omega) b1, J_tab a x (fun k => rfl) (fun k h1 h2 => by simp [dTp]; omega) b2, J_kept a x rfl (fun k => rfl) (fun k h1 h2 => by simp [dTp]; omega) b3, J_town a x rfl rfl (fun k => ⟨rfl, rfl, rfl⟩) (fun p k hp => by simp [dTp]; omega) b4, jp, J_sheet a x (fun p k h1 h2 => by simp [dTp]; omega) (fun p k h1 h2 => by simp [dTp]; omega) b6, J_st a x rfl (fun k => ⟨rfl, rfl⟩) b7, J_text a x rfl rfl (fun k => ⟨rfl, rfl, rfl⟩) (fun p k h1 h2 => by simp [dTp]; omega) (fun p k hp => by simp [dTp]; omega) b8, J_rule a x rfl rfl rfl rfl b9⟩
def dIm (p k : Nat) : Bool := !(decide (p = 32) || (decide (p = 1) && decide (k = 14)) || (decide (p = 36) && decide (37 ≤ k) && decide (k ≤ 40)))
theorem J_im {h h' : xH} {g f s n r : Nat} {T : Nat → Nat → (Nat → Int32) → Int32} (sh : Shp h') (x : Fr dIm h h') (j : J g f s n r T h) (jk : Jkept n h') : J g f s n r T h' := by
  obtain ⟨-, a, b1, b2, b3, b4, b5, b6, b7, b8, b9⟩ := j
  exact ⟨sh, Nat.le_trans a x.1, J_seat a x (fun p k h1 h2 => by simp [dIm]; omega) b1, J_tab a x (fun k => rfl) (fun k h1 h2 => by simp [dIm]; omega) b2, jk, J_town a x rfl rfl (fun k => ⟨rfl, rfl, rfl⟩) (fun p k hp => by simp [dIm]; omega) b4, J_tape a x rfl rfl (fun k => ⟨rfl, rfl⟩) b5, J_sheet a x (fun p k h1 h2 => by simp [dIm]; omega) (fun p k h1 h2 => by simp [dIm]; omega) b6, J_st a x rfl (fun k => ⟨rfl, rfl⟩) b7, J_text a x rfl rfl (fun k => ⟨rfl, rfl, rfl⟩) (fun p k h1 h2 => by simp [dIm]; omega) (fun p k hp => by simp [dIm]; omega) b8, J_rule a x rfl rfl rfl rfl b9⟩
def dSh (p _k : Nat) : Bool := !((decide (24 ≤ p) && decide (p ≤ 31)) || (decide (47 ≤ p) && decide (p ≤ 50)))
theorem J_shs {h h' : xH} {g f s n r : Nat} {T : Nat → Nat → (Nat → Int32) → Int32} (sh : Shp h') (x : Fr dSh h h') (j : J g f s n r T h) (js : Jsheet h') : J g f s n r T h' := by
  obtain ⟨-, a, b1, b2, b3, b4, b5, b6, b7, b8, b9⟩ := j
  exact ⟨sh, Nat.le_trans a x.1, J_seat a x (fun p k h1 h2 => by simp [dSh]; omega) b1, J_tab a x (fun k => rfl) (fun k h1 h2 => by simp [dSh]) b2, J_kept a x rfl (fun k => rfl) (fun k h1 h2 => by simp [dSh]) b3, J_town a x rfl rfl (fun k => ⟨rfl, rfl, rfl⟩) (fun p k hp => by simp [dSh]; omega) b4, J_tape a x rfl rfl (fun k => ⟨rfl, rfl⟩) b5, js, J_st a x rfl (fun k => ⟨rfl, rfl⟩) b7, J_text a x rfl rfl (fun k => ⟨rfl, rfl, rfl⟩) (fun p k h1 h2 => by simp [dSh]; omega) (fun p k hp => by simp [dSh]; omega) b8, J_rule a x rfl rfl rfl rfl b9⟩
theorem inr_no {x : Int32} {n : Nat} (hn : n < 2 ^ 31) (h : inr x n = false) : x < 0 ∨ (¬ x < 0 ∧ nI n < x) := by
  by_cases a : x < 0
  · exact Or.inl a
  · refine Or.inr ⟨a, ?_⟩
    obtain ⟨y, hy, rfl⟩ := nI_of a
    by_cases b : y ≤ n
    · rw [inr_y b hn] at h
      cases h
    · exact nI_lt (by omega) hy
theorem Y_feed : Sp_feed Inv := by
  intro x h I
  obtain ⟨g, f, t, n, r, T, j⟩ := I
  have j0 := j
  obtain ⟨sh, hn, z, ⟨⟨g1, g7, hf, ht, hd⟩, e1, e2, e3, m1, m2, m3⟩, jk, jw, jp, js, jst, jx, jr⟩ := j0
  have f24 := lt24 g7 hf
  have t24 := lt24 g7 ht
  have f31 := lt3 f24
  have t31 := lt3 t24
  have s36 : hK h 36 = 11 := by simp only [shp sh]
  obtain ⟨m, hm, p1, p2, pt⟩ := jp
  cases cx : inr x 255 with
  | false =>
    refine ⟨-2, h, h, ?_, s36, ?_, ⟨g, f, t, n, r, T, j⟩⟩
    · simp only [f_Ma_feed, jn]
      rcases inr_no (by decide) cx with c | ⟨c, c2⟩
      · rw [if_pos c]
      · rw [if_neg c, if_neg (show ¬ x ≤ (255 : Int32) from (fa_of_lt c2).2.1)]
    · simp only [f_Mo_feed, Mo_in_255, cx, bind_s, b2i_f, if_true]
  | true =>
    obtain ⟨y, hy, rfl⟩ := inr_ex (by decide) cx
    have c1 : ¬ nI y < 0 := nI_pos (by omega)
    have c2 : nI y ≤ (255 : Int32) := nI_le hy (by decide)
    by_cases hf : m = 160
    · subst hf
      refine ⟨-4, h, h, ?_, s36, ?_, ⟨g, f, t, n, r, T, j⟩⟩
      · simp only [f_Ma_feed, f_Re_put, jn, gd, shp sh, if_true, p1, if_neg c1, if_pos c2, if_neg (show ¬ nI 160 < (160 : Int32) by decide), bind_s]
      · simp only [f_Mo_feed, Mo_in_255, cx, bind_s, b2i_t, i10, if_false, gd, shp sh, if_true, p2]
        rfl
    · have c3 : nI m < (160 : Int32) := nI_lt (b := 160) (by omega) (by decide)
      have c4 : ¬ (nI m < 0 ∨ 160 ≤ m) := nin (by omega) (by omega)
      have c5 : ¬ nI m = (160 : Int32) := by
        rw [show (160 : Int32) = nI 160 from rfl, nI_eq (by omega) (by decide)]
        exact hf
      have A : f_Ma_feed 1 (nI y) h = some (nI (m + 1), hIu (hIu h 17 1 (nI (m + 1))) 18 m (nI y)) := by
        simp only [f_Ma_feed, f_Re_put, f_Re_size, jn, gd, kI, rI, lI, shp sh, if_true, p1, if_neg c1, if_pos c2, if_pos c3, bind_s, if_pos c4, nI_clamp (show m < 2 ^ 31 by omega), nI_1, i10, if_false, iI]
        rw [if_neg (by omega)]
        rfl
      refine ⟨_, _, hIu (hIu (hIu (hIu h 17 1 (nI (m + 1))) 18 m (nI y)) 39 m (nI y)) 36 6 (nI (m + 1)), A, s36, ?_, ⟨g, f, t, n, r, T, J_tp sh ((((Fr.refl h).I rfl |>.I rfl).I rfl).I rfl) j ⟨m + 1, by omega, ?_, ?_, ?_⟩⟩⟩
      · have s1 : Shp (hIu (hIu h 17 1 (nI (m + 1))) 18 m (nI y)) := sh
        have u2 : hI (hIu (hIu h 17 1 (nI (m + 1))) 18 m (nI y)) 36 6 = nI m := by rw [iI, if_neg (by omega), iI, if_neg (by omega), p2]
        generalize hIu (hIu h 17 1 (nI (m + 1))) 18 m (nI y) = h1 at *
        have w1 : hI (hIu h1 39 m (nI y)) 36 6 = nI m := by rw [iI, if_neg (by omega), u2]
        have w2 : hI (hIu (hIu h1 39 m (nI y)) 36 6 (nI (m + 1))) 36 6 = nI (m + 1) := by rw [iI, if_pos ⟨rfl, rfl⟩]
        simp only [f_Mo_feed, Mo_in_255, cx, bind_s, b2i_t, i10, if_false, gd, hp, kI, rI, lI, shp s1, if_true, u2, if_neg c5, if_pos c4, nI_clamp (show m < 2 ^ 31 by omega), nI_1, w1, w2]
      · rw [iI, if_neg (by omega), iI, if_neg (by omega), iI, if_neg (by omega), iI, if_pos ⟨rfl, rfl⟩]
      · rw [iI, if_pos ⟨rfl, rfl⟩]
      · intro i hi
        have e18 : hI (hIu (hIu (hIu (hIu h 17 1 (nI (m + 1))) 18 m (nI y)) 39 m (nI y)) 36 6 (nI (m + 1))) 18 i = if i = m then nI y else hI h 18 i := by
          rw [iI, if_neg (by omega), iI, if_neg (by omega), iI]
          by_cases e : i = m
          · rw [if_pos ⟨rfl, e⟩, if_pos e]
          · rw [if_neg (fun q => e q.2), if_neg e, iI, if_neg (by omega)]
        have e39 : hI (hIu (hIu (hIu (hIu h 17 1 (nI (m + 1))) 18 m (nI y)) 39 m (nI y)) 36 6 (nI (m + 1))) 39 i = if i = m then nI y else hI h 39 i := by
          rw [iI, if_neg (by omega), iI]
          by_cases e : i = m
          · rw [if_pos ⟨rfl, e⟩, if_pos e]
          · rw [if_neg (fun q => e q.2), if_neg e, iI, if_neg (by omega), iI, if_neg (by omega)]
        rw [e18, e39]
        by_cases e : i = m
        · rw [if_pos e, if_pos e]
          exact ⟨rfl, y, by omega, rfl⟩
        · rw [if_neg e, if_neg e]
          exact pt i (by omega)
theorem Y_image : Sp_image Inv := by
  intro h I
  obtain ⟨g, f, t, n, r, T, j⟩ := I
  have j0 := j
  obtain ⟨sh, hn, z, ⟨⟨g1, g7, hf, ht, hd⟩, e1, e2, e3, m1, m2, m3⟩, jk, jw, jp, js, jst, jx, jr⟩ := j0
  have f24 := lt24 g7 hf
  have t24 := lt24 g7 ht
  have f31 := lt3 f24
  have t31 := lt3 t24
  have s36 : hK h 36 = 11 := by simp only [shp sh]
  have A : f_Ma_image 1 h = some (nI g, hIu (hIu (hIu (hIu h 32 1 (nI g)) 32 2 (nI f)) 32 3 (nI t)) 1 14 (nI r)) := by
    simp only [f_Ma_image, f_Ta_layAs, f_Ta_layBits, gd, kI, rI, lI, shp sh, if_true, bind_s]
    simp (disch := omega) only [iI, if_neg, e1, e2, e3, jr.2.1]
  have E : ∀ p k, (p = 36 ∧ k < 37) → hI (hIu (hIu (hIu (hIu h 32 1 (nI g)) 32 2 (nI f)) 32 3 (nI t)) 1 14 (nI r)) p k = hI h p k := by
    rintro p k ⟨rfl, hk⟩
    rw [iI, if_neg (by omega), iI, if_neg (by omega), iI, if_neg (by omega), iI, if_neg (by omega)]
  have s2 : Shp (hIu (hIu (hIu (hIu h 32 1 (nI g)) 32 2 (nI f)) 32 3 (nI t)) 1 14 (nI r)) := sh
  refine ⟨_, _, hIu (hIu (hIu (hIu (hIu (hIu (hIu (hIu h 32 1 (nI g)) 32 2 (nI f)) 32 3 (nI t)) 1 14 (nI r)) 36 37 (nI g)) 36 38 (nI f)) 36 39 (nI (f ||| t))) 36 40 (nI r), A, s36, ?_, ⟨g, f, t, n, r, T, J_im sh ((((((((Fr.refl h).I rfl).I rfl).I rfl).I rfl).I rfl).I rfl).I rfl |>.I rfl) j (Or.inr ⟨g, r, f, t, ⟨g1, g7, hf, ht, hd⟩, jr.1, ?_, ?_, ?_, ?_, ?_, ?_, ?_, ?_⟩)⟩⟩
  · have u1 := (E 36 7 ⟨rfl, by omega⟩).trans m1
    have u2 := (E 36 8 ⟨rfl, by omega⟩).trans m2
    have u3 := (E 36 9 ⟨rfl, by omega⟩).trans m3
    have u4 := (E 36 4 ⟨rfl, by omega⟩).trans jr.2.2.1
    generalize hIu (hIu (hIu (hIu h 32 1 (nI g)) 32 2 (nI f)) 32 3 (nI t)) 1 14 (nI r) = h2 at *
    simp only [f_Mo_image, gd, hp, shp s2, if_true]
    simp (disch := omega) only [iI, if_neg, u1, u2, u3, u4]
  · simp (disch := omega) only [iI, if_neg, if_true, and_self]
  · simp (disch := omega) only [iI, if_neg, if_true, and_self]
  · simp (disch := omega) only [iI, if_neg, if_true, and_self]
  · simp (disch := omega) only [iI, if_neg, if_true, and_self]
  · simp (disch := omega) only [iI, if_neg, if_true, and_self]
  · simp (disch := omega) only [iI, if_neg, if_true, and_self]
  · simp (disch := omega) only [iI, if_neg, if_true, and_self]
  · simp (disch := omega) only [iI, if_neg, if_true, and_self]
theorem an_seen {g x : Nat} : nI (2 ^ c2 g - 1) &&& (nI x ^^^ (-1 : Int32)) = nI (an (2 ^ c2 g - 1) x) := an_I _ _
theorem uns_lt {g x : Nat} (g7 : g ≤ 7) : an (2 ^ c2 g - 1) x < 2 ^ c2 g := an_lt (by have := Nat.two_pow_pos (c2 g); omega)
section P44
variable {h : xH}
theorem Ma_unseen_e (s : Shp h) (z : Jseat h) {g f t : Nat} (g7 : g ≤ 7) (e1 : hI h 7 1 = nI g) (e2 : hI h 7 2 = nI f) (e3 : hI h 7 3 = nI t) : f_Ma_unseenPairs 1 h = some (nI (pcn 31 (an (2 ^ c2 g - 1) (f ||| t))), h) := by
  simp only [f_Ma_unseenPairs, gd, shp s, if_true, Ta_everyPair_n s z g7 e1, bind_s, e2, e3, fa_or, an_I, pcI (lt24 g7 (uns_lt (x := f ||| t) g7))]
theorem Mo_unseen_e (s : Shp h) {g f t : Nat} (g7 : g ≤ 7) (m1 : hI h 36 7 = nI g) (m3 : hI h 36 9 = nI (f ||| t)) : f_Mo_unseen 36 h = some (nI (an (2 ^ c2 g - 1) (f ||| t)), h) := by
  simp only [f_Mo_unseen, gd, shp s, if_true, m1, Mo_allOf_n g7, bind_s, m3, an_I]
end P44
theorem Y_count : Sp_count Inv := by
  intro x h I
  obtain ⟨g, f, t, n, r, T, j⟩ := I
  have j0 := j
  obtain ⟨sh, hn, z, ⟨⟨g1, g7, hf, ht, hd⟩, e1, e2, e3, m1, m2, m3⟩, jk, jw, jp, js, jst, jx, jr⟩ := j0
  have f24 := lt24 g7 hf
  have t24 := lt24 g7 ht
  have f31 := lt3 f24
  have t31 := lt3 t24
  have s36 : hK h 36 = 11 := by simp only [shp sh]
  obtain ⟨tn, hn5, tw1, tw2, tw⟩ := jw
  obtain ⟨m, hm, p1, p2, pt⟩ := jp
  obtain ⟨x1, x2, x3, x4, -⟩ := jx
  have U24 := lt24 g7 (uns_lt (x := f ||| t) g7)
  cases cx : inr x 6 with
  | false =>
    refine ⟨-2, h, h, ?_, s36, ?_, ⟨g, f, t, n, r, T, j⟩⟩
    · have ne : ∀ y, y ≤ 6 → ¬ x = nI y := fun y hy e => by
        rw [e, inr_y hy (by decide)] at cx
        cases cx
      unfold f_Ma_count
      rw [if_neg (show ¬ x = (0 : Int32) from ne 0 (by decide)), if_neg (show ¬ x = (1 : Int32) from ne 1 (by decide)), if_neg (show ¬ x = (2 : Int32) from ne 2 (by decide)), if_neg (show ¬ x = (3 : Int32) from ne 3 (by decide)), if_neg (show ¬ x = (4 : Int32) from ne 4 (by decide)), if_neg (show ¬ x = (5 : Int32) from ne 5 (by decide)), if_neg (show ¬ x = (6 : Int32) from ne 6 (by decide))]
    · simp only [f_Mo_count, Mo_in_6, cx, bind_s, b2i_f, if_true]
  | true =>
    obtain ⟨y, hy, rfl⟩ := inr_ex (by decide) cx
    refine ⟨if y = 0 then nI g else if y = 1 then nI (pcn 31 f) else if y = 2 then nI (pcn 31 (an (2 ^ c2 g - 1) (f ||| t))) else if y = 3 then nI tn else if y = 4 then nI n else if y = 5 then nI m else nI r, h, h, ?_, s36, ?_, ⟨g, f, t, n, r, T, j⟩⟩
    · rcases (by omega : y = 0 ∨ y = 1 ∨ y = 2 ∨ y = 3 ∨ y = 4 ∨ y = 5 ∨ y = 6) with rfl | rfl | rfl | rfl | rfl | rfl | rfl
      · simp only [f_Ma_count, gd, shp sh, if_true, e1, if_pos (show nI 0 = (0 : Int32) from rfl)]
      · simp only [f_Ma_count, gd, shp sh, if_true, e2, if_neg (show ¬ nI 1 = (0 : Int32) by decide), if_pos (show nI 1 = (1 : Int32) from rfl), pcI f24, bind_s]
        rfl
      · simp only [f_Ma_count, gd, shp sh, if_true, if_neg (show ¬ nI 2 = (0 : Int32) by decide), if_neg (show ¬ nI 2 = (1 : Int32) by decide), if_pos (show nI 2 = (2 : Int32) from rfl), Ma_unseen_e sh z g7 e1 e2 e3, bind_s]
        rfl
      · simp only [f_Ma_count, gd, shp sh, if_true, if_neg (show ¬ nI 3 = (0 : Int32) by decide), if_neg (show ¬ nI 3 = (1 : Int32) by decide), if_neg (show ¬ nI 3 = (2 : Int32) by decide), if_pos (show nI 3 = (3 : Int32) from rfl), tw1]
        rfl
      · simp only [f_Ma_count, gd, shp sh, if_true, if_neg (show ¬ nI 4 = (0 : Int32) by decide), if_neg (show ¬ nI 4 = (1 : Int32) by decide), if_neg (show ¬ nI 4 = (2 : Int32) by decide), if_neg (show ¬ nI 4 = (3 : Int32) by decide), if_pos (show nI 4 = (4 : Int32) from rfl), x3]
        rfl
      · simp only [f_Ma_count, f_Re_size, gd, shp sh, if_true, if_neg (show ¬ nI 5 = (0 : Int32) by decide), if_neg (show ¬ nI 5 = (1 : Int32) by decide), if_neg (show ¬ nI 5 = (2 : Int32) by decide), if_neg (show ¬ nI 5 = (3 : Int32) by decide), if_neg (show ¬ nI 5 = (4 : Int32) by decide), if_pos (show nI 5 = (5 : Int32) from rfl), p1, bind_s]
        rfl
      · simp only [f_Ma_count, gd, shp sh, if_true, if_neg (show ¬ nI 6 = (0 : Int32) by decide), if_neg (show ¬ nI 6 = (1 : Int32) by decide), if_neg (show ¬ nI 6 = (2 : Int32) by decide), if_neg (show ¬ nI 6 = (3 : Int32) by decide), if_neg (show ¬ nI 6 = (4 : Int32) by decide), if_neg (show ¬ nI 6 = (5 : Int32) by decide), if_pos (show nI 6 = (6 : Int32) from rfl), jr.2.1]
        rfl
    · rcases (by omega : y = 0 ∨ y = 1 ∨ y = 2 ∨ y = 3 ∨ y = 4 ∨ y = 5 ∨ y = 6) with rfl | rfl | rfl | rfl | rfl | rfl | rfl
      · simp only [f_Mo_count, jn, gd, shp sh, if_true, Mo_in_6, cx, bind_s, b2i_t, i10, if_false, if_neg (show ¬ (4 : Int32) ≤ nI 0 by decide), if_pos (show nI 0 = (0 : Int32) from rfl), m1]
      · simp only [f_Mo_count, jn, gd, shp sh, if_true, Mo_in_6, cx, bind_s, b2i_t, i10, if_false, if_neg (show ¬ (4 : Int32) ≤ nI 1 by decide), if_neg (show ¬ nI 1 = (0 : Int32) by decide), if_pos (show nI 1 = (1 : Int32) from rfl), m2, Mo_bitsOf_e f31]
        rfl
      · simp only [f_Mo_count, jn, gd, shp sh, if_true, Mo_in_6, cx, bind_s, b2i_t, i10, if_false, if_neg (show ¬ (4 : Int32) ≤ nI 2 by decide), if_neg (show ¬ nI 2 = (0 : Int32) by decide), if_neg (show ¬ nI 2 = (1 : Int32) by decide), if_pos (show nI 2 = (2 : Int32) from rfl), Mo_unseen_e sh g7 m1 m3, Mo_bitsOf_e (lt3 U24)]
        rfl
      · simp only [f_Mo_count, jn, gd, shp sh, if_true, Mo_in_6, cx, bind_s, b2i_t, i10, if_false, if_neg (show ¬ (4 : Int32) ≤ nI 3 by decide), if_neg (show ¬ nI 3 = (0 : Int32) by decide), if_neg (show ¬ nI 3 = (1 : Int32) by decide), if_neg (show ¬ nI 3 = (2 : Int32) by decide), tw2]
        rfl
      · simp only [f_Mo_count, jn, gd, shp sh, if_true, Mo_in_6, cx, bind_s, b2i_t, i10, if_false, if_pos (show (4 : Int32) ≤ nI 4 by decide), if_pos (show nI 4 = (4 : Int32) from rfl), x4]
        rfl
      · simp only [f_Mo_count, jn, gd, shp sh, if_true, Mo_in_6, cx, bind_s, b2i_t, i10, if_false, if_pos (show (4 : Int32) ≤ nI 5 by decide), if_neg (show ¬ nI 5 = (4 : Int32) by decide), if_pos (show nI 5 = (5 : Int32) from rfl), p2]
        rfl
      · simp only [f_Mo_count, jn, gd, shp sh, if_true, Mo_in_6, cx, bind_s, b2i_t, i10, if_false, if_pos (show (4 : Int32) ≤ nI 6 by decide), if_neg (show ¬ nI 6 = (4 : Int32) by decide), if_neg (show ¬ nI 6 = (5 : Int32) by decide), jr.2.2.1]
        rfl
def dTc (p k : Nat) : Bool := !(decide (p = 22) || (decide (p = 1) && decide (k = 12)))
theorem dTc_tw {p k : Nat} (h : dTw p k = true) : dTc p k = true := by
  simp [dTw] at h
  simp [dTc]
  omega
theorem Y_town : Sp_town Inv := by
  intro x y h I
  obtain ⟨g, f, t, n, r, T, j⟩ := I
  have j0 := j
  obtain ⟨sh, hn, z, ⟨⟨g1, g7, hf, ht, hd⟩, e1, e2, e3, m1, m2, m3⟩, jk, jw, jp, js, jst, jx, jr⟩ := j0
  have f24 := lt24 g7 hf
  have t24 := lt24 g7 ht
  have f31 := lt3 f24
  have t31 := lt3 t24
  have s36 : hK h 36 = 11 := by simp only [shp sh]
  obtain ⟨tn, hn5, tw1, tw2, tw⟩ := jw
  by_cases cxy : inr x 5 = true ∧ inr y 9 = true
  · obtain ⟨cx, cy⟩ := cxy
    obtain ⟨kd, hkd, rfl⟩ := inr_ex (by decide) cx
    obtain ⟨m, hm, rfl⟩ := inr_ex (by decide) cy
    have a1 : ¬ nI kd < 0 := nI_pos (by omega)
    have a2 : ¬ (6 : Int32) ≤ nI kd := nI_ge (b := 6) (by omega) (by decide)
    have a3 : ¬ nI m < 0 := nI_pos (by omega)
    have a4 : nI m ≤ (9 : Int32) := nI_le (b := 9) (by omega) (by decide)
    by_cases hf : tn = 5
    · subst hf
      refine ⟨-4, h, h, ?_, s36, ?_, ⟨g, f, t, n, r, T, j⟩⟩
      · simp only [f_Ma_town, jn, gd, shp sh, if_true, tw1, if_neg a1, if_neg a2, if_neg a3, if_pos a4, if_neg (show ¬ nI 5 < (5 : Int32) by decide)]
      · simp only [f_Mo_town, jn, gd, shp sh, if_true, Mo_in_5, Mo_in_9, cx, cy, b2i_t, i10, if_false, bind_s, tw2]
        rfl
    · have a5 : nI tn < (5 : Int32) := nI_lt (b := 5) (by omega) (by decide)
      have a6 : ¬ (nI tn < 0 ∨ 5 ≤ tn) := nin (by omega) (by omega)
      have a7 : ¬ nI tn = (5 : Int32) := by
        rw [show (5 : Int32) = nI 5 from rfl, nI_eq (by omega) (by decide)]
        exact hf
      have N0 : ∀ q, q < 51 → ¬ q = h.1 := fun q hq e => by
        have : hN h = h.1 := rfl
        omega
      have K2 : ∀ q, q < 51 → hK (hNw h 8 0) q = hK h q := fun q hq => if_neg (N0 q hq)
      have L2 : ∀ q, q < 51 → hL (hNw h 8 0) q = hL h q := fun q hq => if_neg (N0 q hq)
      have R2 : ∀ q k, q < 51 → hR (hNw h 8 0) q k = hR h q k := fun q k hq => if_neg (N0 q hq)
      have I2 : ∀ q k, q < 51 → hI (hNw h 8 0) q k = hI h q k := fun q k hq => if_neg (N0 q hq)
      have KN : hK (hNw h 8 0) (hN h) = 8 := if_pos rfl
      have sN : Shp (hNw h 8 0) := by
        have s2 := sh
        unfold Shp at s2 ⊢
        simp (disch := omega) only [K2, L2, R2]
        exact s2
      have A : ∃ h1, f_Ma_town 1 (nI kd) (nI m) h = some (nI tn, h1) ∧ Shp h1 ∧ Fr dTc h h1 ∧ hI h1 1 12 = nI (tn + 1) ∧ (∀ i, hR h1 22 i = if i = tn then hN h else hR h 22 i) ∧ hN h < hN h1 ∧ hK h1 (hN h) = 8 ∧ hI h1 (hN h) 0 = nI kd ∧ hI h1 (hN h) 1 = nI m := by
        refine ⟨hIu (hRu (hIu (hIu (hNw h 8 0) (hN h) 0 (nI kd)) (hN h) 1 (nI m)) 22 tn (hN h)) 1 12 (nI (tn + 1)), ?_, sN, (((((Fr.refl h).N).I2 (Nat.le_refl _)).I2 (Nat.le_refl _)).R rfl).I rfl, ?_, ?_, Nat.lt_succ_self _, KN, ?_, ?_⟩
        · simp only [f_Ma_town, f_To_init, jn, gd, hp, kI, lI, rI, kR, lR, rR, shp sh, shp sN, KN, if_true, tw1, if_neg a1, if_neg a2, if_neg a3, if_pos a4, if_pos a5, bind_s, if_pos a6, nI_clamp (show tn < 2 ^ 31 by omega)]
          have e12 : hI (hIu (hIu (hNw h 8 0) (hN h) 0 (nI kd)) (hN h) 1 (nI m)) 1 12 = nI tn := by
            rw [iI, if_neg (by omega), iI, if_neg (by omega), I2 1 12 (by omega), tw1]
          rw [e12, nI_1]
        · rw [iI, if_pos ⟨rfl, rfl⟩]
        · intro i
          rw [rI, rR]
          by_cases e : i = tn
          · rw [if_pos ⟨rfl, e⟩, if_pos e]
          · rw [if_neg (fun q => e q.2), if_neg e, rI, rI, R2 22 i (by omega)]
        · rw [iI, if_neg (by omega), iR, iI, if_neg (by omega), iI, if_pos ⟨rfl, rfl⟩]
        · rw [iI, if_neg (by omega), iR, iI, if_pos ⟨rfl, rfl⟩]
      obtain ⟨h1, A1, s1, x1, A2, A3, A4, A5, A6, A7⟩ := A
      have u2 := (((x1.2 36 (by omega)).2.2 12 rfl).1).trans tw2
      have B : f_Mo_town 36 (nI kd) (nI m) h1 = some (nI tn, hIu (hIu (hIu h1 40 tn (nI kd)) 41 tn (nI m)) 36 12 (nI (tn + 1))) := by
        have w1 : hI (hIu h1 40 tn (nI kd)) 36 12 = nI tn := by rw [iI, if_neg (by omega), u2]
        have w2 : hI (hIu (hIu h1 40 tn (nI kd)) 41 tn (nI m)) 36 12 = nI tn := by rw [iI, if_neg (by omega), w1]
        have w3 : hI (hIu (hIu (hIu h1 40 tn (nI kd)) 41 tn (nI m)) 36 12 (nI (tn + 1))) 36 12 = nI (tn + 1) := by rw [iI, if_pos ⟨rfl, rfl⟩]
        simp only [f_Mo_town, jn, gd, hp, kI, lI, rI, shp s1, if_true, Mo_in_5, Mo_in_9, cx, cy, b2i_t, i10, if_false, bind_s, u2, if_neg a7, if_pos a6, nI_clamp (show tn < 2 ^ 31 by omega), w1, w2, nI_1, w3]
        rw [k1, li_sub (by omega), Nat.add_sub_cancel]
      have V40 : ∀ i, hI (hIu (hIu (hIu h1 40 tn (nI kd)) 41 tn (nI m)) 36 12 (nI (tn + 1))) 40 i = if i = tn then nI kd else hI h1 40 i := by
        intro i
        rw [iI, if_neg (by omega), iI, if_neg (by omega), iI]
        by_cases e : i = tn
        · rw [if_pos ⟨rfl, e⟩, if_pos e]
        · rw [if_neg (fun q => e q.2), if_neg e]
      have V41 : ∀ i, hI (hIu (hIu (hIu h1 40 tn (nI kd)) 41 tn (nI m)) 36 12 (nI (tn + 1))) 41 i = if i = tn then nI m else hI h1 41 i := by
        intro i
        rw [iI, if_neg (by omega), iI]
        by_cases e : i = tn
        · rw [if_pos ⟨rfl, e⟩, if_pos e]
        · rw [if_neg (fun q => e q.2), if_neg e, iI, if_neg (by omega)]
      have VO : ∀ p k, p ≠ 40 → p ≠ 41 → p ≠ 36 → hI (hIu (hIu (hIu h1 40 tn (nI kd)) 41 tn (nI m)) 36 12 (nI (tn + 1))) p k = hI h1 p k := by
        intro p k n1 n2 n3
        rw [iI, if_neg (by omega), iI, if_neg (by omega), iI, if_neg (by omega)]
      refine ⟨_, h1, _, A1, by simp only [shp s1], B, ⟨g, f, t, n, r, T, J_tw s1 ((((x1.mono (fun p k => dTc_tw)).I rfl).I rfl).I rfl) j ⟨tn + 1, by omega, ?_, ?_, ?_⟩⟩⟩
      · rw [VO 1 12 (by omega) (by omega) (by omega)]
        exact A2
      · rw [iI, if_pos ⟨rfl, rfl⟩]
      · intro i hi
        have er : hR (hIu (hIu (hIu h1 40 tn (nI kd)) 41 tn (nI m)) 36 12 (nI (tn + 1))) 22 i = hR h1 22 i := rfl
        rw [er, A3 i, V40, V41]
        by_cases e : i = tn
        · rw [if_pos e, if_pos e, if_pos e, VO _ _ (by omega) (by omega) (by omega), VO _ _ (by omega) (by omega) (by omega)]
          exact ⟨⟨by omega, A4⟩, A5, kd, m, by omega, by omega, rfl, rfl, A6, A7⟩
        · rw [if_neg e, if_neg e, if_neg e]
          obtain ⟨⟨b1, b2⟩, b3, kd', m', b4, b5, b6, b7, b8, b9⟩ := tw i (by omega)
          rw [VO _ _ (by omega) (by omega) (by omega), VO _ _ (by omega) (by omega) (by omega)]
          have hd : ∀ k, dTc (hR h 22 i) k = true := fun k => by simp [dTc]; omega
          exact ⟨⟨b1, Nat.lt_of_lt_of_le b2 x1.1⟩, (x1.2 _ b2).1.trans b3, kd', m', b4, b5, (((x1.2 40 (by omega)).2.2 i rfl).1).trans b6, (((x1.2 41 (by omega)).2.2 i rfl).1).trans b7, (((x1.2 _ b2).2.2 0 (hd 0)).1).trans b8, (((x1.2 _ b2).2.2 1 (hd 1)).1).trans b9⟩
  · refine ⟨-2, h, h, ?_, s36, ?_, ⟨g, f, t, n, r, T, j⟩⟩
    · simp only [f_Ma_town, jn]
      cases cx : inr x 5 with
      | false =>
        rcases inr_no (by decide) cx with c | ⟨c, c2⟩
        · rw [if_pos c]
        · rw [if_neg c, if_pos]
          rw [fa_lt, nI_toInt (by decide)] at c2
          rw [fa_le]
          show (6 : Int) ≤ _
          omega
      | true =>
        obtain ⟨kd, hkd, rfl⟩ := inr_ex (by decide) cx
        rw [if_neg (nI_pos (by omega)), if_neg (show ¬ (6 : Int32) ≤ nI kd from nI_ge (b := 6) (by omega) (by decide))]
        cases cy : inr y 9 with
        | true => exact absurd ⟨cx, cy⟩ cxy
        | false =>
          rcases inr_no (by decide) cy with c | ⟨c, c2⟩
          · rw [if_pos c]
          · rw [if_neg c, if_neg (show ¬ y ≤ (9 : Int32) from (fa_of_lt c2).2.1)]
    · simp only [f_Mo_town, jn, Mo_in_5, Mo_in_9, bind_s]
      cases cx : inr x 5 with
      | false => simp only [b2i_f, if_true]
      | true =>
        cases cy : inr y 9 with
        | true => exact absurd ⟨cx, cy⟩ cxy
        | false => simp only [b2i_f, b2i_t, i10, if_false, if_true]

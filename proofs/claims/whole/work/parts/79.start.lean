/-! the two objects as they begin -/
def iL : List Nat := [99, 111, 117, 110, 116, 115, 32, 49, 32, 59, 32, 99, 111, 115, 116, 115, 32, 49, 32, 59, 32, 106, 111, 121, 32, 53, 32, 45, 32, 107, 110, 111, 119, 32, 59, 32, 32, 32, 32, 32]
def iB (i : Nat) : Nat := iL.getD i 32
set_option maxRecDepth 100000 in
theorem iB_o : rdO iB 40 = true := by decide +kernel
set_option maxRecDepth 100000 in
theorem iB_c : rdC iB 40 0 = [1] ∧ rdC iB 40 1 = [1] ∧ rdC iB 40 2 = [5, 10003, -2] := by decide +kernel
set_option maxRecDepth 100000 in
theorem st_seat : (∀ s, s < 128 → hI yB 3 s = nI (wi s)) ∧ (∀ p, p < 21 → hI yB 4 p = nI (lo p) ∧ hI yB 5 p = nI (hi p)) ∧ ∀ t, t < 35 → hI yB 6 t = nI (st3 (tcn t)) := by
  refine ⟨?_, ?_, ?_⟩ <;> decide +kernel
set_option maxRecDepth 100000 in
theorem st_tab : hI yB 7 1 = nI 6 ∧ hI yB 7 2 = nI 0 ∧ hI yB 7 3 = nI 32767 ∧ hI yB 36 7 = nI 6 ∧ hI yB 36 8 = nI 0 ∧ hI yB 36 9 = nI 32767 ∧ hI yB 1 14 = -1 ∧ hI yB 36 37 = -1 ∧ hI yB 1 12 = nI 0 ∧ hI yB 36 12 = nI 0 ∧ hI yB 17 1 = nI 0 ∧ hI yB 36 6 = nI 0 ∧ hI yB 11 3 = nI 20 ∧ hI yB 1 11 = nI 1 ∧ hI yB 36 3 = nI 1 ∧ hI yB 1 13 = nI 0 ∧ hI yB 36 4 = nI 0 ∧ hR yB 8 5 = 33 ∧ hR yB 21 0 = 33 ∧ hI yB 38 0 = nI 40 := by decide +kernel
set_option maxRecDepth 100000 in
theorem st_sheet : ∀ x, x < 4 → hI yB (24 + 2 * x) 0 = -1 ∧ hI yB 47 x = 0 := by decide +kernel
set_option maxRecDepth 100000 in
theorem st_bytes : ∀ i, i < 40 → hI yB 37 (160 * 0 + i) = nI (iB i) ∧ iB i < 256 := by decide +kernel
set_option maxRecDepth 100000 in
theorem st_text : hK yB 33 = 7 ∧ hR yB 33 0 = 34 ∧ hR yB 33 1 = 35 ∧ hK yB 34 = 12 ∧ hK yB 35 = 12 ∧ hL yB 35 = 3 ∧ 5 ≤ hL yB 34 ∧ hL yB 34 ≤ 160 ∧ hI yB 35 0 = nI 1 ∧ hI yB 35 1 = nI 2 ∧ hI yB 35 2 = nI 5 ∧ cds yB 34 0 1 = [1] ∧ cds yB 34 1 2 = [1] ∧ cds yB 34 2 5 = [5, 10003, -2] := by decide +kernel
set_option maxRecDepth 100000 in
theorem st_st : ∀ k, k < 6 → ∀ j, j < k → ∀ i, i < j → hI yB 12 (st3 (i, j, k)) = 1 ∧ hI yB 13 (st3 (i, j, k)) = 1 := by decide +kernel
theorem Tn_i (nm : Nat → Int32) : Tn iB 40 0 nm = 1 := by
  unfold Tn
  rw [iB_c.1]
  rfl
theorem Inv_yB : Inv yB := by
  obtain ⟨a1, a2, a3, a4, a5, a6, a7, a8, a9, b1, b2, b3, b4, b5, b6, b7, b8, b9, c1, c2'⟩ := st_tab
  obtain ⟨d1, d2, d3, d4, d5, d6, d7, d8, d9, e1, e2, e3, e4, e5⟩ := st_text
  have N := yAB_N.2
  refine ⟨6, 0, 32767, 1, 0, fun _ => Tn iB 40, yB_shape, by omega, st_seat, ⟨⟨by decide, by decide, by decide, by decide, by decide⟩, a1, a2, a3, a4, a5, a6⟩, Or.inl ⟨a7, a8⟩, ⟨0, by decide, a9, b1, fun i hi' => absurd hi' (Nat.not_lt_zero _)⟩, ⟨0, by decide, b2, b3, fun i hi' => absurd hi' (Nat.not_lt_zero _)⟩, fun x hx => Or.inl (st_sheet x hx), ⟨b4, fun i j k hij hjk hk => ?_⟩, ⟨by decide, by decide, b5, b6, fun t w nm nm2 e => ?_, fun t ht => ?_⟩, ⟨by decide, b7, b8, b9.trans c1.symm⟩⟩
  · obtain ⟨s1, s2⟩ := st_st k hk j hjk i hij
    show hI yB 12 (st3 (i, j, k)) = b2i (Tn iB 40 0 (nm6 (nI i) (nI j) (nI k) 3 3 (nI 6)) != 0) ∧ hI yB 13 (st3 (i, j, k)) = b2i (Tn iB 40 0 (nm6 (nI i) (nI j) (nI k) 0 3 (nI 6)) != 0)
    rw [Tn_i, Tn_i]
    exact ⟨s1, s2⟩
  · show Tn iB 40 w nm = Tn iB 40 w nm2
    unfold Tn
    rw [runs_congr e _ 0 [] (rdC_ok iB_o w 0 (by decide)).1]
  · have t0 : t = 0 := by omega
    subst t0
    refine ⟨⟨33, 34, 35, 1, 2, 5, c1, Or.inl rfl, by omega, d1, d2, d3, Or.inl rfl, by omega, d4, Or.inl rfl, by omega, d5, d6, by decide, by decide, d7, d8, d9, e1, e2, ?_⟩, Tn_m iB_o (by decide) (by decide) c2' st_bytes⟩
    have F : ∀ w, Gs_ok (rdC iB 40 w) 0 ∧ ∀ nm, runs nm (rdC iB 40 w) [] = [Tn iB 40 w nm] := fun w => ⟨(rdC_ok iB_o w 0 (by decide)).1, fun nm => runs_one (rdC_ok iB_o w)⟩
    rintro w a b (⟨rfl, rfl, rfl⟩ | ⟨rfl, rfl, rfl⟩ | ⟨rfl, rfl, rfl⟩)
    · rw [e3, ← iB_c.1]
      exact F 0
    · rw [e4, ← iB_c.2.1]
      exact F 1
    · rw [e5, ← iB_c.2.2]
      exact F 2
theorem every : Sp_every Inv := ⟨fun h I => by
  obtain ⟨g, f, t, n, r, T, j⟩ := I
  have j0 := j
  obtain ⟨sh, hn, z, ⟨⟨g1, g7, hf, ht, hd⟩, e1, e2, e3, m1, m2, m3⟩, jk, jw, jp, js, jst, jx, jr⟩ := j0
  have f24 := lt24 g7 hf
  have t24 := lt24 g7 ht
  have f31 := lt3 f24
  have t31 := lt3 t24
  have s36 : hK h 36 = 11 := by simp only [shp sh]
  simp only [shp sh], Y_sit, Y_meet, Y_told, Y_town, Y_asIn, Y_tells, Y_feed, Y_text, Y_force, Y_threes, Y_guest, Y_most, Y_home, Y_change, Y_noneLeft, Y_all, Y_halved, Y_fours, Y_common, Y_without, Y_half, Y_chance, Y_game, Y_judge, Y_drawn, Y_like, Y_image, Y_back, Y_count, Y_sheet, Y_cell, Y_copy, Y_pairs, Y_taken⟩

/-! each piece over a heap that is the same where the piece looks -/
theorem J_seat {D : Nat → Nat → Bool} {h h' : xH} (n : 51 ≤ hN h) (x : Fr D h h') (d : ∀ p k, 3 ≤ p → p ≤ 6 → D p k = true) (j : Jseat h) : Jseat h' := ⟨fun s hs => (((x.2 3 (by omega)).2.2 s (d 3 s (by omega) (by omega))).1).trans (j.1 s hs), fun p hp => ⟨(((x.2 4 (by omega)).2.2 p (d 4 p (by omega) (by omega))).1).trans (j.2.1 p hp).1, (((x.2 5 (by omega)).2.2 p (d 5 p (by omega) (by omega))).1).trans (j.2.1 p hp).2⟩, fun t ht => (((x.2 6 (by omega)).2.2 t (d 6 t (by omega) (by omega))).1).trans (j.2.2 t ht)⟩
theorem J_tab {D : Nat → Nat → Bool} {h h' : xH} {g f s : Nat} (n : 51 ≤ hN h) (x : Fr D h h') (d1 : ∀ k, D 7 k = true) (d2 : ∀ k, 7 ≤ k → k ≤ 9 → D 36 k = true) (j : Jtab g f s h) : Jtab g f s h' := by
  obtain ⟨j0, j1, j2, j3, j4, j5, j6⟩ := j
  have e := fun k => ((x.2 7 (by omega)).2.2 k (d1 k)).1
  have e2 := fun k a b => ((x.2 36 (by omega)).2.2 k (d2 k a b)).1
  exact ⟨j0, (e 1).trans j1, (e 2).trans j2, (e 3).trans j3, (e2 7 (by omega) (by omega)).trans j4, (e2 8 (by omega) (by omega)).trans j5, (e2 9 (by omega) (by omega)).trans j6⟩
theorem J_kept {D : Nat → Nat → Bool} {h h' : xH} {m : Nat} (n : 51 ≤ hN h) (x : Fr D h h') (d0 : D 1 14 = true) (d1 : ∀ k, D 32 k = true) (d2 : ∀ k, 37 ≤ k → k ≤ 40 → D 36 k = true) (j : Jkept m h) : Jkept m h' := by
  have e0 := ((x.2 1 (by omega)).2.2 14 d0).1
  have e := fun k => ((x.2 32 (by omega)).2.2 k (d1 k)).1
  have e2 := fun k a b => ((x.2 36 (by omega)).2.2 k (d2 k a b)).1
  rcases j with ⟨j1, j2⟩ | ⟨g, r, f, s, j0, j1, j2, j3, j4, j5, j6, j7, j8, j9⟩
  · exact Or.inl ⟨e0.trans j1, (e2 37 (by omega) (by omega)).trans j2⟩
  · exact Or.inr ⟨g, r, f, s, j0, j1, e0.trans j2, (e 1).trans j3, (e 2).trans j4, (e 3).trans j5, (e2 37 (by omega) (by omega)).trans j6, (e2 38 (by omega) (by omega)).trans j7, (e2 39 (by omega) (by omega)).trans j8, (e2 40 (by omega) (by omega)).trans j9⟩
theorem J_town {D : Nat → Nat → Bool} {h h' : xH} (n : 51 ≤ hN h) (x : Fr D h h') (d0 : D 1 12 = true) (d1 : D 36 12 = true) (d2 : ∀ k, D 22 k = true ∧ D 40 k = true ∧ D 41 k = true) (d3 : ∀ p k, 51 ≤ p → D p k = true) (j : Jtown h) : Jtown h' := by
  obtain ⟨m, j1, j2, j3, j4⟩ := j
  refine ⟨m, j1, (((x.2 1 (by omega)).2.2 12 d0).1).trans j2, (((x.2 36 (by omega)).2.2 12 d1).1).trans j3, fun i hi => ?_⟩
  obtain ⟨⟨a1, a2⟩, a3, kd, nb, a4, a5, a6, a7, a8, a9⟩ := j4 i hi
  have e : hR h' 22 i = hR h 22 i := ((x.2 22 (by omega)).2.2 i (d2 i).1).2
  rw [e]
  exact ⟨⟨a1, Nat.lt_of_lt_of_le a2 x.1⟩, (x.2 _ a2).1.trans a3, kd, nb, a4, a5, (((x.2 40 (by omega)).2.2 i (d2 i).2.1).1).trans a6, (((x.2 41 (by omega)).2.2 i (d2 i).2.2).1).trans a7, (((x.2 _ a2).2.2 0 (d3 _ _ a1)).1).trans a8, (((x.2 _ a2).2.2 1 (d3 _ _ a1)).1).trans a9⟩
theorem J_tape {D : Nat → Nat → Bool} {h h' : xH} (n : 51 ≤ hN h) (x : Fr D h h') (d0 : D 17 1 = true) (d1 : D 36 6 = true) (d2 : ∀ k, D 18 k = true ∧ D 39 k = true) (j : Jtape h) : Jtape h' := by
  obtain ⟨m, j1, j2, j3, j4⟩ := j
  refine ⟨m, j1, (((x.2 17 (by omega)).2.2 1 d0).1).trans j2, (((x.2 36 (by omega)).2.2 6 d1).1).trans j3, fun i hi => ?_⟩
  obtain ⟨a1, b, a2, a3⟩ := j4 i hi
  have e := ((x.2 18 (by omega)).2.2 i (d2 i).1).1
  have e2 := ((x.2 39 (by omega)).2.2 i (d2 i).2).1
  exact ⟨e.trans (a1.trans e2.symm), b, a2, e2.trans a3⟩
theorem J_sheet {D : Nat → Nat → Bool} {h h' : xH} (n : 51 ≤ hN h) (x : Fr D h h') (d0 : ∀ p k, 24 ≤ p → p ≤ 31 → D p k = true) (d1 : ∀ p k, 47 ≤ p → p ≤ 50 → D p k = true) (j : Jsheet h) : Jsheet h' := by
  intro y hy
  have e := fun p k a b => ((x.2 p (by omega : p < hN h)).2.2 k (d0 p k a b)).1
  have e2 := fun p k a b => ((x.2 p (by omega : p < hN h)).2.2 k (d1 p k a b)).1
  rcases j y hy with ⟨a1, a2⟩ | ⟨so, m, a1, a2, a3, a4, a5, a6, a7, a8⟩
  · exact Or.inl ⟨(e _ _ (by omega) (by omega)).trans a1, (e2 _ _ (by omega) (by omega)).trans a2⟩
  · exact Or.inr ⟨so, m, a1, a2, (e _ _ (by omega) (by omega)).trans a3, (e _ _ (by omega) (by omega)).trans a4, (e2 _ _ (by omega) (by omega)).trans a5, (e2 _ _ (by omega) (by omega)).trans a6, (e2 _ _ (by omega) (by omega)).trans a7, fun i hi => (e _ _ (by omega) (by omega)).trans ((a8 i hi).trans (e2 _ _ (by omega) (by omega)).symm)⟩
theorem J_st {D : Nat → Nat → Bool} {h h' : xH} {g r : Nat} {T : Nat → Nat → (Nat → Int32) → Int32} (n : 51 ≤ hN h) (x : Fr D h h') (d0 : D 11 3 = true) (d1 : ∀ k, D 12 k = true ∧ D 13 k = true) (j : Jst g r T h) : Jst g r T h' := ⟨(((x.2 11 (by omega)).2.2 3 d0).1).trans j.1, fun i jj k a b c => ⟨(((x.2 12 (by omega)).2.2 _ (d1 _).1).1).trans (j.2 i jj k a b c).1, (((x.2 13 (by omega)).2.2 _ (d1 _).2).1).trans (j.2 i jj k a b c).2⟩⟩
theorem J_tcl {D : Nat → Nat → Bool} {h h' : xH} {t : Nat} {T : Nat → (Nat → Int32) → Int32} (n : 51 ≤ hN h) (x : Fr D h h') (d0 : D 21 t = true) (d1 : ∀ p k, 33 ≤ p → p ≤ 35 → D p k = true) (d2 : ∀ p k, 51 ≤ p → D p k = true) (j : Tcl t T h) : Tcl t T h' := by
  obtain ⟨y, c, e, n0, n1, n2, a1, a2, a3, a4, a5, a6, a7, a8, a9, b1, b2, b3, b4, b5, b6, b7, b7', b8, b9, c1, c2⟩ := j
  have d : ∀ q k, (33 ≤ q ∧ q ≤ 35) ∨ 51 ≤ q → q < hN h → hI h' q k = hI h q k ∧ hR h' q k = hR h q k := fun q k a b => (x.2 q b).2.2 k (a.elim (fun a => d1 q k a.1 a.2) (d2 q k))
  have E : ∀ a b, cds h' c a b = cds h c a b := fun a b => by
    unfold cds
    refine List.map_congr_left (fun i _ => (d c _ (by omega) a8).1)
  refine ⟨y, c, e, n0, n1, n2, (((x.2 21 (by omega)).2.2 t d0).2).trans a1, a2, Nat.lt_of_lt_of_le a3 x.1, (x.2 y a3).1.trans a4, ((d y 0 (by omega) a3).2).trans a5, ((d y 1 (by omega) a3).2).trans a6, a7, Nat.lt_of_lt_of_le a8 x.1, (x.2 c a8).1.trans a9, b1, Nat.lt_of_lt_of_le b2 x.1, (x.2 e b2).1.trans b3, (x.2 e b2).2.1.trans b4, b5, b6, ?_, ?_, ((d e 0 (by omega) b2).1).trans b8, ((d e 1 (by omega) b2).1).trans b9, ((d e 2 (by omega) b2).1).trans c1, ?_⟩
  · rw [(x.2 c a8).2.1]
    exact b7
  · rw [(x.2 c a8).2.1]
    exact b7'
  · intro w a b hw
    rw [E]
    exact c2 w a b hw
theorem J_tmo {D : Nat → Nat → Bool} {h h' : xH} {t : Nat} {T : Nat → (Nat → Int32) → Int32} (n : 51 ≤ hN h) (x : Fr D h h') (d0 : D 38 t = true) (d1 : ∀ i, i < 160 → D 37 (160 * t + i) = true) (j : Tmo t T h) : Tmo t T h' := by
  obtain ⟨z, a1, a2, a3⟩ := j
  refine ⟨z, a1, (((x.2 38 (by omega)).2.2 t d0).1).trans a2, fun k s e1 e2 => a3 k s e1 (fun i hi => (e2 i hi).trans ((x.2 37 (by omega)).2.2 _ (d1 i (by omega))).1)⟩
theorem J_text {D : Nat → Nat → Bool} {h h' : xH} {m : Nat} {T : Nat → Nat → (Nat → Int32) → Int32} (n : 51 ≤ hN h) (x : Fr D h h') (d0 : D 1 11 = true) (d1 : D 36 3 = true) (d2 : ∀ k, D 21 k = true ∧ D 38 k = true ∧ D 37 k = true) (d3 : ∀ p k, 33 ≤ p → p ≤ 35 → D p k = true) (d4 : ∀ p k, 51 ≤ p → D p k = true) (j : Jtext m T h) : Jtext m T h' := by
  obtain ⟨a1, a2, a3, a4, a5, a6⟩ := j
  exact ⟨a1, a2, (((x.2 1 (by omega)).2.2 11 d0).1).trans a3, (((x.2 36 (by omega)).2.2 3 d1).1).trans a4, a5, fun t ht => ⟨J_tcl n x (d2 t).1 d3 d4 (a6 t ht).1, J_tmo n x (d2 t).2.1 (fun i _ => (d2 _).2.2) (a6 t ht).2⟩⟩
theorem J_rule {D : Nat → Nat → Bool} {h h' : xH} {m r : Nat} (n : 51 ≤ hN h) (x : Fr D h h') (d0 : D 1 13 = true) (d1 : D 36 4 = true) (d2 : D 8 5 = true) (d3 : D 21 r = true) (j : Jrule m r h) : Jrule m r h' := by
  obtain ⟨a1, a2, a3, a4⟩ := j
  exact ⟨a1, (((x.2 1 (by omega)).2.2 13 d0).1).trans a2, (((x.2 36 (by omega)).2.2 4 d1).1).trans a3, (((x.2 8 (by omega)).2.2 5 d2).2).trans (a4.trans (((x.2 21 (by omega)).2.2 r d3).2).symm)⟩
/-- all but what is written anew before it is read -/
def dAll (p k : Nat) : Bool := !((p == 9 || p == 10 || p == 14 || p == 15 || p == 16 || p == 19 || p == 20) || (p == 8 && k == 4) || (p == 17 && !(k == 1)) || (p == 36 && ((Nat.ble 13 k && Nat.ble k 27) || k == 32 || (Nat.ble 34 k && Nat.ble k 36))) || (Nat.ble 42 p && Nat.ble p 46))
theorem dAll_lo {p k : Nat} (h : p ≤ 7) : dAll p k = true := by
  rcases (by omega : p = 0 ∨ p = 1 ∨ p = 2 ∨ p = 3 ∨ p = 4 ∨ p = 5 ∨ p = 6 ∨ p = 7) with rfl | rfl | rfl | rfl | rfl | rfl | rfl | rfl <;> rfl
theorem dAll_mid {p k : Nat} (h : 21 ≤ p) (h2 : p ≤ 35) : dAll p k = true := by
  rcases (by omega : p = 21 ∨ p = 22 ∨ p = 23 ∨ p = 24 ∨ p = 25 ∨ p = 26 ∨ p = 27 ∨ p = 28 ∨ p = 29 ∨ p = 30 ∨ p = 31 ∨ p = 32 ∨ p = 33 ∨ p = 34 ∨ p = 35) with rfl | rfl | rfl | rfl | rfl | rfl | rfl | rfl | rfl | rfl | rfl | rfl | rfl | rfl | rfl <;> rfl
theorem dAll_hi {p k : Nat} (h : 47 ≤ p) : dAll p k = true := by
  have e : ∀ q, q < 47 → (p == q) = false := fun q hq => beq_eq_false_iff_ne.mpr (by omega)
  have e1 : Nat.ble p 46 = false := by
    cases h2 : Nat.ble p 46 with
    | false => rfl
    | true => have := Nat.le_of_ble_eq_true h2; omega
  unfold dAll
  rw [e 9 (by omega), e 10 (by omega), e 14 (by omega), e 15 (by omega), e 16 (by omega), e 19 (by omega), e 20 (by omega), e 8 (by omega), e 17 (by omega), e 36 (by omega), e1]
  simp
theorem J_all {h h' : xH} {g f s n r : Nat} {T : Nat → Nat → (Nat → Int32) → Int32} (sh : Shp h') (x : Fr dAll h h') (j : J g f s n r T h) : J g f s n r T h' := by
  obtain ⟨-, a, b1, b2, b3, b4, b5, b6, b7, b8, b9⟩ := j
  exact ⟨sh, Nat.le_trans a x.1, J_seat a x (fun p k _ h2 => dAll_lo (by omega)) b1, J_tab a x (fun k => rfl) (fun k h1 h2 => by rcases (by omega : k = 7 ∨ k = 8 ∨ k = 9) with rfl | rfl | rfl <;> rfl) b2, J_kept a x rfl (fun k => rfl) (fun k h1 h2 => by rcases (by omega : k = 37 ∨ k = 38 ∨ k = 39 ∨ k = 40) with rfl | rfl | rfl | rfl <;> rfl) b3, J_town a x rfl rfl (fun k => ⟨rfl, rfl, rfl⟩) (fun p k hp => dAll_hi (by omega)) b4, J_tape a x rfl rfl (fun k => ⟨rfl, rfl⟩) b5, J_sheet a x (fun p k h1 h2 => dAll_mid (by omega) (by omega)) (fun p k h1 h2 => dAll_hi h1) b6, J_st a x rfl (fun k => ⟨rfl, rfl⟩) b7, J_text a x rfl rfl (fun k => ⟨rfl, rfl, rfl⟩) (fun p k h1 h2 => dAll_mid (by omega) (by omega)) (fun p k hp => dAll_hi (by omega)) b8, J_rule a x rfl rfl rfl rfl b9⟩

/-! an answer of the rule -/
section P39
variable {h : xH}
theorem fr_seat {D : Nat → Nat → Bool} {h h' : xH} (n : 51 ≤ hN h) (x : Fr D h h') (d : ∀ p k, 3 ≤ p → p ≤ 6 → D p k = true) (j : Jseat h) : Jseat h' := J_seat n x d j
theorem cds_fr {h' : xH} {c : Nat} (hc : ∀ i, hI h' c i = hI h c i) (a b : Nat) : cds h' c a b = cds h c a b := by
  unfold cds
  exact List.map_congr_left (fun i _ => hc _)
theorem dRu_hi {p k : Nat} (h : p = 33 ∨ p = 34 ∨ p = 35 ∨ 51 ≤ p) : dRu p k = true := by
  unfold dRu
  rw [beq_eq_false_iff_ne.mpr (show p ≠ 10 by omega), beq_eq_false_iff_ne.mpr (show p ≠ 8 by omega)]
  rfl
theorem Te_end_e {x e : Nat} {w : Nat} (hk : hK h x = 7) (he : hR h x 1 = e) (ke : hK h e = 12) (le : hL h e = 3) (hw : w < 3) : f_Te_end x (nI w) h = some (hI h e w, h) := by
  simp only [f_Te_end, jn, gd, hp, if_true, bind_s, hk, he, ke, le, if_true, k0]
  have e1 : ¬ Int32.ofNat 3 ≤ nI w := nI_ge hw (by decide)
  simp (disch := omega) only [e1, Nat.not_lt_zero, Nat.zero_le, kneg, li_le, li_lt, li_eq, li_cl, if_false, if_true, or_false, or_self, false_or, not_false_eq_true, not_true_eq_false, Nat.not_le.mpr hw]
theorem Te_code_e {x c : Nat} {i : Nat} (hk : hK h x = 7) (he : hR h x 0 = c) (ke : hK h c = 12) (le : hL h c ≤ 160) (hw : i < hL h c) : f_Te_code x (nI i) h = some (hI h c i, h) := by
  simp only [f_Te_code, jn, gd, hp, if_true, bind_s, hk, he, ke, if_true, k0]
  have e1 : ¬ Int32.ofNat (hL h c) ≤ nI i := nI_ge hw (by omega)
  simp (disch := omega) only [e1, Nat.not_lt_zero, Nat.zero_le, kneg, li_le, li_lt, li_eq, li_cl, if_false, if_true, or_false, or_self, false_or, not_false_eq_true, not_true_eq_false, Nat.not_le.mpr hw]
theorem Gs_head : ∀ {c : Int32} {l : List Int32} {n : Nat}, Gs_ok (c :: l) n → Gs_ok [c] n := fun g => ⟨g.1, g.2.1, g.2.2.1, trivial⟩
/-- the loop over the codes from a to b -/
theorem Ru_answer_L {nm : Nat → Int32} {x c e w : Nat} {K : Int32 → xH → Option (Int32 × xH)} (hw : w < 3) (hx : x = 33 ∨ 51 ≤ x) (hc : c = 34 ∨ 51 ≤ c) (he : e = 35 ∨ 51 ≤ e) : ∀ (m i f : Nat) (h : xH) (st : List Int32), Shp h → hI h 9 = nm → x < hN h → c < hN h → e < hN h → hR h 8 5 = x → hK h x = 7 → hR h x 0 = c → hR h x 1 = e → hK h c = 12 → hK h e = 12 → hL h e = 3 → hL h c ≤ 160 → i + m ≤ hL h c → hI h e w = nI (i + m) → m < f → hI h 8 4 = nI st.length → st.length ≤ 40 → StR h st → Gs_ok (cds h c i (i + m)) st.length → ∃ h' v, f_Ru_answer_L23 8 (nI w) f (nI i) h K = K v h' ∧ Shp h' ∧ Fr dRu h h' ∧ hI h' 8 4 = nI (runs nm (cds h c i (i + m)) st).length ∧ StR h' (runs nm (cds h c i (i + m)) st) := by
  intro m
  induction m with
  | zero =>
    intro i f h st s e9 hxn hcn hen er kx rx0 rx1 kc ke le lc hi hend hf h4 hl r g
    obtain ⟨f, rfl⟩ : ∃ k, f = k + 1 := ⟨f - 1, by omega⟩
    refine ⟨h, nI i, ?_, s, Fr.refl h, ?_, ?_⟩
    · simp only [f_Ru_answer_L23, jn, gd, hp, if_true, bind_s, shp s, er, kx, Te_end_e kx rx1 ke le hw, hend]
      rw [if_pos (nI_le (by omega) (by omega))]
    · unfold cds
      rw [Nat.add_zero, Nat.sub_self]
      exact h4
    · unfold cds
      rw [Nat.add_zero, Nat.sub_self]
      exact r
  | succ m ih =>
    intro i f h st s e9 hxn hcn hen er kx rx0 rx1 kc ke le lc hi hend hf h4 hl r g
    obtain ⟨f, rfl⟩ : ∃ k, f = k + 1 := ⟨f - 1, by omega⟩
    have ec : cds h c i (i + (m + 1)) = hI h c i :: cds h c (i + 1) (i + 1 + m) := by
      unfold cds
      rw [Nat.add_sub_cancel_left, Nat.add_sub_cancel_left, List.range_succ_eq_map, List.map_cons, List.map_map]
      congr 1
      refine List.map_congr_left (fun j _ => ?_)
      show hI h c (i + (j + 1)) = hI h c (i + 1 + j)
      rw [show i + (j + 1) = i + 1 + j by omega]
    rw [ec] at g ⊢
    obtain ⟨h1, a1, a2, a3, a4, a5, a6⟩ := Ru_step_e s (Gs_head g) hl h4 r
    have f33 : ∀ p k, (p = 33 ∨ p = 34 ∨ p = 35 ∨ 51 ≤ p) → p < hN h → hI h1 p k = hI h p k ∧ hR h1 p k = hR h p k := fun p k hp hn => (a5.2 p hn).2.2 k (dRu_hi hp)
    have E : cds h1 c (i + 1) (i + 1 + m) = cds h c (i + 1) (i + 1 + m) := cds_fr (fun j => (f33 c j (by omega) hcn).1) _ _
    have n9 : 9 < hN h ∧ 8 < hN h := by omega
    have e91 : hI h1 9 = nm := by
      rw [← e9]
      funext k
      exact ((a5.2 9 n9.1).2.2 k rfl).1
    rw [e9] at a3 a4 a6
    obtain ⟨h2, v, b1, b2, b3, b4, b5⟩ := ih (i + 1) f h1 (stp nm (hI h c i) st) a2 e91 (Nat.lt_of_lt_of_le hxn a5.1) (Nat.lt_of_lt_of_le hcn a5.1) (Nat.lt_of_lt_of_le hen a5.1) ((((a5.2 8 n9.2).2.2 5 rfl).2).trans er) ((a5.2 x hxn).1.trans kx) ((f33 x 0 (by omega) hxn).2.trans rx0) ((f33 x 1 (by omega) hxn).2.trans rx1) ((a5.2 c hcn).1.trans kc) ((a5.2 e hen).1.trans ke) ((a5.2 e hen).2.1.trans le) (by rw [(a5.2 c hcn).2.1]; exact lc) (by rw [(a5.2 c hcn).2.1]; omega) ((f33 e w (by omega) hen).1.trans (by rw [hend, show i + (m + 1) = i + 1 + m by omega])) (by omega) a3 (by rw [a6]; exact g.2.2.1) a4 (by rw [E, a6]; exact g.2.2.2)
    rw [E] at b4 b5
    refine ⟨h2, v, ?_, b2, a5.trans b3, b4, b5⟩
    rw [← b1]
    simp only [f_Ru_answer_L23, jn, gd, hp, if_true, bind_s, shp s, er, kx, Te_end_e kx rx1 ke le hw, hend]
    rw [if_neg (nI_ge (by omega) (by omega))]
    simp only [Te_code_e kx rx0 kc lc (show i < hL h c by omega), bind_s, shp s, if_true, a1, nI_1]
theorem Ru_answer_e (s : Shp h) (n : 51 ≤ hN h) {t : Nat} {T : Nat → (Nat → Int32) → Int32} (j : Tcl t T h) (er : hR h 8 5 = hR h 21 t) {w : Nat} (hw : w < 3) : ∃ h', f_Ru_answer 8 (nI w) h = some (T w (hI h 9), h') ∧ Shp h' ∧ Fr dRu h h' := by
  obtain ⟨x, c, e, n0, n1, n2, a1, a2, a3, a4, a5, a6, a7, a8, a9, b1, b2, b3, b4, b5, b6, b7, b7', b8, b9, c1, c2'⟩ := j
  rw [a1] at er
  have hx0 : ¬ x = 0 := by omega
  have nx : ∀ v, hK (hIu h 8 4 v) x = 7 := fun v => a4
  obtain ⟨a, b, hab, ha, hb, hba, hbb⟩ : ∃ a b, (w = 0 ∧ a = 0 ∧ b = n0 ∨ w = 1 ∧ a = n0 ∧ b = n1 ∨ w = 2 ∧ a = n1 ∧ b = n2) ∧ f_Te_begin x (nI w) (hIu h 8 4 (nI 0)) = some (nI a, hIu h 8 4 (nI 0)) ∧ hI h e w = nI b ∧ a ≤ b ∧ b ≤ n2 := by
    have ke : ∀ v, v < 3 → f_Te_end x (nI v) (hIu h 8 4 (nI 0)) = some (hI h e v, hIu h 8 4 (nI 0)) := fun v hv => by
      rw [Te_end_e (h := hIu h 8 4 (nI 0)) a4 a6 b3 b4 hv, iI, if_neg (by omega)]
    rcases (by omega : w = 0 ∨ w = 1 ∨ w = 2) with rfl | rfl | rfl
    · refine ⟨0, n0, Or.inl ⟨rfl, rfl, rfl⟩, ?_, b8, Nat.zero_le _, by omega⟩
      simp only [f_Te_begin, jn]
      rw [if_pos (by decide)]
      rfl
    · refine ⟨n0, n1, Or.inr (Or.inl ⟨rfl, rfl, rfl⟩), ?_, b9, b5, b6⟩
      simp only [f_Te_begin, jn]
      rw [if_neg (by decide), k1, li_sub (by decide), ke 0 (by decide), gd_t (nx _), bind_s, b8]
    · refine ⟨n1, n2, Or.inr (Or.inr ⟨rfl, rfl, rfl⟩), ?_, c1, b6, Nat.le_refl _⟩
      simp only [f_Te_begin, jn]
      rw [if_neg (by decide), k1, li_sub (by decide), ke 1 (by decide), gd_t (nx _), bind_s, b9]
  obtain ⟨g1, g2⟩ := c2' w a b hab
  have E : cds (hIu h 8 4 (nI 0)) c a (a + (b - a)) = cds h c a b := by
    rw [show a + (b - a) = b by omega]
    exact cds_fr (fun i => by rw [iI, if_neg (by omega)]) _ _
  obtain ⟨h', v, d1, d2, d3, d4, d5⟩ := Ru_answer_L (nm := hI h 9) (x := x) (c := c) (e := e) (w := w) (K := fun v27 h28 => gd (hK h28 8 = 2) (Option.bind (f_Ru_pop 8 h28) (fun q29 => some (q29.1, q29.2)))) hw a2 a7 b1 (b - a) a fu (hIu h 8 4 (nI 0)) [] s (by funext k; rw [iI, if_neg (by omega)]) a3 a8 b2 er a4 a5 a6 a9 b3 b4 b7' (by show a + (b - a) ≤ hL h c; omega) (by rw [iI, if_neg (by omega), show a + (b - a) = b by omega]; exact hb) (by show _ < 2000; omega) (by rw [iI, if_pos ⟨rfl, rfl⟩]; rfl) (by decide) trivial (by rw [E]; exact g1)
  rw [E, g2] at d4 d5
  obtain ⟨h2, p1, p2, p3, p4, p5⟩ := Ru_pop_e d2 (st := []) (by decide) d4 d5
  refine ⟨h2, ?_, p2, (((Fr.refl h).I rfl : Fr dRu h (hIu h 8 4 (nI 0))).trans d3).trans p5⟩
  have d0 : gd (hK h' 8 = 2) (Option.bind (f_Ru_pop 8 h') (fun q29 => some (q29.1, q29.2))) = some (T w (hI h 9), h2) := by
    rw [p1]
    exact gd_t (shp d2).2.2.2.2.2.2.2.1
  unfold f_Ru_answer
  rw [gd_t (shp s).2.2.2.2.2.2.2.1, er, if_neg hx0, gd_t a4, k0, ha, bind_s]
  exact d1.trans d0
theorem Ru_name_e (s : Shp h) (a b c d e : Int32) : ∃ h', f_Ru_name 8 a b c d e h = some ((), h') ∧ Shp h' ∧ Fr dNm h h' ∧ ∀ x, x < 6 → hI h' 9 x = nm6 a b c d e (hI h 7 1) x := by
  refine ⟨hIu (hIu (hIu (hIu (hIu (hIu h 9 0 a) 9 1 b) 9 2 c) 9 3 d) 9 4 e) 9 5 (hI h 7 1), ?_, s, ((((((Fr.refl h).I rfl).I rfl).I rfl).I rfl).I rfl).I rfl, ?_⟩
  · simp only [f_Ru_name, jn, gd, hp, if_true, bind_s, shp s, kI, lI, rI, iI, nHI, kR, lR, iR, rR, nHR, k0, k1, k2, k3, k4, k5, k6, k7, k8, k9, k10, k13, k20, k21, k22, k34, k35, k40, k45, k63, k99, k100, k128, k159, k160, k255, k256, k10000]
    simp (disch := omega) only [Nat.not_lt_zero, Nat.zero_le, kneg, li_le, li_lt, li_eq, li_cl, if_false, if_true, or_false, or_self, false_or, not_false_eq_true, not_true_eq_false]
    rfl
  · intro x hx
    rcases (by omega : x = 0 ∨ x = 1 ∨ x = 2 ∨ x = 3 ∨ x = 4 ∨ x = 5) with rfl | rfl | rfl | rfl | rfl | rfl <;> rfl
end P39

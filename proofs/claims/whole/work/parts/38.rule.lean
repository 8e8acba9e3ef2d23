/-! the class's stack, and an answer of a text -/
def StR (h : xH) : List Int32 → Prop
  | [] => True
  | a :: l => hI h 10 l.length = a ∧ StR h l
def dRu (p k : Nat) : Bool := !(p == 10 || (p == 8 && k == 4))
def dNm (p _k : Nat) : Bool := !(p == 9)
def dEv (p k : Nat) : Bool := !(p == 9 || p == 10 || (p == 8 && k == 4))
theorem StR_I {h : xH} {q j : Nat} {v : Int32} : ∀ {st : List Int32}, (q = 10 → st.length ≤ j) → StR h st → StR (hIu h q j v) st
  | [], _, _ => trivial
  | a :: l, h1, h2 => ⟨by
      rw [iI, if_neg (by rintro ⟨e1, e2⟩; have := h1 e1.symm; rw [List.length_cons] at this; omega)]
      exact h2.1, StR_I (fun e => by have := h1 e; rw [List.length_cons] at this; omega) h2.2⟩
section P38
variable {h : xH}
theorem Ru_push_e (s : Shp h) {st : List Int32} {v : Int32} (hl : st.length < 40) (e : hI h 8 4 = nI st.length) (r : StR h st) : ∃ h', f_Ru_push 8 v h = some ((), h') ∧ Shp h' ∧ hI h' 8 4 = nI (v :: st).length ∧ StR h' (v :: st) ∧ Fr dRu h h' := by
  refine ⟨hIu (hIu h 8 4 (nI (st.length + 1))) 10 st.length v, ?_, s, ?_, ⟨?_, ?_⟩, ((Fr.refl h).I rfl).I rfl⟩
  · simp only [f_Ru_push, jn, gd, hp, if_true, bind_s, shp s, e, k0, k1, k2, k3, k4, k5, k6, k7, k8, k9, k10, k13, k20, k21, k22, k34, k35, k40, k45, k63, k99, k100, k128, k159, k160, k255, k256, k10000]
    simp (disch := omega) only [Nat.not_lt_zero, Nat.zero_le, kneg, li_le, li_lt, li_eq, li_cl, if_false, if_true, or_false, or_self, false_or, not_false_eq_true, not_true_eq_false, Nat.not_le.mpr hl, nI_add, nI_1]
  · rw [iI, if_neg (by omega), iI, if_pos ⟨rfl, rfl⟩]
    rfl
  · rw [iI, if_pos ⟨rfl, rfl⟩]
  · exact StR_I (fun _ => Nat.le_refl _) (StR_I (by omega) r)
theorem Ru_pop_e (s : Shp h) {st : List Int32} {v : Int32} (hl : st.length < 40) (e : hI h 8 4 = nI (v :: st).length) (r : StR h (v :: st)) : ∃ h', f_Ru_pop 8 h = some (v, h') ∧ Shp h' ∧ hI h' 8 4 = nI st.length ∧ StR h' st ∧ Fr dRu h h' := by
  rw [List.length_cons] at e
  refine ⟨hIu h 8 4 (nI st.length), ?_, s, ?_, StR_I (by omega) r.2, (Fr.refl h).I rfl⟩
  · have e0 : ¬ nI (st.length + 1) ≤ nI 0 := nI_ge (by omega) (by omega)
    have e1 : ¬ nI 40 < nI (st.length + 1) := nI_nlt (by omega) (by decide)
    simp only [f_Ru_pop, jn, gd, hp, if_true, bind_s, shp s, e, k0, k1, k2, k3, k4, k5, k6, k7, k8, k9, k10, k13, k20, k21, k22, k34, k35, k40, k45, k63, k99, k100, k128, k159, k160, k255, k256, k10000, e0, e1, if_false]
    rw [li_sub (by omega), Nat.add_sub_cancel]
    simp (disch := omega) only [Nat.not_lt_zero, Nat.zero_le, kneg, li_le, li_lt, li_eq, li_cl, if_false, if_true, or_false, or_self, false_or, not_false_eq_true, not_true_eq_false, Nat.not_le.mpr hl]
    rw [iI, if_neg (by omega), r.1]
  · rw [iI, if_pos ⟨rfl, rfl⟩]
theorem Ru_step_e (s : Shp h) {st : List Int32} {c : Int32} (g : Gs_ok [c] st.length) (hl : st.length ≤ 40) (e : hI h 8 4 = nI st.length) (r : StR h st) : ∃ h', f_Ru_step 8 c h = some ((), h') ∧ Shp h' ∧ hI h' 8 4 = nI (stp (hI h 9) c st).length ∧ StR h' (stp (hI h 9) c st) ∧ Fr dRu h h' ∧ (stp (hI h 9) c st).length = st.length - ned c + 1 := by
  obtain ⟨g1, g2, g3, -⟩ := g
  rcases g1 with ⟨n, hn, rfl⟩ | ⟨hn, hn2⟩
  · have n0 : ned (nI n) = 0 := by
      unfold ned
      rw [if_pos (nI_pos' (by omega))]
    rw [n0] at g3 ⊢
    by_cases hb : n < 10000
    · have es : stp (hI h 9) (nI n) st = nI n :: st := by
        unfold stp
        rw [k10000, if_neg (nI_ge hb (by omega)), if_pos (nI_pos' (by omega))]
      obtain ⟨h', a1, a2, a3, a4, a5⟩ := Ru_push_e s (v := nI n) (by omega) e r
      refine ⟨h', ?_, a2, es ▸ a3, es ▸ a4, a5, by rw [es]; rfl⟩
      simp only [f_Ru_step, jn, gd, hp, if_true, bind_s, shp s, k0, k1, k2, k3, k4, k5, k6, k7, k8, k9, k10, k13, k20, k21, k22, k34, k35, k40, k45, k63, k99, k100, k128, k159, k160, k255, k256, k10000]
      simp (disch := omega) only [Nat.not_lt_zero, Nat.zero_le, kneg, li_le, li_lt, li_eq, li_cl, if_false, if_true, or_false, or_self, false_or, not_false_eq_true, not_true_eq_false, hb, a1, bind_s]
    · have es : stp (hI h 9) (nI n) st = hI h 9 (n - 10000) :: st := by
        unfold stp
        rw [k10000, if_pos (nI_le (by omega) (by omega)), li_sub (by omega), nI_clamp (by omega)]
      obtain ⟨h', a1, a2, a3, a4, a5⟩ := Ru_push_e s (v := hI h 9 (n - 10000)) (by omega) e r
      refine ⟨h', ?_, a2, es ▸ a3, es ▸ a4, a5, by rw [es]; rfl⟩
      simp only [f_Ru_step, jn, gd, hp, if_true, bind_s, shp s, k0, k1, k2, k3, k4, k5, k6, k7, k8, k9, k10, k13, k20, k21, k22, k34, k35, k40, k45, k63, k99, k100, k128, k159, k160, k255, k256, k10000]
      rw [li_sub (by omega)]
      simp (disch := omega) only [Nat.not_lt_zero, Nat.zero_le, kneg, li_le, li_lt, li_eq, li_cl, if_false, if_true, or_false, or_self, false_or, not_false_eq_true, not_true_eq_false, hb, Nat.not_le.mpr (show n - 10000 < 6 by omega), a1, bind_s]
  · have c0 : c < nI 0 := by rw [nI_0, fa_lt, Int32.toInt_zero]; exact hn
    have c1 : c < nI 10000 := by rw [fa_lt, nI_toInt (by decide)]; omega
    have c2' : ¬ (10000 : Int32) ≤ c := by show ¬ nI 10000 ≤ c; rw [fa_le, nI_toInt (by decide)]; omega
    have c3' : ¬ 0 ≤ c := by rw [fa_le, Int32.toInt_zero]; omega
    by_cases h8 : c = -8
    · subst h8
      have n0 : ned (-8) = 1 := by decide
      rw [n0] at g2 g3 ⊢
      cases st with
      | nil => exact absurd g2 (by decide)
      | cons a l =>
        rw [List.length_cons] at hl g3
        have es : stp (hI h 9) (-8) (a :: l) = (if a = 0 then 1 else 0) :: l := by
          unfold stp
          rw [if_neg c2', if_neg c3', if_pos rfl]
          rfl
        obtain ⟨h', a1, a2, a3, a4, a5⟩ := Ru_pop_e s (by omega) e r
        obtain ⟨h2, b1, b2, b3, b4, b5⟩ := Ru_push_e a2 (v := if a = 0 then 1 else 0) (by omega) a3 a4
        refine ⟨h2, ?_, b2, es ▸ b3, es ▸ b4, a5.trans b5, by rw [es]; rfl⟩
        simp only [f_Ru_step, jn, gd, hp, if_true, bind_s, shp s]
        rw [if_pos (show (-8 : Int32) < 10000 by decide), if_pos (show (-8 : Int32) < 0 by decide), a1]
        simp only [bind_s, shp a2, if_true, b1]
    · by_cases h9 : c = -9
      · subst h9
        have n0 : ned (-9) = 1 := by decide
        rw [n0] at g2 g3 ⊢
        cases st with
        | nil => exact absurd g2 (by decide)
        | cons a l =>
          rw [List.length_cons] at hl g3
          have es : stp (hI h 9) (-9) (a :: l) = (- a) :: l := by
            unfold stp
            rw [if_neg c2', if_neg c3', if_neg (by decide), if_pos rfl]
            rfl
          obtain ⟨h', a1, a2, a3, a4, a5⟩ := Ru_pop_e s (by omega) e r
          obtain ⟨h2, b1, b2, b3, b4, b5⟩ := Ru_push_e a2 (v := - a) (by omega) a3 a4
          refine ⟨h2, ?_, b2, es ▸ b3, es ▸ b4, a5.trans b5, by rw [es]; rfl⟩
          simp only [f_Ru_step, jn, gd, hp, if_true, bind_s, shp s]
          rw [if_pos (show (-9 : Int32) < 10000 by decide), if_pos (show (-9 : Int32) < 0 by decide), a1]
          simp only [bind_s, shp a2, if_true]
          rw [if_neg (by decide)]
          simp only [b1, bind_s]
      · have n0 : ned c = 2 := by
          unfold ned
          rw [if_neg c3', if_neg h8, if_neg h9]
        rw [n0] at g2 g3 ⊢
        match st, hl, g2, g3, e, r with
        | [], _, g2, _, _, _ => exact absurd g2 (by decide)
        | [_], _, g2, _, _, _ => simp at g2
        | a :: b :: l, hl, g2, g3, e, r =>
          rw [List.length_cons, List.length_cons] at hl g3
          obtain ⟨h', a1, a2, a3, a4, a5⟩ := Ru_pop_e s (by rw [List.length_cons]; omega) e r
          obtain ⟨h2, b1, b2, b3, b4, b5⟩ := Ru_pop_e a2 (by omega) a3 a4
          have ej : ∃ v, (∀ hh, f_Ru_joined c b a hh = some (v, hh)) ∧ stp (hI h 9) c (a :: b :: l) = v :: l := by
            refine ⟨if c = -7 then (if b = 0 then 0 else if a = 0 then 0 else 1) else if c = -6 then (if b = 0 then (if a = 0 then 0 else 1) else 1) else if c = -5 then (if b = a then 1 else 0) else if c = -4 then (if a ≤ b then 0 else 1) else if c = -3 then b * a else if c = -2 then b - a else if c = -1 then b + a else 0, fun hh => ?_, ?_⟩
            · simp only [f_Ru_joined, jn]
              split
              · split
                · rfl
                · split <;> rfl
              · split
                · split
                  · split <;> rfl
                  · rfl
                · split
                  · rfl
                  · split
                    · rfl
                    · split
                      · rfl
                      · split
                        · rfl
                        · split <;> rfl
            · unfold stp
              rw [if_neg c2', if_neg c3', if_neg h8, if_neg h9]
              rfl
          obtain ⟨v, ej1, ej2⟩ := ej
          obtain ⟨h3, d1, d2, d3, d4, d5⟩ := Ru_push_e b2 (v := v) (by omega) b3 b4
          refine ⟨h3, ?_, d2, ej2 ▸ d3, ej2 ▸ d4, (a5.trans b5).trans d5, by rw [ej2]; rfl⟩
          simp only [f_Ru_step, jn, gd, hp, if_true, bind_s, shp s]
          rw [if_pos (show c < 10000 from c1), if_pos (show c < 0 from c0), a1]
          simp only [bind_s, shp a2, if_true]
          rw [if_neg h8, if_neg h9, b1]
          simp only [bind_s, ej1, shp b2, if_true, d1]
theorem cds_succ (c a : Nat) : ∀ n, cds h c a (a + (n + 1)) = cds h c a (a + n) ++ [hI h c (a + n)] := fun n => by
  unfold cds
  rw [Nat.add_sub_cancel_left, Nat.add_sub_cancel_left, List.range_succ, List.map_append]
  rfl
theorem Gs_app : ∀ (a b : List Int32) (n : Nat), Gs_ok (a ++ b) n → Gs_ok a n ∧ ∀ nm st, st.length = n → Gs_ok b (runs nm a st).length
  | [], b, n, g => ⟨trivial, fun nm st e => by rw [show runs nm [] st = st from rfl, e]; exact g⟩
  | c :: a, b, n, g => by
    obtain ⟨g1, g2, g3, g4⟩ := g
    obtain ⟨i1, i2⟩ := Gs_app a b _ g4
    refine ⟨⟨g1, g2, g3, i1⟩, fun nm st e => i2 nm (stp nm c st) ?_⟩
    subst e
    rcases g1 with ⟨n, hn, rfl⟩ | ⟨hn, hn2⟩
    · have n0 : ned (nI n) = 0 := by
        unfold ned
        rw [if_pos (nI_pos' (by omega))]
      rw [n0]
      unfold stp
      split
      · rfl
      · rw [if_pos (nI_pos' (by omega))]
        rfl
    · have c2' : ¬ (10000 : Int32) ≤ c := by rw [fa_le]; show ¬ (10000 : Int) ≤ _; omega
      have c3' : ¬ 0 ≤ c := by rw [fa_le, Int32.toInt_zero]; omega
      unfold stp ned at *
      rw [if_neg c3'] at *
      rw [if_neg c2', if_neg c3']
      split
      · rename_i h8
        rw [if_pos h8] at *
        simp only [List.length_cons, List.length_tail]
      · rename_i h8
        rw [if_neg h8] at *
        split
        · rename_i h9
          rw [if_pos h9] at *
          simp only [List.length_cons, List.length_tail]
        · rename_i h9
          rw [if_neg h9] at *
          simp only [List.length_cons, List.length_tail]
          omega
end P38

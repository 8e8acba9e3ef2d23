/-! the threes weighed anew -/
section P41
variable {g r : Nat} {T : Nat → Nat → (Nat → Int32) → Int32} {h : xH}
/-- all threes before (k, j, i) = (th, ot, on) are weighed -/
def PWg (g r : Nat) (T : Nat → Nat → (Nat → Int32) → Int32) (h : xH) (th ot on : Nat) (h' : xH) : Prop := Shp h' ∧ Fr dWg h h' ∧ hI h' 11 3 = nI (c3 g) ∧ ∀ i j k, i < j → j < k → k < g → (k < th ∨ k = th ∧ j < ot ∨ k = th ∧ j = ot ∧ i < on) → hI h' 12 (st3 (i, j, k)) = b2i (T r 0 (nm6 (nI i) (nI j) (nI k) 3 3 (nI g)) != 0) ∧ hI h' 13 (st3 (i, j, k)) = b2i (T r 0 (nm6 (nI i) (nI j) (nI k) 0 3 (nI g)) != 0)
theorem PWg_step (R : RdC g r T h) {th ot on : Nat} (ht : th < g) (ho : ot < th) (hn : on < ot) {h1 : xH} (P : PWg g r T h th ot on h1) : ∃ h2, f_St_weighThree 11 8 (nI on) (nI ot) (nI th) h1 = some ((), h2) ∧ PWg g r T h th ot (on + 1) h2 := by
  obtain ⟨s1, x1, e1, q1⟩ := P
  have hg := R.2.2.2.1.1
  have n51 := R.2.1
  have R1 := RdC_wg R s1 x1
  have es := set3 th (by omega) ot ho on hn
  have hs := (wi_st th (by omega) ot ho on hn).2.1
  obtain ⟨h2, a1, a2, a3⟩ := Ru_counts_e R1 (nI on) (nI ot) (nI th) 3
  have R2 : RdC g r T (hIu h2 12 (st3 (on, ot, th)) (b2i (T r 0 (nm6 (nI on) (nI ot) (nI th) 3 3 (nI g)) != 0))) := RdC_wg (RdC_ev R1 a2 a3) a2 ((Fr.refl h2).I rfl)
  obtain ⟨h3, b1, b2, b3⟩ := Ru_counts_e R2 (nI on) (nI ot) (nI th) 0
  refine ⟨hIu h3 13 (st3 (on, ot, th)) (b2i (T r 0 (nm6 (nI on) (nI ot) (nI th) 0 3 (nI g)) != 0)), ?_, b2, ?_, ?_, ?_⟩
  · simp only [f_St_weighThree, jn, gd, es, shp s1, if_true]
    rw [if_neg (nI_pos (by omega)), if_pos (show nI (st3 (on, ot, th)) < 128 from nI_lt hs (by decide)), a1]
    simp only [bind_s, shp a2, if_true, knbb, nI_clamp (show st3 (on, ot, th) < 2 ^ 31 by omega)]
    have hin : ¬ (nI (st3 (on, ot, th)) < 0 ∨ 128 ≤ st3 (on, ot, th)) := fun z => z.elim (nI_pos (by omega)) (by omega)
    rw [if_pos hin, b1]
    simp only [bind_s, shp b2, if_true, knbb]
    rw [if_pos hin]
  · exact ((x1.trans (a3.mono (fun p k => dWg_ev))).trans ((Fr.refl h2).I rfl)).trans ((b3.mono (fun p k => dWg_ev)).trans ((Fr.refl h3).I rfl))
  · have u1 := ((a3.2 11 (by have := x1.1; omega)).2.2 3 rfl).1
    have u2 := ((b3.2 11 (by have := x1.1; have := a3.1; show 11 < hN h2; omega)).2.2 3 rfl).1
    rw [iI, if_neg (by omega), u2, iI, if_neg (by omega), u1]
    exact e1
  · intro i j k hi hj hk hw
    have n1 : 12 < hN h1 ∧ 13 < hN h1 := by have := x1.1; omega
    have n2 : 12 < hN h2 ∧ 13 < hN h2 := by have := a3.1; omega
    have v12 := fun z => ((a3.2 12 n1.1).2.2 z rfl).1
    have v13 := fun z => ((a3.2 13 n1.2).2.2 z rfl).1
    have w12 := fun z => ((b3.2 12 n2.1).2.2 z rfl).1
    have w13 := fun z => ((b3.2 13 n2.2).2.2 z rfl).1
    by_cases e : i = on ∧ j = ot ∧ k = th
    · obtain ⟨rfl, rfl, rfl⟩ := e
      refine ⟨?_, ?_⟩
      · rw [iI, if_neg (by omega), w12, iI, if_pos ⟨rfl, rfl⟩]
      · rw [iI, if_pos ⟨rfl, rfl⟩]
    · have ne : ¬ st3 (i, j, k) = st3 (on, ot, th) := fun z => e (st3_inj (by omega) hj hi (by omega) ho hn z)
      have old := q1 i j k hi hj hk (by omega)
      refine ⟨?_, ?_⟩
      · rw [iI, if_neg (by omega), w12, iI, if_neg (by omega), v12]
        exact old.1
      · rw [iI, if_neg (by omega), w13, iI, if_neg (by omega), v13]
        exact old.2
theorem PWg_mono {a b c a2 b2 c' : Nat} {h' : xH} (P : PWg g r T h a b c h') (m : ∀ i j k, i < j → j < k → k < g → (k < a2 ∨ k = a2 ∧ j < b2 ∨ k = a2 ∧ j = b2 ∧ i < c') → (k < a ∨ k = a ∧ j < b ∨ k = a ∧ j = b ∧ i < c)) : PWg g r T h a2 b2 c' h' := ⟨P.1, P.2.1, P.2.2.1, fun i j k hi hj hk hw => P.2.2.2 i j k hi hj hk (m i j k hi hj hk hw)⟩
theorem St_weigh_e (R : RdC g r T h) : ∃ h', f_St_weigh 11 8 (nI g) h = some ((), h') ∧ Shp h' ∧ Fr dWg h h' ∧ Jst g r T h' := by
  have hg := R.2.2.2.1.1
  have s := R.1
  suffices S : ∃ h', f_St_weigh_L10 11 8 (nI g) fu (nI 2) (hIu h 11 3 (nI (c3 g))) (fun v15 h16 => some ((), h16)) = some ((), h') ∧ PWg g r T h g 0 0 h' by
    obtain ⟨h', e, p1, p2, p3, p4⟩ := S
    refine ⟨h', ?_, p1, p2, p3, fun i j k hi hj hk => p4 i j k hi hj hk (by omega)⟩
    simp only [f_St_weigh, Se_threesAmong_n hg, bind_s, gd, shp s, if_true]
    exact e
  have P0 : PWg g r T h 2 0 0 (hIu h 11 3 (nI (c3 g))) := ⟨s, (Fr.refl h).I rfl, by rw [iI, if_pos ⟨rfl, rfl⟩], fun i j k hi hj hk hw => by omega⟩
  have inner : ∀ th ot (h1 : xH) K, th < g → ot < th → PWg g r T h th ot 0 h1 → ∃ h2, f_St_weigh_L27 11 8 (nI g) (nI th) (nI ot) fu (0 : Int32) h1 K = K (nI ot) h2 ∧ PWg g r T h th (ot + 1) 0 h2 := by
    intro th ot h1 K ht ho P
    refine lpf (fun n i v => f_St_weigh_L27 11 8 (nI g) (nI th) (nI ot) n i v K) (fun o => ∃ h2, o = K (nI ot) h2 ∧ PWg g r T h th (ot + 1) 0 h2) (fun i v => PWg g r T h th ot i v) ot (Nat.zero_le _) (by omega) P ?_ ?_
    · intro n i v hi p
      obtain ⟨h2, a1, a2⟩ := PWg_step R ht ho hi p
      refine Or.inr ⟨h2, ?_, a2⟩
      simp only [f_St_weigh_L27, gd, shp p.1, if_true]
      rw [if_neg (nI_ge hi (by omega)), a1]
      simp only [bind_s, nI_1]
    · intro n v p
      refine ⟨v, ?_, PWg_mono p (fun i j k _ _ _ _ => by omega)⟩
      simp only [f_St_weigh_L27]
      rw [if_pos (nI_le (Nat.le_refl _) (by omega))]
  have mid : ∀ th (h1 : xH) K, th < g → 1 ≤ th → PWg g r T h th 1 0 h1 → ∃ h2, f_St_weigh_L18 11 8 (nI g) (nI th) fu (1 : Int32) h1 K = K (nI th) h2 ∧ PWg g r T h (th + 1) 0 0 h2 := by
    intro th h1 K ht h1t P
    refine lpf (fun n i v => f_St_weigh_L18 11 8 (nI g) (nI th) n i v K) (fun o => ∃ h2, o = K (nI th) h2 ∧ PWg g r T h (th + 1) 0 0 h2) (fun i v => PWg g r T h th i 0 v) th (i := 1) h1t (by omega) P ?_ ?_
    · intro n i v hi p
      obtain ⟨h2, a1, a2⟩ := inner th i v (fun v11 h12 => f_St_weigh_L18 11 8 (nI g) (nI th) n (nI i + (1 : Int32)) h12 K) ht hi p
      refine Or.inr ⟨h2, ?_, a2⟩
      simp only [f_St_weigh_L18]
      rw [if_neg (nI_ge hi (by omega)), a1, nI_1]
    · intro n v p
      refine ⟨v, ?_, PWg_mono p (fun i j k _ _ _ _ => by omega)⟩
      simp only [f_St_weigh_L18]
      rw [if_pos (nI_le (Nat.le_refl _) (by omega))]
  by_cases h2g : 2 ≤ g
  · refine lpf (fun n i v => f_St_weigh_L10 11 8 (nI g) n i v (fun v15 h16 => some ((), h16))) (fun o => ∃ h2, o = some ((), h2) ∧ PWg g r T h g 0 0 h2) (fun i v => 2 ≤ i ∧ PWg g r T h i 0 0 v) g (i := 2) h2g (by omega) ⟨Nat.le_refl 2, P0⟩ ?_ ?_
    · intro n i v hi p
      obtain ⟨h2, a1, a2⟩ := mid i v (fun v13 h14 => f_St_weigh_L10 11 8 (nI g) n (nI i + (1 : Int32)) h14 (fun v15 h16 => some ((), h16))) hi (by omega) (PWg_mono p.2 (fun i j k _ _ _ _ => by omega))
      refine Or.inr ⟨h2, ?_, by omega, a2⟩
      simp only [f_St_weigh_L10]
      rw [if_neg (nI_ge hi (by omega)), a1, nI_1]
    · intro n v p
      refine ⟨v, ?_, p.2⟩
      simp only [f_St_weigh_L10]
      rw [if_pos (nI_le (Nat.le_refl _) (by omega))]
  · refine lpf (fun n i v => f_St_weigh_L10 11 8 (nI g) n i v (fun v15 h16 => some ((), h16))) (fun o => ∃ h2, o = some ((), h2) ∧ PWg g r T h g 0 0 h2) (fun i v => 2 ≤ i ∧ PWg g r T h 2 0 0 v) 2 (i := 2) (Nat.le_refl 2) (by omega) ⟨Nat.le_refl 2, P0⟩ (fun n i v hi p => absurd hi (by have := p.1; omega)) ?_
    intro n v p
    refine ⟨v, ?_, PWg_mono p.2 (fun i j k _ _ _ _ => by omega)⟩
    simp only [f_St_weigh_L10]
    rw [if_pos (nI_le (by omega) (by omega))]
end P41

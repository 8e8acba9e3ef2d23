section P75
variable {h : xH} {B : Nat → Nat} {t z p d : Nat} {nm : Nat → Int32}
theorem part_m {w : Nat} (M : MSt B t z nm 5 p h) : MR B t z nm (rp B z w p) 5 h (f_Mo_part 36 (b2i (tk B z p == 262 + w)) h) := by
  have s := M.1.1
  have g : hK h 36 = 11 := by simp only [shp s]
  unfold f_Mo_part rp prt
  simp only [jn]
  by_cases c : tk B z p = 262 + w
  · rw [if_pos c, if_neg (bqt c), gd_t g, if_pos M.2.2.2.1]
    obtain ⟨h1, a1, a2, a3⟩ := next_m M (tk4 (by omega))
    obtain ⟨v, h2, b1, b2, b3⟩ := top_m a2
    rw [a1, bind_s, gd_t (by simp only [shp a2.1.1]), if_pos a2.2.2.2.1, b1, bind_s]
    generalize pG (tk B z) (nx B z) (nv B z) 24 5 (nx B z p) = r at *
    rcases b3 with ⟨r1, M3, ev⟩ | ⟨r1, F3⟩
    · rw [if_pos r1, gd_t (by simp only [shp M3.1.1]), isS59 M3, bind_s]
      by_cases c4 : tk B z r.2.1 = 59
      · rw [if_pos c4, if_neg (bqt c4), gd_t (by simp only [shp M3.1.1]), if_pos M3.2.2.2.1]
        obtain ⟨h3, d1, d2, d3⟩ := next_m M3 (tk4 (by omega))
        rw [d1, bind_s]
        exact ⟨v, h3, rfl, (a3.trans b2).trans d3, Or.inl ⟨rfl, d2, ev⟩⟩
      · obtain ⟨h3, d1, d2, d3⟩ := fail_e M3
        rw [if_neg c4, if_pos (bqf c4), gd_t (by simp only [shp M3.1.1]), d1, bind_s, gd_t (by simp only [shp d2.1]), if_neg (by rw [d2.2.2.1]; decide)]
        exact MR_out rfl ((a3.trans b2).trans d3) d2 rfl
    · rw [if_neg (by rw [r1]; decide), gd_t (by simp only [shp F3.1]), isSign_f F3.1 F3.2.2.1, bind_s, if_pos rfl, gd_t (by simp only [shp F3.1]), fail_f F3.1 F3.2.2.1, bind_s, gd_t (by simp only [shp F3.1]), if_neg (by rw [F3.2.2.1]; decide)]
      exact MR_out rfl (a3.trans b2) F3 r1
  · obtain ⟨h1, a1, F, a3⟩ := fail_e M
    have n0 : ¬ hI h1 36 26 = 0 := by rw [F.2.2.1]; decide
    have g1 : hK h1 36 = 11 := by simp only [shp F.1]
    rw [if_neg c, if_pos (bqf c), gd_t g, a1, bind_s, gd_t g1, if_neg n0, gd_t g1, if_neg n0, gd_t g1, isSign_f F.1 F.2.2.1, bind_s, if_pos rfl, gd_t g1, fail_f F.1 F.2.2.1, bind_s, gd_t g1, if_neg n0]
    exact MR_out rfl a3 F rfl
theorem read_m {w : Nat} (s : Shp h) (n51 : 0 ≤ hN h) (z160 : z ≤ 160) (t6 : t < 6) (hw : w < 3) (ez : hI h 38 t = nI z) (eb : ∀ i, i < z → hI h 37 (160 * t + i) = nI (B i) ∧ B i < 256) : ∃ v h', f_Mo_read 36 (nI t) (nI w) h = some (v, h') ∧ Shp h' ∧ 0 ≤ hN h' ∧ Fs dPar h h' ∧ ((rdO B z = true ∧ hI h' 36 26 = 0 ∧ ∀ st, runs (fun x => hI h 36 (13 + x)) (rdC B z w) st = v :: st) ∨ (rdO B z = false ∧ hI h' 36 26 = 1 ∧ hI h' 36 27 = nI (sta B z (rdP B z)))) := by
  have X0 : Fs dPar h (hIu (hIu (hIu (hIu (hIu h 36 19 (nI (160 * t))) 36 20 (nI z)) 36 21 (0 : Int32)) 36 25 (0 : Int32)) 36 26 (0 : Int32)) := (((((Fs.refl h).I rfl).I rfl).I rfl).I rfl).I rfl
  have C0 : MlB B t z (hIu (hIu (hIu (hIu (hIu h 36 19 (nI (160 * t))) 36 20 (nI z)) 36 21 (0 : Int32)) 36 25 (0 : Int32)) 36 26 (0 : Int32)) := ⟨s, n51, z160, t6, by rw [iI, if_neg (by omega), iI, if_neg (by omega), iI, if_neg (by omega), iI, if_neg (by omega), iI, if_pos ⟨rfl, rfl⟩], by rw [iI, if_neg (by omega), iI, if_neg (by omega), iI, if_neg (by omega), iI, if_pos ⟨rfl, rfl⟩], fun i hi => by rw [iI, if_neg (by omega), iI, if_neg (by omega), iI, if_neg (by omega), iI, if_neg (by omega), iI, if_neg (by omega)]; exact eb i hi⟩
  have q21 : hI (hIu (hIu (hIu (hIu (hIu h 36 19 (nI (160 * t))) 36 20 (nI z)) 36 21 (0 : Int32)) 36 25 (0 : Int32)) 36 26 (0 : Int32)) 36 21 = nI 0 := by rw [iI, if_neg (by omega), iI, if_neg (by omega), iI, if_pos ⟨rfl, rfl⟩]; rfl
  have q25 : hI (hIu (hIu (hIu (hIu (hIu h 36 19 (nI (160 * t))) 36 20 (nI z)) 36 21 (0 : Int32)) 36 25 (0 : Int32)) 36 26 (0 : Int32)) 36 25 = nI 0 := by rw [iI, if_neg (by omega), iI, if_pos ⟨rfl, rfl⟩]; rfl
  have q26 : hI (hIu (hIu (hIu (hIu (hIu h 36 19 (nI (160 * t))) 36 20 (nI z)) 36 21 (0 : Int32)) 36 25 (0 : Int32)) 36 26 (0 : Int32)) 36 26 = 0 := by rw [iI, if_pos ⟨rfl, rfl⟩]
  have em : (160 : Int32) * nI t = nI (160 * t) := li_mul _ _
  unfold f_Mo_read
  rw [gd_t (by simp only [shp s]), gd_t (by simp only [shp s]), nI_clamp (show t < 2 ^ 31 by omega), gd_t (by simp only [shp s]; exact nin (show t < 6 by omega) (by omega)), show hR h 36 2 = 38 by simp only [shp s], em, iI, if_neg (by omega), ez]
  simp only [hp, jn]
  obtain ⟨h1, a1, a2, a3, a4⟩ := next_e C0 q21 (Nat.zero_le _)
  have X1 := X0.trans (a3.mono (fun p k => dPar_mx))
  have c0n := C0.2.1
  have M1 : MSt B t z (fun x => hI h 36 (13 + x)) 5 0 h1 := ⟨MlB_fr C0 a2 a3 rfl rfl (fun _ => rfl), a4, Nat.zero_le _, (a3.v c0n 26 (by decide) rfl).trans q26, (a3.v c0n 25 (by decide) rfl).trans q25, fun y hy => X1.v n51 (13 + y) (by decide) (by rcases (by omega : y = 0 ∨ y = 1 ∨ y = 2 ∨ y = 3 ∨ y = 4 ∨ y = 5) with rfl | rfl | rfl | rfl | rfl | rfl <;> rfl)⟩
  rw [a1, bind_s, gd_t (by simp only [shp a2]), isW_6 M1, bind_s, gd_t (by simp only [shp a2])]
  obtain ⟨v0, h2, b1, b2, b3⟩ := part_m (w := 0) M1
  have b1 : f_Mo_part 36 (b2i (tk B z 0 == 262)) h1 = some (v0, h2) := b1
  rw [b1, bind_s]
  rcases b3 with ⟨r1, M2, ev0⟩ | ⟨r1, F2⟩
  · have g2 : hK h2 36 = 11 := by simp only [shp M2.1.1]
    rw [gd_t g2, if_pos M2.2.2.2.1, isW_7 M2, bind_s, gd_t g2]
    obtain ⟨v1, h3, d1, d2, d3⟩ := part_m (w := 1) M2
    have d1 : f_Mo_part 36 (b2i (tk B z (rp B z 0 0).2.1 == 263)) h2 = some (v1, h3) := d1
    rw [d1, bind_s]
    rcases d3 with ⟨r2, M3, ev1⟩ | ⟨r2, F3⟩
    · have g3 : hK h3 36 = 11 := by simp only [shp M3.1.1]
      rw [gd_t g3, if_pos M3.2.2.2.1, isW_8 M3, bind_s, gd_t g3]
      obtain ⟨v2, h4, e1, e2, e3⟩ := part_m (w := 2) M3
      have e1 : f_Mo_part 36 (b2i (tk B z (rp B z 1 (rp B z 0 0).2.1).2.1 == 264)) h3 = some (v2, h4) := e1
      rw [e1, bind_s]
      have VW : ∀ st, runs (fun x => hI h 36 (13 + x)) (rp B z 2 (rp B z 1 (rp B z 0 0).2.1).2.1).2.2 st = v2 :: st → runs (fun x => hI h 36 (13 + x)) (rdC B z w) st = (if nI w = 0 then v0 else if nI w = (1 : Int32) then v1 else v2) :: st := by
        intro st e
        unfold rdC
        rcases (by omega : w = 0 ∨ w = 1 ∨ w = 2) with rfl | rfl | rfl
        · rw [if_pos rfl, if_pos (show nI 0 = 0 from rfl)]
          exact ev0 st
        · rw [if_neg (by decide), if_pos rfl, if_neg (show ¬ nI 1 = 0 by decide), if_pos (show nI 1 = (1 : Int32) from rfl)]
          exact ev1 st
        · rw [if_neg (by decide), if_neg (by decide), if_neg (show ¬ nI 2 = 0 by decide), if_neg (show ¬ nI 2 = (1 : Int32) by decide)]
          exact e
      rcases e3 with ⟨r3, M4, ev2⟩ | ⟨r3, F4⟩
      · have g4 : hK h4 36 = 11 := by simp only [shp M4.1.1]
        have kf := kd_of (B := B) (z := z) (p := (rd2 B z).2.1) rfl
        have kl := kd_lt (B := B) (z := z) (p := (rd2 B z).2.1)
        have k22 : hI h4 36 22 = nI (kd B z (rd2 B z).2.1) := M4.2.1.2.2.1
        rw [gd_t g4, if_pos M4.2.2.2.1, k22]
        by_cases q : tk B z (rd2 B z).2.1 = 0
        · have k0 := kf.2.2.2.mp q
          rw [if_pos (show nI (kd B z (rd2 B z).2.1) = 0 by rw [k0]; rfl)]
          refine ⟨_, h4, rfl, M4.1.1, M4.1.2.1, ((X1.trans b2).trans d2).trans e2, Or.inl ⟨?_, M4.2.2.2.1, fun st => VW st (ev2 st)⟩⟩
          unfold rdO
          rw [show (rd0 B z).1 = true from r1, show (rd1 B z).1 = true from r2, show (rd2 B z).1 = true from r3, q]
          rfl
        · obtain ⟨h5, f1, f2, f3⟩ := fail_e M4
          rw [if_neg (nI_ne0 (Nat.pos_of_ne_zero (fun e => q (kf.2.2.2.mpr e))) (by omega)), f1, bind_s]
          refine ⟨_, h5, rfl, f2.1, f2.2.1, (((X1.trans b2).trans d2).trans e2).trans f3, Or.inr ⟨?_, f2.2.2.1, ?_⟩⟩
          · unfold rdO
            rw [show (rd0 B z).1 = true from r1, show (rd1 B z).1 = true from r2, show (rd2 B z).1 = true from r3, beq_eq_false_iff_ne.mpr q]
            rfl
          · unfold rdP
            rw [if_pos (show (rd0 B z).1 = true from r1), if_pos (show (rd1 B z).1 = true from r2)]
            exact f2.2.2.2
      · have g4 : hK h4 36 = 11 := by simp only [shp F4.1]
        rw [gd_t g4, if_neg (by rw [F4.2.2.1]; decide)]
        refine ⟨_, h4, rfl, F4.1, F4.2.1, ((X1.trans b2).trans d2).trans e2, Or.inr ⟨?_, F4.2.2.1, ?_⟩⟩
        · unfold rdO
          rw [show (rd0 B z).1 = true from r1, show (rd1 B z).1 = true from r2, show (rd2 B z).1 = false from r3]
          rfl
        · unfold rdP
          rw [if_pos (show (rd0 B z).1 = true from r1), if_pos (show (rd1 B z).1 = true from r2)]
          exact F4.2.2.2
    · have g3 : hK h3 36 = 11 := by simp only [shp F3.1]
      have n3 : ¬ hI h3 36 26 = 0 := by rw [F3.2.2.1]; decide
      rw [gd_t g3, if_neg n3, gd_t g3, if_neg n3]
      refine ⟨_, h3, rfl, F3.1, F3.2.1, (X1.trans b2).trans d2, Or.inr ⟨?_, F3.2.2.1, ?_⟩⟩
      · unfold rdO
        rw [show (rd0 B z).1 = true from r1, show (rd1 B z).1 = false from r2]
        rfl
      · unfold rdP
        rw [if_pos (show (rd0 B z).1 = true from r1), if_neg (show ¬ (rd1 B z).1 = true by rw [show (rd1 B z).1 = false from r2]; decide)]
        exact F3.2.2.2
  · have g2 : hK h2 36 = 11 := by simp only [shp F2.1]
    have n2 : ¬ hI h2 36 26 = 0 := by rw [F2.2.2.1]; decide
    rw [gd_t g2, if_neg n2, gd_t g2, if_neg n2, gd_t g2, if_neg n2]
    refine ⟨_, h2, rfl, F2.1, F2.2.1, X1.trans b2, Or.inr ⟨?_, F2.2.2.1, ?_⟩⟩
    · unfold rdO
      rw [show (rd0 B z).1 = false from r1]
      rfl
    · unfold rdP
      rw [if_neg (show ¬ (rd0 B z).1 = true by rw [show (rd0 B z).1 = false from r1]; decide)]
      exact F2.2.2.2
end P75

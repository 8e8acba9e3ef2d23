/-! text: both sides -/
section P77
variable {h : xH} {B : Nat → Nat} {t z p d : Nat}
theorem Shp_fr {h' : xH} (s : Shp h) (n : 51 ≤ hN h) (x : Fr (fun _ _ => true) h h') : Shp h' := by
  have K2 : ∀ q, q < 51 → hK h' q = hK h q := fun q hq => (x.2 q (by omega)).1
  have L2 : ∀ q, q < 51 → hL h' q = hL h q := fun q hq => (x.2 q (by omega)).2.1
  have R2 : ∀ q k, q < 51 → hR h' q k = hR h q k := fun q k hq => ((x.2 q (by omega)).2.2 k rfl).2
  have s2 := s
  unfold Shp at s2 ⊢
  simp (disch := omega) only [K2, L2, R2]
  exact s2
theorem copy_e {L : Nat} (s : Shp h) (n : 51 ≤ hN h) (hL160 : L ≤ 160) : ∃ h9, f_Ar_copyOf 19 (nI L) h = some (hN h, h9) ∧ hN h9 = hN h + 1 ∧ Fr (fun _ _ => true) h h9 ∧ hK h9 (hN h) = 12 ∧ (L ≤ hL h9 (hN h) ∧ hL h9 (hN h) ≤ 160) ∧ ∀ i, i < L → hI h9 (hN h) i = hI h 19 i := by
  have l19 : hL h 19 = 160 := by simp only [shp s]
  unfold f_Ar_copyOf
  rw [gd_t (by simp only [shp s]), l19]
  by_cases c : L = 160
  · subst c
    rw [if_pos (show nI 160 = Int32.ofNat 160 from rfl), gd_t (by decide)]
    refine ⟨hCl h 19, rfl, rfl, ((Fr.refl h).N).X2 (Nat.le_refl _), if_pos rfl, ?_, fun i _ => ?_⟩
    · have e : hL (hCl h 19) (hN h) = 160 := (if_pos rfl).trans l19
      rw [e]
      exact ⟨Nat.le_refl _, Nat.le_refl _⟩
    · show hI (hIr _ (hN h) (hI h 19)) (hN h) i = _
      rw [iX, if_pos rfl]
  · have nq : ¬ 19 = hN h := by omega
    have k13 : hK (hNw h 12 L) 19 = 12 := (if_neg nq).trans (show hK h 19 = 12 by simp only [shp s])
    have l13 : hL (hNw h 12 L) 19 = 160 := (if_neg nq).trans l19
    have lN : hL (hNw h 12 L) (hN h) = L := if_pos rfl
    have i13 : hI (hNw h 12 L) 19 = hI h 19 := funext fun k => if_neg nq
    rw [if_neg (show ¬ nI L = Int32.ofNat 160 from fun q => c ((nI_eq (b := 160) (by omega) (by decide)).mp q)), nI_clamp (show L < 2 ^ 31 by omega), gd_t (show ¬ (nI L < 0 ∨ 200 < L) from fun q => q.elim (nI_pos (by omega)) (by omega))]
    have jm : jMin (Int32.ofNat 160) (nI L) = nI L := if_pos (nI_lt (b := 160) (by omega) (by decide))
    have z0 : (0 : Int32).toNatClampNeg = 0 := rfl
    simp only [hp]
    rw [gd_t k13, gd_t (by decide), gd_t (by decide), l13, jm, nI_clamp (show L < 2 ^ 31 by omega), z0, lN, gd_t (nI_pos (by omega)), gd_t (by omega), gd_t (by omega)]
    refine ⟨_, rfl, rfl, ((Fr.refl h).N).X2 (Nat.le_refl _), if_pos rfl, ?_, fun i hi' => ?_⟩
    · rw [lX, lN]
      exact ⟨Nat.le_refl _, hL160⟩
    · rw [iX, if_pos rfl, i13]
      show (if 0 ≤ i ∧ i < 0 + L then hI h 19 (0 + (i - 0)) else _) = _
      rw [if_pos ⟨Nat.zero_le _, by omega⟩, Nat.zero_add, Nat.sub_zero]
theorem written_e {L : Nat} (s : Shp h) (n : 51 ≤ hN h) (e7 : hI h 17 7 = nI L) (hL160 : L ≤ 160) : ∃ h', f_Re_written 17 h = some (hN h, h') ∧ Fr (fun _ _ => true) h h' ∧ hN h' = hN h + 3 ∧ hK h' (hN h) = 7 ∧ hR h' (hN h) 0 = hN h + 1 ∧ hR h' (hN h) 1 = hN h + 2 ∧ hK h' (hN h + 1) = 12 ∧ hK h' (hN h + 2) = 12 ∧ hL h' (hN h + 2) = 3 ∧ (L ≤ hL h' (hN h + 1) ∧ hL h' (hN h + 1) ≤ 160) ∧ (∀ i, i < L → hI h' (hN h + 1) i = hI h 19 i) ∧ ∀ i, hI h' (hN h + 2) i = hI h 20 i := by
  have X1 : Fr (fun _ _ => true) h (hNw h 7 0) := (Fr.refl h).N
  have s1 := Shp_fr s n X1
  have n1 : 51 ≤ hN (hNw h 7 0) := Nat.le_trans n X1.1
  have k7 : hK (hNw h 7 0) (hN h) = 7 := if_pos rfl
  have e71 : hI (hNw h 7 0) 17 7 = nI L := (X1.v n 7 (by decide) rfl).trans e7
  have r19 : ∀ i, hI (hNw h 7 0) 19 i = hI h 19 i := fun i => X1.v n i (by decide) rfl
  have r20 : ∀ i, hI (hNw h 7 0) 20 i = hI h 20 i := fun i => X1.v n i (by decide) rfl
  have hN1 : hN (hNw h 7 0) = hN h + 1 := rfl
  unfold f_Re_written
  simp only [hp]
  generalize hNw h 7 0 = h8 at *
  obtain ⟨h9, a1, a2, a3, a4, a5, a6⟩ := copy_e s1 n1 hL160
  have s9 := Shp_fr s1 n1 a3
  have n9 := Nat.le_trans n1 a3.1
  have X9 := X1.trans a3
  rw [gd_t (by simp only [shp s1]), e71, show hR h8 17 6 = 19 by simp only [shp s1], a1, bind_s, gd_t (by simp only [shp s9]), gd_t (by simp only [shp s9]), show hR h9 17 8 = 20 by simp only [shp s9], gd_t (by simp only [shp s9]; decide)]
  rw [hN1] at a1 a2 a4 a5 a6
  have X10 : Fr (fun _ _ => true) h9 (hCl h9 20) := ((Fr.refl h9).N).X2 (Nat.le_refl _)
  have XN := X9.trans X10
  have kN : hK (hCl h9 20) (hN h) = 7 := by
    rw [(X10.2 (hN h) (by omega)).1, (a3.2 (hN h) (by omega)).1]
    exact k7
  have hNc : hN (hCl h9 20) = hN h9 + 1 := rfl
  have kc : hK (hCl h9 20) (hN h + 2) = 12 := if_pos (by show hN h + 2 = hN h9; omega)
  have lc : hL (hCl h9 20) (hN h + 2) = 3 := (if_pos (by show hN h + 2 = hN h9; omega)).trans (by simp only [shp s9])
  have ic : ∀ i, hI (hCl h9 20) (hN h + 2) i = hI h 20 i := fun i => by
    show hI (hIr _ (hN h9) (hI h9 20)) (hN h + 2) i = _
    rw [iX, if_pos (by omega), a3.v n1 i (by decide) rfl]
    exact r20 i
  have k1c : hK (hCl h9 20) (hN h + 1) = 12 := by
    rw [(X10.2 (hN h + 1) (by omega)).1]
    exact a4
  have l1c : hL (hCl h9 20) (hN h + 1) = hL h9 (hN h + 1) := (X10.2 (hN h + 1) (by omega)).2.1
  have i1c : ∀ i, i < L → hI (hCl h9 20) (hN h + 1) i = hI h 19 i := fun i hi' => by
    rw [((X10.2 (hN h + 1) (by omega)).2.2 i rfl).1, a6 i hi']
    exact r19 i
  generalize hCl h9 20 = h10 at *
  rw [gd_t kN]
  unfold f_Te_init
  rw [gd_t kN, bind_s]
  refine ⟨_, rfl, ((XN.R2 (Nat.le_refl _)).R2 (Nat.le_refl _)), by show hN h10 = _; omega, kN, ?_, ?_, k1c, kc, lc, by rw [lR, lR, l1c]; exact a5, i1c, ic⟩
  · rw [rR, if_neg (by omega), rR, if_pos ⟨rfl, rfl⟩, hN1]
  · rw [rR, if_pos ⟨rfl, rfl⟩]
    omega
theorem text_L {m z : Nat} (s : Shp h) (n : 51 ≤ hN h) (m6 : m < 6) (z160 : z ≤ 160) (e3 : hI h 36 3 = nI m) (e6 : hI h 36 6 = nI z) (K : Int32 → xH → Option (Int32 × xH)) : ∃ h', f_Mo_text_L14 36 fu (0 : Int32) h K = K (nI z) h' ∧ Shp h' ∧ Fr (fun p k => !(decide (p = 37) && decide (160 * m ≤ k))) h h' ∧ ∀ i, i < z → hI h' 37 (160 * m + i) = hI h 39 i := by
  refine lpf (fun k i (v : xH) => f_Mo_text_L14 36 k i v K) (fun o => ∃ h', o = K (nI z) h' ∧ Shp h' ∧ Fr (fun p k => !(decide (p = 37) && decide (160 * m ≤ k))) h h' ∧ ∀ i, i < z → hI h' 37 (160 * m + i) = hI h 39 i) (fun i v => Shp v ∧ Fr (fun p k => !(decide (p = 37) && decide (160 * m ≤ k))) h v ∧ ∀ q, q < i → hI v 37 (160 * m + q) = hI h 39 q) z (i := 0) (Nat.zero_le _) (by omega) ⟨s, Fr.refl h, fun q hq => absurd hq (Nat.not_lt_zero _)⟩ ?_ ?_
  · rintro k i v hi' ⟨sv, x, y⟩
    right
    have v3 := (x.v n 3 (p := 36) (by decide) rfl).trans e3
    have v6 := (x.v n 6 (p := 36) (by decide) rfl).trans e6
    have em : (160 : Int32) * nI m + nI i = nI (160 * m + i) := by rw [show (160 : Int32) * nI m = nI (160 * m) from li_mul _ _, nI_add]
    refine ⟨hIu v 37 (160 * m + i) (hI v 39 i), ?_, sv, x.I (by simp), fun q hq => ?_⟩
    · rw [f_Mo_text_L14, gd_t (by simp only [shp sv]), v6, if_neg (nI_ge hi' (by omega)), gd_t (by simp only [shp sv]), nI_clamp (show i < 2 ^ 31 by omega), gd_t (by simp only [shp sv]; exact nin (show i < 160 by omega) (by omega)), gd_t (by simp only [shp sv]), v3, em, nI_clamp (show 160 * m + i < 2 ^ 31 by omega), gd_t (by simp only [shp sv]; exact nin (show 160 * m + i < 960 by omega) (by omega)), show hR v 36 5 = 39 by simp only [shp sv], show hR v 36 1 = 37 by simp only [shp sv], nI_1]
    · by_cases e : q = i
      · rw [e, iI, if_pos ⟨rfl, rfl⟩]
        exact x.v n i (by decide) rfl
      · rw [iI, if_neg (by omega)]
        exact y q (by omega)
  · rintro k v ⟨sv, x, y⟩
    have v6 := (x.v n 6 (p := 36) (by decide) rfl).trans e6
    exact ⟨v, by rw [f_Mo_text_L14, gd_t (by simp only [shp sv]), v6, if_pos (nI_le (Nat.le_refl _) (by omega))], sv, x, y⟩
end P77

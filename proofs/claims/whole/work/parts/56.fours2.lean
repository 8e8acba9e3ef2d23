section P56
variable {h : xH} {g f : Nat}
theorem sm_le {F : Nat → Nat} {c : Nat} (hF : ∀ k, F k ≤ c) (n : Nat) : fb_sm F n ≤ n * c := fb_sm_bound (fun k _ => hF k)
theorem c2c_le {g f p : Nat} (g7 : g ≤ 7) : c2 (cob g f (lo p) (hi p)) ≤ 21 := by
  have := c2_mono 7 (by decide) (cob g f (lo p) (hi p)) (Nat.le_trans (cob_le _ _ _ _) g7)
  exact this
theorem Ma_fours_e (s : Shp h) (g1 : 1 ≤ g) (g7 : g ≤ 7) (e1 : hI h 7 1 = nI g) (hf : f < 2 ^ 31) (e2 : hI h 7 2 = nI f) : f_Ma_fours 1 h = some (nI (fb_sm (fun p => c2 (cob g f (lo p) (hi p))) (c2 g) / 2), h) := by
  have inner : ∀ k K, k < g → f_Ma_fours_L17 1 (nI k) fu (nI (fb_sm (fun p => c2 (cob g f (lo p) (hi p))) (c2 k))) (0 : Int32) h K = K (nI (fb_sm (fun p => c2 (cob g f (lo p) (hi p))) (c2 (k + 1)))) (nI k) h := by
    intro k K hk7
    refine lpf (fun n i (v : Int32) => f_Ma_fours_L17 1 (nI k) n v i h K) (fun o => o = K (nI (fb_sm (fun p => c2 (cob g f (lo p) (hi p))) (c2 (k + 1)))) (nI k) h) (fun i v => v = nI (fb_sm (fun p => c2 (cob g f (lo p) (hi p))) (c2 k + i))) k (i := 0) (Nat.zero_le _) (by omega) rfl ?_ ?_
    · intro n i v hx e
      subst e
      obtain ⟨p1, p2, p3, p4, p5⟩ := prs_c2 k (by omega) i hx
      refine Or.inr ⟨nI (fb_sm (fun p => c2 (cob g f (lo p) (hi p))) (c2 k + (i + 1))), ?_, rfl⟩
      have es : fb_sm (fun p => c2 (cob g f (lo p) (hi p))) (c2 k + (i + 1)) = fb_sm (fun p => c2 (cob g f (lo p) (hi p))) (c2 k + i) + c2 (cob g f i k) := by
        show fb_sm _ (c2 k + i) + c2 (cob g f (lo (c2 k + i)) (hi (c2 k + i))) = _
        rw [p2, p3]
      have cl := cob_le g f i k
      rw [es, ← nI_add, ← c2_n _ (show cob g f i k ≤ 7 by omega), ← nI_1]
      rw [f_Ma_fours_L17, if_neg (nI_ge hx (by omega)), knownByBoth_e s g7 e1 hf e2 (by omega) (by omega), bind_s, gd_t (by simp only [shp s])]
    · intro n v e
      subst e
      simp only [f_Ma_fours_L17]
      rw [if_pos (nI_le (Nat.le_refl _) (by omega)), c2_succ k (by omega)]
  have bnd' : fb_sm (fun p => c2 (cob g f (lo p) (hi p))) (c2 g) < 2 ^ 31 := by
    have := sm_le (F := fun p => c2 (cob g f (lo p) (hi p))) (c := 21) (fun p => c2c_le g7) (c2 g)
    have := c2_le g g7
    omega
  unfold f_Ma_fours
  refine lpf (fun n i (v : Int32) => f_Ma_fours_L4 1 n v i h (fun v13 v14 h15 => some (v13 / (2 : Int32), h15))) (fun o => o = some (nI (fb_sm (fun p => c2 (cob g f (lo p) (hi p))) (c2 g) / 2), h)) (fun i v => v = nI (fb_sm (fun p => c2 (cob g f (lo p) (hi p))) (c2 i))) g (i := 1) g1 (by omega) (by rw [c2_0]; rfl) ?_ ?_
  · intro n i v hx e
    subst e
    refine Or.inr ⟨_, ?_, rfl⟩
    simp only [f_Ma_fours_L4, gd, shp s, if_true, e1]
    rw [if_neg (nI_ge hx (by omega)), inner i _ hx, nI_1]
  · intro n v e
    subst e
    simp only [f_Ma_fours_L4, gd, shp s, if_true, e1]
    rw [if_pos (nI_le (Nat.le_refl _) (by omega)), show (2 : Int32) = nI 2 from rfl, pk_div bnd' (by decide) (by decide)]
theorem Mo_fours_L3 (s : Shp h) (g7 : g ≤ 7) (m1 : hI h 36 7 = nI g) (hf : f < 2 ^ 31) (m2 : hI h 36 8 = nI f) {a b c X : Nat} (hc : c < g) (hb : b < c) (ha : a < b) (K : Int32 → Int32 → xH → Option (Int32 × xH)) : f_Mo_fours_L44 36 (nI a) (nI b) (nI c) fu (nI X) (nI (c + 1)) h K = K (nI (X + fb_sm (Fq3 f a b c) g)) (nI g) h := by
  refine lpf (fun n d (v : Int32) => f_Mo_fours_L44 36 (nI a) (nI b) (nI c) n v d h K) (fun o => o = K (nI (X + fb_sm (Fq3 f a b c) g)) (nI g) h) (fun d v => c < d ∧ v = nI (X + fb_sm (Fq3 f a b c) d)) g (i := c + 1) (by omega) (by omega) ⟨by omega, by rw [sm_0 (c + 1) (fun k hk => F3_n (by omega)), Nat.add_zero]⟩ ?_ ?_
  · rintro n d v hx ⟨hcd, rfl⟩
    refine Or.inr ⟨nI (X + fb_sm (Fq3 f a b c) (d + 1)), ?_, by omega, rfl⟩
    have R1 := ring_e s hf m2 (show a < 7 by omega) (show b < 7 by omega) (show c < 7 by omega) (show d < 7 by omega) (by omega) (by omega) (by omega) (by omega)
    have R2 := ring_e s hf m2 (show a < 7 by omega) (show b < 7 by omega) (show d < 7 by omega) (show c < 7 by omega) (by omega) (by omega) (by omega) (by omega)
    have R3 := ring_e s hf m2 (show a < 7 by omega) (show c < 7 by omega) (show b < 7 by omega) (show d < 7 by omega) (by omega) (by omega) (by omega) (by omega)
    have xc : ∀ i k, i ≠ k → xb f i k = xb f k i := fun i k n => by
      unfold xb
      rw [prs_c i k n]
    rw [xc d a (by omega)] at R1 R3
    rw [xc c a (by omega), xc d c (by omega)] at R2
    rw [xc c b (by omega)] at R3
    have FY := F3_y (f := f) (show d < 7 by omega) hcd hb ha
    have es : X + fb_sm (Fq3 f a b c) (d + 1) = X + fb_sm (Fq3 f a b c) d + Fq3 f a b c d := by
      rw [fb_sm_succ]
      omega
    rw [es, FY]
    generalize b2n (xb f a b && (xb f b c && (xb f c d && xb f a d))) = y1 at *
    generalize b2n (xb f a b && (xb f b d && (xb f c d && xb f a c))) = y2 at *
    generalize b2n (xb f a c && (xb f b c && (xb f b d && xb f a d))) = y3 at *
    generalize X + fb_sm (Fq3 f a b c) d = X' at *
    have e3 : nI (X' + (y1 + y2 + y3)) = nI X' + ((nI y1 + nI y2) + nI y3) := by rw [nI_add, nI_add, nI_add]
    rw [e3, ← nI_1 d]
    show f_Mo_fours_L44 36 (nI a) (nI b) (nI c) (n + 1) (nI X') (nI d) h K = _
    rw [f_Mo_fours_L44, gd_t (by simp only [shp s]), m1, if_neg (nI_ge hx (by omega)), R1, bind_s, gd_t (by simp only [shp s]), R2, bind_s, gd_t (by simp only [shp s]), R3, bind_s]
  · rintro n v ⟨hcd, rfl⟩
    simp only [f_Mo_fours_L44, gd, shp s, if_true, m1]
    rw [if_pos (nI_le (Nat.le_refl _) (by omega))]
theorem Mo_fours_L2 (s : Shp h) (g7 : g ≤ 7) (m1 : hI h 36 7 = nI g) (hf : f < 2 ^ 31) (m2 : hI h 36 8 = nI f) {a b X : Nat} (hb : b < g) (ha : a < b) (K : Int32 → Int32 → xH → Option (Int32 × xH)) : f_Mo_fours_L29 36 (nI a) (nI b) fu (nI X) (nI (b + 1)) h K = K (nI (X + fb_sm (Fq2 f g a b) g)) (nI g) h := by
  refine lpf (fun n c (v : Int32) => f_Mo_fours_L29 36 (nI a) (nI b) n v c h K) (fun o => o = K (nI (X + fb_sm (Fq2 f g a b) g)) (nI g) h) (fun c v => b < c ∧ v = nI (X + fb_sm (Fq2 f g a b) c)) g (i := b + 1) (by omega) (by omega) ⟨by omega, by rw [sm_0 (b + 1) (fun k hk => F2_n (by omega)), Nat.add_zero]⟩ ?_ ?_
  · rintro n c v hx ⟨hcd, rfl⟩
    refine Or.inr ⟨nI (X + fb_sm (Fq2 f g a b) (c + 1)), ?_, by omega, rfl⟩
    have L := Mo_fours_L3 s g7 m1 hf m2 (X := X + fb_sm (Fq2 f g a b) c) hx hcd ha (fun v20 v21 h22 => f_Mo_fours_L29 36 (nI a) (nI b) n v20 (nI (c + 1)) h22 K)
    have es : X + fb_sm (Fq2 f g a b) (c + 1) = X + fb_sm (Fq2 f g a b) c + fb_sm (Fq3 f a b c) g := by
      rw [fb_sm_succ, F2_y hcd]
      omega
    rw [es, ← L]
    show f_Mo_fours_L29 36 (nI a) (nI b) (n + 1) _ (nI c) h K = _
    rw [f_Mo_fours_L29, gd_t (by simp only [shp s]), m1, if_neg (nI_ge hx (by omega)), nI_1]
  · rintro n v ⟨hcd, rfl⟩
    simp only [f_Mo_fours_L29, gd, shp s, if_true, m1]
    rw [if_pos (nI_le (Nat.le_refl _) (by omega))]
theorem Mo_fours_L1 (s : Shp h) (g7 : g ≤ 7) (m1 : hI h 36 7 = nI g) (hf : f < 2 ^ 31) (m2 : hI h 36 8 = nI f) {a X : Nat} (ha : a < g) (K : Int32 → Int32 → xH → Option (Int32 × xH)) : f_Mo_fours_L16 36 (nI a) fu (nI X) (nI (a + 1)) h K = K (nI (X + fb_sm (Fq1 f g a) g)) (nI g) h := by
  refine lpf (fun n c (v : Int32) => f_Mo_fours_L16 36 (nI a) n v c h K) (fun o => o = K (nI (X + fb_sm (Fq1 f g a) g)) (nI g) h) (fun c v => a < c ∧ v = nI (X + fb_sm (Fq1 f g a) c)) g (i := a + 1) (by omega) (by omega) ⟨by omega, by rw [sm_0 (a + 1) (fun k hk => F1_n (by omega)), Nat.add_zero]⟩ ?_ ?_
  · rintro n c v hx ⟨hcd, rfl⟩
    refine Or.inr ⟨nI (X + fb_sm (Fq1 f g a) (c + 1)), ?_, by omega, rfl⟩
    have L := Mo_fours_L2 s g7 m1 hf m2 (X := X + fb_sm (Fq1 f g a) c) hx hcd (fun v23 v24 h25 => f_Mo_fours_L16 36 (nI a) n v23 (nI (c + 1)) h25 K)
    have es : X + fb_sm (Fq1 f g a) (c + 1) = X + fb_sm (Fq1 f g a) c + fb_sm (Fq2 f g a c) g := by
      rw [fb_sm_succ, F1_y hcd]
      omega
    rw [es, ← L]
    show f_Mo_fours_L16 36 (nI a) (n + 1) _ (nI c) h K = _
    rw [f_Mo_fours_L16, gd_t (by simp only [shp s]), m1, if_neg (nI_ge hx (by omega)), nI_1]
  · rintro n v ⟨hcd, rfl⟩
    simp only [f_Mo_fours_L16, gd, shp s, if_true, m1]
    rw [if_pos (nI_le (Nat.le_refl _) (by omega))]
theorem Mo_fours_e (s : Shp h) (g7 : g ≤ 7) (m1 : hI h 36 7 = nI g) (hf : f < 2 ^ 31) (m2 : hI h 36 8 = nI f) : f_Mo_fours 36 h = some (nI (fb_sm (Fq0 f g) g), h) := by
  unfold f_Mo_fours
  refine lpf (fun n c (v : Int32) => f_Mo_fours_L4 36 n v c h (fun v29 v30 h31 => some (v29, h31))) (fun o => o = some (nI (fb_sm (Fq0 f g) g), h)) (fun c v => v = nI (fb_sm (Fq0 f g) c)) g (i := 0) (Nat.zero_le _) (by omega) rfl ?_ ?_
  · rintro n c v hx rfl
    refine Or.inr ⟨nI (fb_sm (Fq0 f g) (c + 1)), ?_, rfl⟩
    have L := Mo_fours_L1 s g7 m1 hf m2 (X := fb_sm (Fq0 f g) c) hx (fun v26 v27 h28 => f_Mo_fours_L4 36 n v26 (nI (c + 1)) h28 (fun v29 v30 h31 => some (v29, h31)))
    rw [fb_sm_succ, F0_y, ← L]
    show f_Mo_fours_L4 36 (n + 1) _ (nI c) h _ = _
    rw [f_Mo_fours_L4, gd_t (by simp only [shp s]), m1, if_neg (nI_ge hx (by omega)), nI_1]
  · rintro n v rfl
    simp only [f_Mo_fours_L4, gd, shp s, if_true, m1]
    rw [if_pos (nI_le (Nat.le_refl _) (by omega))]
end P56
theorem Y_fours : Sp_fours Inv := by
  intro h I
  obtain ⟨g, f, t, n, r, T, j⟩ := I
  have j0 := j
  obtain ⟨sh, hn, z, ⟨⟨g1, g7, hf, ht, hd⟩, e1, e2, e3, m1, m2, m3⟩, jk, jw, jp, js, jst, jx, jr⟩ := j0
  have f24 := lt24 g7 hf
  have t24 := lt24 g7 ht
  have f31 := lt3 f24
  have t31 := lt3 t24
  have s36 : hK h 36 = 11 := by simp only [shp sh]
  refine ⟨nI (fb_sm (Fq0 f g) g), h, h, ?_, s36, Mo_fours_e sh g7 m1 f31 m2, ⟨g, f, t, n, r, T, j⟩⟩
  rw [Ma_fours_e sh g1 g7 e1 f31 e2]
  have E : fb_sm (fun p => c2 (cob g f (lo p) (hi p))) (c2 g) = 2 * fb_sm (Fq0 f g) g := by
    rw [← TL_y, ← TL_sum g7, ← twice_sum (Rq_c f) (Rq_0 f)]
    exact fb_sm_cong (fun p _ => cob_pairs g7 p)
  rw [E, Nat.mul_div_cancel_left _ (by decide)]

/-! numbers copied from sheet to sheet, pairs told by a sheet -/
theorem Ma_hasRun_e {h : xH} {q m : Nat} (hk : hK h q = 4) (e : hI h q 1 = nI m) (hm : m ≤ 40) (i n : Int32) : f_Sh_hasRun q i n h = some (b2i (decide (¬ i < 0 ∧ ¬ n < 0 ∧ i.toInt + n.toInt ≤ m)), h) := by
  simp only [f_Sh_hasRun, jn, gd, hk, if_true, e]
  by_cases c1 : i < 0
  · rw [if_pos c1, decide_eq_false (fun q => q.1 c1), nb0]
    rfl
  · rw [if_neg c1]
    by_cases c2 : n < 0
    · rw [if_pos c2, decide_eq_false (fun q => q.2.1 c2), nb0]
      rfl
    · rw [if_neg c2]
      obtain ⟨a, ha, rfl⟩ := nI_of c1
      obtain ⟨b, hb, rfl⟩ := nI_of c2
      have E : (nI m - nI b < nI a) ↔ (m : Int) < a + b := by
        rw [fa_lt, nI_toInt ha, fb_subI (by rw [nI_toInt (by omega), nI_toInt hb]; omega) (by rw [nI_toInt (by omega), nI_toInt hb]; omega), nI_toInt (by omega), nI_toInt hb]
        omega
      rw [nI_toInt ha, nI_toInt hb]
      by_cases c3 : (m : Int) < a + b
      · rw [if_pos (E.mpr c3), decide_eq_false (by omega), nb0]
        rfl
      · rw [if_neg (fun q => c3 (E.mp q)), decide_eq_true ⟨c1, c2, by omega⟩, nb1]
        rfl
/-- where the reference's rows stand behind k of n numbers, from A to B -/
def PCp (h0 : xH) (o A B lo' k : Nat) (v : xH) : Prop := Shp v ∧ Fr (dSM o) h0 v ∧ (∀ p, 47 ≤ p → p ≤ 49 → hI v p o = hI h0 p o) ∧ ∀ p, hI v 50 p = if B + lo' ≤ p ∧ p < B + lo' + k then hI h0 50 (A + (p - B)) else hI h0 50 p
theorem Mo_copy_L {h0 : xH} (s : Shp h0) (hn : 51 ≤ hN h0) {a b i j m : Nat} (ha : a < 4) (hb : b < 4) (hi : i + m ≤ 40) (hj : j + m ≤ 40) : ∃ h2, f_Mo_copy_L121 36 (nI a) (nI i) (nI b) (nI j) (nI m) (if a = b ∧ i < j then 1 else 0) fu (0 : Int32) h0 (fun v56 h57 => some (nI m, h57)) = some (nI m, h2) ∧ PCp h0 b (40 * a + i) (40 * b + j) 0 m h2 := by
  by_cases c : a = b ∧ i < j
  · rw [if_pos c]
    obtain ⟨rfl, hij⟩ := c
    refine lpf (fun n k (v : xH) => f_Mo_copy_L121 36 (nI a) (nI i) (nI a) (nI j) (nI m) 1 n k v (fun v56 h57 => some (nI m, h57))) (fun o => ∃ h2, o = some (nI m, h2) ∧ PCp h0 a (40 * a + i) (40 * a + j) 0 m h2) (fun k v => PCp h0 a (40 * a + i) (40 * a + j) (m - k) k v) m (i := 0) (Nat.zero_le _) (by omega) ⟨s, Fr.refl _, fun _ _ _ => rfl, fun p => by rw [if_neg (by omega)]⟩ ?_ ?_
    · intro n k v hk ⟨s1, x1, y1, z1⟩
      have e1 : nI m - (1 : Int32) - nI k = nI (m - 1 - k) := by rw [k1, li_sub (by omega), li_sub (by omega)]
      have p1 : ¬ (nI (40 * a + i + (m - 1 - k)) < 0 ∨ 160 ≤ 40 * a + i + (m - 1 - k)) := nin (by omega) (by omega)
      have p2 : ¬ (nI (40 * a + j + (m - 1 - k)) < 0 ∨ 160 ≤ 40 * a + j + (m - 1 - k)) := nin (by omega) (by omega)
      have r1 := z1 (40 * a + i + (m - 1 - k))
      rw [if_neg (by omega)] at r1
      refine Or.inr ⟨hIu v 50 (40 * a + j + (m - 1 - k)) (hI h0 50 (40 * a + i + (m - 1 - k))), ?_, s1, x1.I (by simp [dSM]; omega), ?_, ?_⟩
      · simp only [f_Mo_copy_L121, gd, hp, shp s1, if_true]
        rw [if_neg (nI_ge hk (by omega))]
        simp only [i10, if_false, e1, a40, nI_add, nI_clamp (show 40 * a + i + (m - 1 - k) < 2 ^ 31 by omega), nI_clamp (show 40 * a + j + (m - 1 - k) < 2 ^ 31 by omega), if_pos p1, if_pos p2, r1, nI_1]
      · intro p p1 p2
        rw [iI, if_neg (by omega)]
        exact y1 p p1 p2
      · intro p
        rw [iI]
        by_cases e : p = 40 * a + j + (m - 1 - k)
        · rw [if_pos ⟨rfl, e⟩, if_pos (by omega), e]
          congr 1
          omega
        · rw [if_neg (fun q => e q.2), z1 p]
          by_cases e2 : 40 * a + j + (m - k) ≤ p ∧ p < 40 * a + j + (m - k) + k
          · rw [if_pos e2, if_pos (by omega)]
          · rw [if_neg e2, if_neg (by omega)]
    · intro n v P
      refine ⟨v, ?_, ?_⟩
      · simp only [f_Mo_copy_L121]
        rw [if_pos (nI_le (Nat.le_refl _) (by omega))]
      · rw [Nat.sub_self] at P
        exact P
  · rw [if_neg c]
    refine lpf (fun n k (v : xH) => f_Mo_copy_L121 36 (nI a) (nI i) (nI b) (nI j) (nI m) 0 n k v (fun v56 h57 => some (nI m, h57))) (fun o => ∃ h2, o = some (nI m, h2) ∧ PCp h0 b (40 * a + i) (40 * b + j) 0 m h2) (fun k v => PCp h0 b (40 * a + i) (40 * b + j) 0 k v) m (i := 0) (Nat.zero_le _) (by omega) ⟨s, Fr.refl _, fun _ _ _ => rfl, fun p => by rw [if_neg (by omega)]⟩ ?_ ?_
    · intro n k v hk ⟨s1, x1, y1, z1⟩
      have p1 : ¬ (nI (40 * a + i + k) < 0 ∨ 160 ≤ 40 * a + i + k) := nin (by omega) (by omega)
      have p2 : ¬ (nI (40 * b + j + k) < 0 ∨ 160 ≤ 40 * b + j + k) := nin (by omega) (by omega)
      have r1 := z1 (40 * a + i + k)
      rw [if_neg (by omega)] at r1
      refine Or.inr ⟨hIu v 50 (40 * b + j + k) (hI h0 50 (40 * a + i + k)), ?_, s1, x1.I (by simp [dSM]; omega), ?_, ?_⟩
      · simp only [f_Mo_copy_L121, gd, hp, shp s1, if_true]
        rw [if_neg (nI_ge hk (by omega))]
        simp only [a40, nI_add, nI_clamp (show 40 * a + i + k < 2 ^ 31 by omega), nI_clamp (show 40 * b + j + k < 2 ^ 31 by omega), if_pos p1, if_pos p2, r1, nI_1]
      · intro p p1 p2
        rw [iI, if_neg (by omega)]
        exact y1 p p1 p2
      · intro p
        rw [iI]
        by_cases e : p = 40 * b + j + k
        · rw [if_pos ⟨rfl, e⟩, if_pos (by omega), e]
          congr 1
          omega
        · rw [if_neg (fun q => e q.2), z1 p]
          by_cases e2 : 40 * b + j + 0 ≤ p ∧ p < 40 * b + j + 0 + k
          · rw [if_pos e2, if_pos (by omega)]
          · rw [if_neg e2, if_neg (by omega)]
    · intro n v P
      refine ⟨v, ?_, P⟩
      simp only [f_Mo_copy_L121]
      rw [if_pos (nI_le (Nat.le_refl _) (by omega))]
theorem cpy_sub {m : Nat} {w i : Int32} (hm : m ≤ 40) (hw : ¬ w < 0) (hi : ¬ i < 0) : (nI m - w < i) ↔ ¬ i.toInt + w.toInt ≤ m := by
  obtain ⟨a, ha, rfl⟩ := nI_of hi
  obtain ⟨b, hb, rfl⟩ := nI_of hw
  rw [fa_lt, nI_toInt ha, fb_subI (by rw [nI_toInt (by omega), nI_toInt hb]; omega) (by rw [nI_toInt (by omega), nI_toInt hb]; omega), nI_toInt (by omega), nI_toInt hb]
  omega
theorem Y_copy : Sp_copy Inv := by
  intro x i y k w h I
  obtain ⟨g, f, t, n, r, T, j⟩ := I
  have j0 := j
  obtain ⟨sh, hn, z, ⟨⟨g1, g7, hf, ht, hd⟩, e1, e2, e3, m1, m2, m3⟩, jk, jw, jp, js, jst, jx, jr⟩ := j0
  have f24 := lt24 g7 hf
  have t24 := lt24 g7 ht
  have f31 := lt3 f24
  have t31 := lt3 t24
  have s36 : hK h 36 = 11 := by simp only [shp sh]
  by_cases cxy : inr x 3 = true ∧ inr y 3 = true
  · obtain ⟨cx, cy⟩ := cxy
    obtain ⟨a, ha, rfl⟩ := inr_ex (by decide) cx
    obtain ⟨b, hb, rfl⟩ := inr_ex (by decide) cy
    have a4 : a < 4 := by omega
    have b4 : b < 4 := by omega
    have q0 : ¬ 24 + 2 * a = 0 := by omega
    have q0' : ¬ 24 + 2 * b = 0 := by omega
    obtain ⟨u1, u2, u3, u4, -⟩ := shx sh a4
    obtain ⟨v1, v2, v3, v4, -⟩ := shx sh b4
    have M0 : ∀ h, f_Mo_isSheet (nI a) h = some (1, h) := fun h => by rw [Mo_isSheet_e, cx]; rfl
    have M1 : ∀ h, f_Mo_isSheet (nI b) h = some (1, h) := fun h => by rw [Mo_isSheet_e, cy]; rfl
    have hin : ¬ (nI a < 0 ∨ 4 ≤ a) := nin a4 (by omega)
    have hin' : ¬ (nI b < 0 ∨ 4 ≤ b) := nin b4 (by omega)
    rcases js a a4 with ⟨c1, c2⟩ | ⟨so, m, d1, d2, d3, d4, d5, d6, d7, d8⟩
    · refine ⟨-11, h, h, ?_, s36, ?_, ⟨g, f, t, n, r, T, j⟩⟩
      · simp only [f_Ma_copy, jn, gd, shp sh, if_true, Ma_sheetAt_y sh a4, Ma_sheetAt_y sh b4, bind_s, if_neg q0, if_neg q0', u1, Ma_miss u1, c1, i10, if_false]
      · simp only [f_Mo_copy, jn, gd, shp sh, if_true, M0, M1, bind_s, i10, if_false, nI_clamp (show a < 2 ^ 31 by omega), if_pos hin, c2]
    · have e1' : ¬ nI so = (-1 : Int32) := fun q => nI_pos (n := so) (by omega) (by rw [q]; decide)
      rcases js b b4 with ⟨c1, c2⟩ | ⟨so', m', d1', d2', d3', d4', d5', d6', d7', d8'⟩
      · refine ⟨-11, h, h, ?_, s36, ?_, ⟨g, f, t, n, r, T, j⟩⟩
        · simp only [f_Ma_copy, jn, gd, shp sh, if_true, Ma_sheetAt_y sh a4, Ma_sheetAt_y sh b4, bind_s, if_neg q0, if_neg q0', u1, v1, Ma_miss u1, Ma_miss v1, c1, d3, if_neg e1', i10, if_false]
        · simp only [f_Mo_copy, jn, gd, shp sh, if_true, M0, M1, bind_s, i10, if_false, nI_clamp (show a < 2 ^ 31 by omega), nI_clamp (show b < 2 ^ 31 by omega), if_pos hin, if_pos hin', c2, d5]
      · have e2' : ¬ nI so' = (-1 : Int32) := fun q => nI_pos (n := so') (by omega) (by rw [q]; decide)
        by_cases es : so = so'
        · subst es
          by_cases C : ¬ w < 0 ∧ ¬ i < 0 ∧ ¬ k < 0 ∧ i.toInt + w.toInt ≤ m ∧ k.toInt + w.toInt ≤ m'
          · obtain ⟨w0, i0, k0', im, km⟩ := C
            obtain ⟨W, hW, rfl⟩ := nI_of w0
            obtain ⟨A, hA, rfl⟩ := nI_of i0
            obtain ⟨B, hB, rfl⟩ := nI_of k0'
            rw [nI_toInt hW, nI_toInt hA] at im
            rw [nI_toInt hW, nI_toInt hB] at km
            have R1 := Ma_hasRun_e u1 d4 d2 (nI A) (nI W)
            rw [decide_eq_true ⟨i0, w0, by rw [nI_toInt hW, nI_toInt hA]; exact im⟩] at R1
            have R2 := Ma_hasRun_e v1 d4' d2' (nI B) (nI W)
            rw [decide_eq_true ⟨k0', w0, by rw [nI_toInt hW, nI_toInt hB]; exact km⟩] at R2
            have A1 : f_Ma_copy 1 (nI a) (nI A) (nI b) (nI B) (nI W) h = some (nI W, hIr h (25 + 2 * b) (va_cpy (hI h (25 + 2 * a)) (hI h (25 + 2 * b)) A B W)) := by
              have z1 : A + W ≤ 40 := by omega
              have z2 : B + W ≤ 40 := by omega
              simp only [f_Ma_copy, jn, gd, hp, shp sh, if_true, Ma_sheetAt_y sh a4, Ma_sheetAt_y sh b4, bind_s, if_neg q0, if_neg q0', u1, u2, u3, u4, v1, v2, v3, v4, Ma_miss u1, Ma_miss v1, d3, d3', if_neg e1', R1, R2, b2i_t, i10, if_false, nI_clamp hA, nI_clamp hB, nI_clamp hW, if_pos i0, if_pos k0', if_pos w0, if_pos z1, if_pos z2]
            have F1 : Fr (dSC b) h (hIr h (25 + 2 * b) (va_cpy (hI h (25 + 2 * a)) (hI h (25 + 2 * b)) A B W)) := (Fr.refl h).X (fun k => by simp [dSC])
            have s1 : Shp (hIr h (25 + 2 * b) (va_cpy (hI h (25 + 2 * a)) (hI h (25 + 2 * b)) A B W)) := sh
            have E1 : ∀ k, hI (hIr h (25 + 2 * b) (va_cpy (hI h (25 + 2 * a)) (hI h (25 + 2 * b)) A B W)) (25 + 2 * b) k = if B ≤ k ∧ k < B + W then hI h (25 + 2 * a) (A + (k - B)) else hI h (25 + 2 * b) k := fun k => by
              rw [iX, if_pos rfl]
              rfl
            have E0 : ∀ k, hI (hIr h (25 + 2 * b) (va_cpy (hI h (25 + 2 * a)) (hI h (25 + 2 * b)) A B W)) (24 + 2 * b) k = hI h (24 + 2 * b) k := fun k => by rw [iX, if_neg (by omega)]
            generalize hIr h (25 + 2 * b) (va_cpy (hI h (25 + 2 * a)) (hI h (25 + 2 * b)) A B W) = h1 at *
            have n51 := Nat.le_trans hn F1.1
            have G : ∀ p k, 47 ≤ p → p ≤ 50 → hI h1 p k = hI h p k := fun p k p1 p2 => F1.v hn k (by omega) (by simp [dSC]; omega)
            obtain ⟨h2, l1, s2, x2, y2, z2⟩ := Mo_copy_L s1 n51 (i := A) (j := B) (m := W) a4 b4 (by omega) (by omega)
            have s36' : hK h1 36 = 11 := by simp only [shp s1]
            refine ⟨nI W, h1, h2, A1, s36', ?_, ⟨g, f, t, n, r, T, J_shs s2 ((F1.mono (fun p k => dSC_sh b4)).trans (x2.mono (fun p k => dSM_sh))) j (Sent_upd hn b4 F1 x2 js (Or.inr ⟨so, m', d1, d2', ?_, ?_, ?_, ?_, ?_, ?_⟩))⟩⟩
            · have g1' : ¬ (nI m - nI W < nI A) := fun q => (cpy_sub d2 w0 i0).mp q (by rw [nI_toInt hW, nI_toInt hA]; exact im)
              have g2' : nI B ≤ nI m' - nI W := fa_of_nlt (fun q => (cpy_sub d2' w0 k0').mp q (by rw [nI_toInt hW, nI_toInt hB]; exact km))
              simp only [f_Mo_copy, jn, gd, shp s1, if_true, M0, M1, bind_s, i10, if_false, nI_clamp (show a < 2 ^ 31 by omega), nI_clamp (show b < 2 ^ 31 by omega), if_pos hin, if_pos hin', G 47 _ (by omega) (by omega), G 48 _ (by omega) (by omega), G 49 _ (by omega) (by omega), d5, d5', d6, d6', d7, d7', if_neg w0, if_neg i0, if_neg k0', if_neg g1', if_pos g2']
              rw [← l1]
              have e1 : (nI a = nI b) = (a = b) := li_eq (by omega) (by omega)
              have e2 : (nI B ≤ nI A) = (B ≤ A) := li_le hB hA
              simp only [e1, e2]
              by_cases f1 : a = b
              · by_cases f2 : B ≤ A
                · rw [if_pos f1, if_pos f2, if_neg (fun q => absurd q.2 (by omega))]
                · rw [if_pos f1, if_neg f2, if_pos ⟨f1, by omega⟩]
              · rw [if_neg f1, if_neg (fun q => f1 q.1)]
            · rw [x2.v n51 _ (by omega) (by simp [dSM]; omega), E0, d3']
            · rw [x2.v n51 _ (by omega) (by simp [dSM]; omega), E0, d4']
            · rw [y2 47 (by omega) (by omega), G _ _ (by omega) (by omega), d5']
            · rw [y2 48 (by omega) (by omega), G _ _ (by omega) (by omega), d6']
            · rw [y2 49 (by omega) (by omega), G _ _ (by omega) (by omega), d7']
            · intro q hq
              rw [x2.v n51 _ (by omega) (by simp [dSM]; omega), E1, z2]
              by_cases f1 : B ≤ q ∧ q < B + W
              · rw [if_pos f1, if_pos (by omega), d8 _ (by omega), G _ _ (by omega) (by omega)]
                congr 1
                omega
              · rw [if_neg f1, if_neg (by omega), d8' _ hq, G _ _ (by omega) (by omega)]
          · refine ⟨-12, h, h, ?_, s36, ?_, ⟨g, f, t, n, r, T, j⟩⟩
            · have R1 := Ma_hasRun_e u1 d4 d2 i w
              have R2 := Ma_hasRun_e v1 d4' d2' k w
              simp only [f_Ma_copy, jn, gd, shp sh, if_true, Ma_sheetAt_y sh a4, Ma_sheetAt_y sh b4, bind_s, if_neg q0, if_neg q0', u1, v1, Ma_miss u1, Ma_miss v1, d3, d3', if_neg e1', R1, R2, i10, if_false]
              by_cases f1 : ¬ i < 0 ∧ ¬ w < 0 ∧ i.toInt + w.toInt ≤ m
              · by_cases f2 : ¬ k < 0 ∧ ¬ w < 0 ∧ k.toInt + w.toInt ≤ m'
                · exact absurd ⟨f1.2.1, f1.1, f2.1, f1.2.2, f2.2.2⟩ C
                · rw [decide_eq_true f1, if_neg (by decide), decide_eq_false f2, if_pos b2i_f]
              · rw [decide_eq_false f1, if_pos b2i_f]
            · simp only [f_Mo_copy, jn, gd, shp sh, if_true, M0, M1, bind_s, i10, if_false, nI_clamp (show a < 2 ^ 31 by omega), nI_clamp (show b < 2 ^ 31 by omega), if_pos hin, if_pos hin', d5, d5', d6, d6', d7, d7']
              by_cases w0 : w < 0
              · rw [if_pos w0]
              · rw [if_neg w0]
                by_cases i0 : i < 0
                · rw [if_pos i0]
                · rw [if_neg i0]
                  by_cases k0' : k < 0
                  · rw [if_pos k0']
                  · rw [if_neg k0']
                    by_cases f1 : i.toInt + w.toInt ≤ m
                    · rw [if_neg (fun q => (cpy_sub d2 w0 i0).mp q f1)]
                      have f2 : ¬ k.toInt + w.toInt ≤ m' := fun q => C ⟨w0, i0, k0', f1, q⟩
                      rw [if_neg]
                      intro q
                      exact (fa_of_lt ((cpy_sub d2' w0 k0').mpr f2)).2.1 q
                    · rw [if_pos ((cpy_sub d2 w0 i0).mpr f1)]
        · have e3' : ¬ nI so = nI so' := by
            rw [nI_eq (by omega) (by omega)]
            exact es
          refine ⟨-13, h, h, ?_, s36, ?_, ⟨g, f, t, n, r, T, j⟩⟩
          · simp only [f_Ma_copy, jn, gd, shp sh, if_true, Ma_sheetAt_y sh a4, Ma_sheetAt_y sh b4, bind_s, if_neg q0, if_neg q0', u1, v1, Ma_miss u1, Ma_miss v1, d3, d3', if_neg e1', if_neg e2', if_neg e3']
          · simp only [f_Mo_copy, jn, gd, shp sh, if_true, M0, M1, bind_s, i10, if_false, nI_clamp (show a < 2 ^ 31 by omega), nI_clamp (show b < 2 ^ 31 by omega), if_pos hin, if_pos hin', d5, d5', d6, d6', if_neg e3']
  · refine ⟨-2, h, h, ?_, s36, ?_, ⟨g, f, t, n, r, T, j⟩⟩
    · cases cx : inr x 3 with
      | false =>
        cases cy : inr y 3 with
        | false => simp only [f_Ma_copy, jn, gd, shp sh, if_true, Ma_sheetAt_no cx, Ma_sheetAt_no cy, bind_s]
        | true =>
          obtain ⟨b, hb, rfl⟩ := inr_ex (by decide) cy
          simp only [f_Ma_copy, jn, gd, shp sh, if_true, Ma_sheetAt_no cx, Ma_sheetAt_y sh (show b < 4 by omega), bind_s]
      | true =>
        cases cy : inr y 3 with
        | false =>
          obtain ⟨a, ha, rfl⟩ := inr_ex (by decide) cx
          simp only [f_Ma_copy, jn, gd, shp sh, if_true, Ma_sheetAt_no cy, Ma_sheetAt_y sh (show a < 4 by omega), bind_s]
          rw [if_neg (show ¬ 24 + 2 * a = 0 by omega)]
        | true => exact absurd ⟨cx, cy⟩ cxy
    · simp only [f_Mo_copy, jn, Mo_isSheet_e, bind_s]
      cases cx : inr x 3 with
      | false => simp only [b2i_f, if_true]
      | true =>
        cases cy : inr y 3 with
        | false => simp only [b2i_f, b2i_t, i10, if_false, if_true]
        | true => exact absurd ⟨cx, cy⟩ cxy
/-! pairs told by a sheet -/
def plr (g : Nat) (it : Nat → Int32) (u sz : Nat) : Nat → Nat → Nat → Nat → Nat → Int32 × Nat × Nat
  | 0, _, f, t, came => (nI came, f, t)
  | m + 1, k, f, t, came => if u + 3 * k + 3 ≤ sz then plr g it u sz m (k + 1) (mtf g f (it (u + 3 * k)) (it (u + 3 * k + 1)) (it (u + 3 * k + 2))) (mtt g t (it (u + 3 * k)) (it (u + 3 * k + 1)) (it (u + 3 * k + 2))) (if mtr g f t (it (u + 3 * k)) (it (u + 3 * k + 1)) (it (u + 3 * k + 2)) < 0 then came else came + 1) else (-12, f, t)
theorem plr_Bd {g : Nat} {it : Nat → Int32} {u sz : Nat} : ∀ m k f t came, Bd g f t → Bd g (plr g it u sz m k f t came).2.1 (plr g it u sz m k f t came).2.2
  | 0, k, f, t, came, b => b
  | m + 1, k, f, t, came, b => by
    unfold plr
    split
    · exact plr_Bd m (k + 1) _ _ _ (mt_Bd b _ _ _)
    · exact b
theorem plr_congr {g : Nat} {it it2 : Nat → Int32} {u sz : Nat} (h : ∀ i, i < sz → it i = it2 i) : ∀ m k f t came, plr g it u sz m k f t came = plr g it2 u sz m k f t came
  | 0, k, f, t, came => rfl
  | m + 1, k, f, t, came => by
    unfold plr
    split
    · rw [h (u + 3 * k) (by omega), h (u + 3 * k + 1) (by omega), h (u + 3 * k + 2) (by omega)]
      exact plr_congr h m (k + 1) _ _ _
    · rfl
theorem n3 (u k : Nat) : nI u + (3 : Int32) * nI k = nI (u + 3 * k) := by rw [show (3 : Int32) = nI 3 from rfl, li_mul, nI_add]
theorem Sh_item_e {h : xH} (s : Shp h) {x m i : Nat} (hx : x < 4) (e : hI h (24 + 2 * x) 1 = nI m) (hm : m ≤ 40) (hi : i < m) : f_Sh_item (24 + 2 * x) (nI i) h = some (hI h (25 + 2 * x) i, h) := by
  obtain ⟨a1, a2, a3, a4, -⟩ := shx s hx
  simp only [f_Sh_item, jn, gd, a1, a2, a3, a4, if_true, e]
  rw [if_neg (nI_pos (by omega)), if_neg (nI_ge hi (by omega)), if_pos (nI_in (by omega) (by decide)), nI_clamp (by omega)]
theorem came_1 {c : Prop} [Decidable c] (came : Nat) : (if c then nI came else nI came + (1 : Int32)) = nI (if c then came else came + 1) := by
  split
  · rfl
  · rw [k1, nI_add]
theorem came_2 {c : Prop} [Decidable c] (came : Nat) : nI came + (if c then (0 : Int32) else (1 : Int32)) = nI (if c then came else came + 1) := by
  split
  · rw [k0, nI_add, Nat.add_zero]
  · rw [k1, nI_add]
theorem Ma_pairs_L {h0 : xH} {g x u sz c : Nat} {a1 a2 : Int32} (hn : 51 ≤ hN h0) (hx : x < 4) (e0 : hI h0 (24 + 2 * x) 1 = nI sz) (hs : sz ≤ 40) (hu : u < 2 ^ 31) (hc : c ≤ 13) : ∀ (m k fl f t came : Nat) (h : xH), Bd g f t → k + m = c → m < fl → came ≤ k → (k = 0 ∨ u ≤ 40) → TaC g f t h → Fr dTC h0 h → ∃ h2, f_Ma_pairs_L65 1 a1 a2 (nI u) (nI c) (24 + 2 * x) fl (nI came) (nI k) h (fun v43 v44 h45 => some (v43, h45)) = some ((plr g (hI h0 (25 + 2 * x)) u sz m k f t came).1, h2) ∧ TaC g (plr g (hI h0 (25 + 2 * x)) u sz m k f t came).2.1 (plr g (hI h0 (25 + 2 * x)) u sz m k f t came).2.2 h2 ∧ Fr dTC h0 h2 := by
  intro m
  induction m with
  | zero =>
    intro k fl f t came h B hk hf hcm huk C X
    obtain ⟨fl, rfl⟩ : ∃ q, fl = q + 1 := ⟨fl - 1, by omega⟩
    refine ⟨h, ?_, C, X⟩
    simp only [f_Ma_pairs_L65]
    rw [if_pos (nI_le (by omega) (by omega))]
    rfl
  | succ m ih =>
    intro k fl f t came h B hk hf hcm huk C X
    obtain ⟨fl, rfl⟩ : ∃ q, fl = q + 1 := ⟨fl - 1, by omega⟩
    obtain ⟨u1, u2, u3, u4, -⟩ := shx C.1 hx
    have e1 : hI h (24 + 2 * x) 1 = nI sz := (X.v hn 1 (by omega) (by simp [dTC])).trans e0
    have E25 : ∀ i, hI h (25 + 2 * x) i = hI h0 (25 + 2 * x) i := fun i => X.v hn i (by omega) (by simp [dTC]; omega)
    have R1 := Ma_hasRun_e u1 e1 hs (nI (u + 3 * k)) (3 : Int32)
    have hu3 : u + 3 * k < 2 ^ 31 := by
      rcases huk with rfl | q <;> omega
    rw [nI_toInt hu3] at R1
    have t3 : (3 : Int32).toInt = 3 := rfl
    rw [t3] at R1
    by_cases cc : u + 3 * k + 3 ≤ sz
    · rw [decide_eq_true ⟨nI_pos hu3, by decide, by omega⟩] at R1
      obtain ⟨h1, a, b, d⟩ := Ma_meet_e B C (hI h0 (25 + 2 * x) (u + 3 * k)) (hI h0 (25 + 2 * x) (u + 3 * k + 1)) (hI h0 (25 + 2 * x) (u + 3 * k + 2))
      obtain ⟨h2, p1, p2, p3⟩ := ih (k + 1) fl _ _ (if mtr g f t (hI h0 (25 + 2 * x) (u + 3 * k)) (hI h0 (25 + 2 * x) (u + 3 * k + 1)) (hI h0 (25 + 2 * x) (u + 3 * k + 2)) < 0 then came else came + 1) h1 (mt_Bd B _ _ _) (by omega) (by omega) (by split <;> omega) (Or.inr (by omega)) b (X.trans d)
      refine ⟨h2, ?_, ?_, p3⟩
      · unfold plr
        rw [if_pos cc, ← p1]
        simp only [f_Ma_pairs_L65, gd, u1, if_true, n3, R1, bind_s, b2i_t, i10, if_false, shp C.1, Sh_item_e C.1 hx e1 hs (show u + 3 * k < sz by omega), nI_1, k2, nI_add, Sh_item_e C.1 hx e1 hs (show u + 3 * k + 1 < sz by omega), Sh_item_e C.1 hx e1 hs (show u + 3 * k + 2 < sz by omega), E25, a]
        rw [if_neg (nI_ge (by omega) (by omega))]
        congr 1
        split
        · rfl
        · rfl
      · unfold plr
        rw [if_pos cc]
        exact p2
    · rw [decide_eq_false (by omega)] at R1
      refine ⟨h, ?_, ?_, X⟩
      · unfold plr
        rw [if_neg cc]
        simp only [f_Ma_pairs_L65, gd, u1, if_true, n3, R1, bind_s, b2i_f]
        rw [if_neg (nI_ge (by omega) (by omega))]
      · unfold plr
        rw [if_neg cc]
        exact C
theorem Mo_pairs_L {h0 : xH} {g x u sz c : Nat} {a2 : Int32} (hn : 51 ≤ hN h0) (hx : x < 4) (e0 : hI h0 49 x = nI sz) (hs : sz ≤ 40) (hu : u < 2 ^ 31) (hc : c ≤ 13) : ∀ (m k fl f t came : Nat) (h : xH), Bd g f t → k + m = c → m < fl → came ≤ k → (k = 0 ∨ u ≤ 40) → TaM g f t h → Fr dTM h0 h → ∃ h2, f_Mo_pairs_L75 36 (nI x) a2 (nI u) (nI c) fl (nI came) (nI k) h (fun v47 v48 h49 => some (v47, h49)) = some ((plr g (fun i => hI h0 50 (40 * x + i)) u sz m k f t came).1, h2) ∧ TaM g (plr g (fun i => hI h0 50 (40 * x + i)) u sz m k f t came).2.1 (plr g (fun i => hI h0 50 (40 * x + i)) u sz m k f t came).2.2 h2 ∧ Fr dTM h0 h2 := by
  intro m
  induction m with
  | zero =>
    intro k fl f t came h B hk hf hcm huk C X
    obtain ⟨fl, rfl⟩ : ∃ q, fl = q + 1 := ⟨fl - 1, by omega⟩
    refine ⟨h, ?_, C, X⟩
    simp only [f_Mo_pairs_L75]
    rw [if_pos (nI_le (by omega) (by omega))]
    rfl
  | succ m ih =>
    intro k fl f t came h B hk hf hcm huk C X
    obtain ⟨fl, rfl⟩ : ∃ q, fl = q + 1 := ⟨fl - 1, by omega⟩
    have e1 : hI h 49 x = nI sz := (X.v hn x (by omega) rfl).trans e0
    have E50 : ∀ i, hI h 50 i = hI h0 50 i := fun i => X.v hn i (by omega) rfl
    have hin : ¬ (nI x < 0 ∨ 4 ≤ x) := nin hx (by omega)
    have hu0 : ¬ nI u < 0 := nI_pos hu
    have hu3 : u + 3 * k < 2 ^ 31 := by
      rcases huk with rfl | q <;> omega
    have EE : (nI u ≤ (nI sz - (3 : Int32) * nI k) - (3 : Int32)) = (u + 3 * k + 3 ≤ sz) := by
      have w1 : ((3 : Int32) * nI k).toInt = 3 * k := by
        rw [show (3 : Int32) = nI 3 from rfl, li_mul, nI_toInt (by omega)]
        omega
      have w2 : (nI sz - (3 : Int32) * nI k).toInt = (sz : Int) - 3 * k := by
        rw [fb_subI (by rw [nI_toInt (by omega), w1]; omega) (by rw [nI_toInt (by omega), w1]; omega), nI_toInt (by omega), w1]
      have w3 : ((nI sz - (3 : Int32) * nI k) - (3 : Int32)).toInt = (sz : Int) - 3 * k - 3 := by
        rw [fb_subI (by rw [w2, show (3 : Int32).toInt = 3 from rfl]; omega) (by rw [w2, show (3 : Int32).toInt = 3 from rfl]; omega), w2]
        rfl
      rw [fa_le, w3, nI_toInt hu]
      apply propext
      omega
    by_cases cc : u + 3 * k + 3 ≤ sz
    · obtain ⟨h1, a, b, d⟩ := Mo_meet_e B C (hI h0 50 (40 * x + (u + 3 * k))) (hI h0 50 (40 * x + (u + 3 * k + 1))) (hI h0 50 (40 * x + (u + 3 * k + 2)))
      obtain ⟨h2, p1, p2, p3⟩ := ih (k + 1) fl _ _ (if mtr g f t (hI h0 50 (40 * x + (u + 3 * k))) (hI h0 50 (40 * x + (u + 3 * k + 1))) (hI h0 50 (40 * x + (u + 3 * k + 2))) < 0 then came else came + 1) h1 (mt_Bd B _ _ _) (by omega) (by omega) (by split <;> omega) (Or.inr (by omega)) b (X.trans d)
      have i0 : ¬ (nI (40 * x + u + 3 * k) < 0 ∨ 160 ≤ 40 * x + u + 3 * k) := nin (by omega) (by omega)
      have i1 : ¬ (nI (40 * x + u + 3 * k + 1) < 0 ∨ 160 ≤ 40 * x + u + 3 * k + 1) := nin (by omega) (by omega)
      have i2 : ¬ (nI (40 * x + u + 3 * k + 2) < 0 ∨ 160 ≤ 40 * x + u + 3 * k + 2) := nin (by omega) (by omega)
      have j0 : 40 * x + u + 3 * k = 40 * x + (u + 3 * k) := by omega
      have j1 : 40 * x + u + 3 * k + 1 = 40 * x + (u + 3 * k + 1) := by omega
      have j2 : 40 * x + u + 3 * k + 2 = 40 * x + (u + 3 * k + 2) := by omega
      refine ⟨h2, ?_, ?_, p3⟩
      · unfold plr
        rw [if_pos cc, ← p1]
        simp only [f_Mo_pairs_L75, jn, gd, shp C.1, if_true, if_neg hu0, nI_clamp (show x < 2 ^ 31 by omega), if_pos hin, e1, EE, if_pos cc, a40, n3, k2, nI_1, nI_add, nI_clamp (show 40 * x + u + 3 * k < 2 ^ 31 by omega), nI_clamp (show 40 * x + u + 3 * k + 1 < 2 ^ 31 by omega), nI_clamp (show 40 * x + u + 3 * k + 2 < 2 ^ 31 by omega), if_pos i0, if_pos i1, if_pos i2, E50]
        rw [if_neg (nI_ge (by omega) (by omega)), j2, j1, j0, a]
        simp only [bind_s, came_2]
      · unfold plr
        rw [if_pos cc]
        exact p2
    · refine ⟨h, ?_, ?_, X⟩
      · unfold plr
        rw [if_neg cc]
        simp only [f_Mo_pairs_L75, jn, gd, shp C.1, if_true, if_neg hu0, nI_clamp (show x < 2 ^ 31 by omega), if_pos hin, e1, EE, if_neg cc]
        rw [if_neg (nI_ge (by omega) (by omega))]
      · unfold plr
        rw [if_neg cc]
        exact C
theorem Y_pairs : Sp_pairs Inv := by
  intro x y u w h I
  obtain ⟨g, f, t, n, r, T, j⟩ := I
  have j0 := j
  obtain ⟨sh, hn, z, ⟨⟨g1, g7, hf, ht, hd⟩, e1, e2, e3, m1, m2, m3⟩, jk, jw, jp, js, jst, jx, jr⟩ := j0
  have f24 := lt24 g7 hf
  have t24 := lt24 g7 ht
  have f31 := lt3 f24
  have t31 := lt3 t24
  have s36 : hK h 36 = 11 := by simp only [shp sh]
  have bad : (inr x 3 = true ∧ inr y 2 = true ∧ inr w 13 = true) ∨ (f_Ma_pairs 1 x y u w h = some (-2, h) ∧ f_Mo_pairs 36 x y u w h = some (-2, h)) := by
    cases cx : inr x 3 with
    | false => exact Or.inr ⟨by simp only [f_Ma_pairs, jn, gd, shp sh, if_true, Ma_sheetAt_no cx, bind_s], by simp only [f_Mo_pairs, jn, Mo_isSheet_e, cx, bind_s, b2i_f, if_true]⟩
    | true =>
      obtain ⟨a, ha, rfl⟩ := inr_ex (by decide) cx
      have a4 : a < 4 := by omega
      have q0 : ¬ 24 + 2 * a = 0 := by omega
      cases cy : inr y 2 with
      | false =>
        refine Or.inr ⟨?_, by simp only [f_Mo_pairs, jn, Mo_isSheet_e, cx, bind_s, b2i_t, i10, if_false, Mo_in_2, cy, b2i_f, if_true]⟩
        simp only [f_Ma_pairs, jn, gd, shp sh, if_true, Ma_sheetAt_y sh a4, bind_s, if_neg q0]
        rcases inr_no (by decide) cy with c | ⟨c, c2⟩
        · rw [if_pos c]
        · rw [if_neg c, if_pos]
          rw [fa_lt, nI_toInt (by decide)] at c2
          rw [fa_le]
          show (3 : Int) ≤ _
          omega
      | true =>
        obtain ⟨so, hso, rfl⟩ := inr_ex (by decide) cy
        cases cw : inr w 13 with
        | false =>
          refine Or.inr ⟨?_, by simp only [f_Mo_pairs, jn, Mo_isSheet_e, cx, bind_s, b2i_t, i10, if_false, Mo_in_2, cy, Mo_in_13, cw, b2i_f, if_true]⟩
          simp only [f_Ma_pairs, jn, gd, shp sh, if_true, Ma_sheetAt_y sh a4, bind_s, if_neg q0]
          rw [if_neg (nI_pos (by omega)), if_neg (show ¬ (3 : Int32) ≤ nI so from nI_ge (b := 3) (by omega) (by decide))]
          rcases inr_no (by decide) cw with c | ⟨c, c2⟩
          · rw [if_pos c]
          · rw [if_neg c, if_neg (show ¬ w ≤ (13 : Int32) from (fa_of_lt c2).2.1)]
        | true => exact Or.inl ⟨rfl, rfl, rfl⟩
  rcases bad with ⟨cx, cy, cw⟩ | ⟨b1, b2⟩
  · obtain ⟨a, ha, rfl⟩ := inr_ex (by decide) cx
    obtain ⟨s0, hs0, rfl⟩ := inr_ex (by decide) cy
    obtain ⟨c, hc, rfl⟩ := inr_ex (by decide) cw
    have a4 : a < 4 := by omega
    have q0 : ¬ 24 + 2 * a = 0 := by omega
    obtain ⟨u1, u2, u3, u4, -⟩ := shx sh a4
    have hin : ¬ (nI a < 0 ∨ 4 ≤ a) := nin a4 (by omega)
    have M0 : ∀ h, f_Mo_isSheet (nI a) h = some (1, h) := fun h => by rw [Mo_isSheet_e, cx]; rfl
    have z1 : ¬ nI s0 < 0 := nI_pos (by omega)
    have z2 : ¬ (3 : Int32) ≤ nI s0 := nI_ge (b := 3) (by omega) (by decide)
    have z3 : ¬ nI c < 0 := nI_pos (by omega)
    have z4 : nI c ≤ (13 : Int32) := nI_le (b := 13) (by omega) (by decide)
    rcases js a a4 with ⟨c1, c2⟩ | ⟨so, m, d1, d2, d3, d4, d5, d6, d7, d8⟩
    · refine ⟨-11, h, h, ?_, s36, ?_, ⟨g, f, t, n, r, T, j⟩⟩
      · simp only [f_Ma_pairs, jn, gd, shp sh, if_true, Ma_sheetAt_y sh a4, bind_s, if_neg q0, if_neg z1, if_neg z2, if_neg z3, if_pos z4, u1, Ma_miss u1, c1, i10, if_false]
      · simp only [f_Mo_pairs, jn, gd, shp sh, if_true, M0, bind_s, i10, if_false, Mo_in_2, Mo_in_13, cy, cw, b2i_t, nI_clamp (show a < 2 ^ 31 by omega), if_pos hin, c2]
    · have e1' : ¬ nI so = (-1 : Int32) := fun q => nI_pos (n := so) (by omega) (by rw [q]; decide)
      have A0 : f_Ma_pairs 1 (nI a) (nI s0) u (nI c) h = if nI so = nI s0 then f_Ma_pairs_L65 1 (nI a) (nI s0) u (nI c) (24 + 2 * a) fu (0 : Int32) (0 : Int32) h (fun v43 v44 h45 => some (v43, h45)) else some (-13, h) := by
        simp only [f_Ma_pairs, jn, gd, shp sh, if_true, Ma_sheetAt_y sh a4, bind_s, if_neg q0, if_neg z1, if_neg z2, if_neg z3, if_pos z4, u1, Ma_miss u1, d3, if_neg e1']
      have B0 : ∀ h1, Shp h1 → hI h1 47 a = 1 → hI h1 48 a = nI so → f_Mo_pairs 36 (nI a) (nI s0) u (nI c) h1 = if nI so = nI s0 then f_Mo_pairs_L75 36 (nI a) (nI s0) u (nI c) fu (0 : Int32) (0 : Int32) h1 (fun v47 v48 h49 => some (v47, h49)) else some (-13, h1) := by
        intro h1 s1 y1 y2
        simp only [f_Mo_pairs, jn, gd, shp s1, if_true, M0, bind_s, i10, if_false, Mo_in_2, Mo_in_13, cy, cw, b2i_t, nI_clamp (show a < 2 ^ 31 by omega), if_pos hin, y1, y2]
      by_cases es : nI so = nI s0
      · rw [if_pos es] at A0
        by_cases u0 : u < 0
        · rcases Nat.eq_zero_or_pos c with rfl | cp
          · refine ⟨0, h, h, ?_, s36, ?_, ⟨g, f, t, n, r, T, j⟩⟩
            · rw [A0]
              show f_Ma_pairs_L65 1 (nI a) (nI s0) u (nI 0) (24 + 2 * a) (1999 + 1) (0 : Int32) (0 : Int32) h _ = _
              rw [f_Ma_pairs_L65, if_pos (by decide)]
            · show f_Mo_pairs 36 (nI a) (nI s0) u (nI 0) h = _
              rw [B0 h sh d5 d6, if_pos es]
              show f_Mo_pairs_L75 36 (nI a) (nI s0) u (nI 0) (1999 + 1) (0 : Int32) (0 : Int32) h _ = _
              rw [f_Mo_pairs_L75, if_pos (by decide)]
          · have nc : ¬ nI c ≤ (0 : Int32) := nI_ge (a := 0) cp (by omega)
            refine ⟨-12, h, h, ?_, s36, ?_, ⟨g, f, t, n, r, T, j⟩⟩
            · rw [A0]
              show f_Ma_pairs_L65 1 (nI a) (nI s0) u (nI c) (24 + 2 * a) (1999 + 1) (0 : Int32) (0 : Int32) h _ = _
              have e0 : u + (3 : Int32) * 0 = u := by simp
              have R1 := Ma_hasRun_e u1 d4 d2 u 3
              rw [decide_eq_false (fun q => q.1 u0)] at R1
              rw [f_Ma_pairs_L65, if_neg nc, e0, R1]
              simp only [gd, u1, if_true, bind_s, b2i_f]
            · show f_Mo_pairs 36 (nI a) (nI s0) u (nI c) h = _
              rw [B0 h sh d5 d6, if_pos es]
              show f_Mo_pairs_L75 36 (nI a) (nI s0) u (nI c) (1999 + 1) (0 : Int32) (0 : Int32) h _ = _
              rw [f_Mo_pairs_L75, if_neg nc]
              simp only [jn]
              rw [if_pos u0]
        · obtain ⟨U, hU, rfl⟩ := nI_of u0
          have B : Bd g f t := ⟨g1, g7, hf, ht, hd⟩
          obtain ⟨h1, p1, p2, p3⟩ := Ma_pairs_L (a1 := nI a) (a2 := nI s0) (c := c) hn a4 d4 d2 hU (by omega) c 0 fu f t 0 h B (by omega) (by show c < 2000; omega) (Nat.le_refl _) (Or.inl rfl) ⟨sh, e1, e2, e3⟩ (Fr.refl h)
          have n51 := Nat.le_trans hn p3.1
          obtain ⟨h2, r1, r2, r3⟩ := Mo_pairs_L (x := a) (a2 := nI s0) (c := c) n51 a4 ((p3.v hn a (by omega) rfl).trans d7) d2 hU (by omega) c 0 fu f t 0 h1 B (by omega) (by show c < 2000; omega) (Nat.le_refl _) (Or.inl rfl) (TaM_fr hn p2.1 p3 (fun k _ _ => rfl) ⟨sh, m1, m2, m3⟩) (Fr.refl h1)
          have ee : plr g (fun i => hI h1 50 (40 * a + i)) U m c 0 f t 0 = plr g (hI h (25 + 2 * a)) U m c 0 f t 0 := plr_congr (fun i hi => (p3.v hn _ (by omega) rfl).trans (d8 i hi).symm) c 0 f t 0
          rw [ee] at r1 r2
          have bd := plr_Bd (it := hI h (25 + 2 * a)) (u := U) (sz := m) c 0 f t 0 B
          have cc := TaC_fr n51 r2.1 r3 (fun k => rfl) p2
          refine ⟨_, h1, h2, A0.trans p1, by simp only [shp p2.1], ?_, ⟨g, _, _, n, r, T, J_tb r2.1 ((p3.mono (fun p k => dTC_tb)).trans (r3.mono (fun p k => dTM_tb))) j ⟨bd, cc.2.1, cc.2.2.1, cc.2.2.2, r2.2.1, r2.2.2.1, r2.2.2.2⟩⟩⟩
          show f_Mo_pairs 36 (nI a) (nI s0) (nI U) (nI c) h1 = _
          rw [B0 h1 p2.1 ((p3.v hn a (by omega) rfl).trans d5) ((p3.v hn a (by omega) rfl).trans d6), if_pos es]
          exact r1
      · rw [if_neg es] at A0
        refine ⟨-13, h, h, A0, s36, ?_, ⟨g, f, t, n, r, T, j⟩⟩
        show f_Mo_pairs 36 (nI a) (nI s0) u (nI c) h = _
        rw [B0 h sh d5 d6, if_neg es]
  · exact ⟨-2, h, h, b1, s36, b2, ⟨g, f, t, n, r, T, j⟩⟩

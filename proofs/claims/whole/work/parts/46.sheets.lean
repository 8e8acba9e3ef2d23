/-! sheets -/
def dSC (x p _k : Nat) : Bool := !(decide (p = 24 + 2 * x) || decide (p = 25 + 2 * x))
def dSM (x p k : Nat) : Bool := !((decide (47 ≤ p) && decide (p ≤ 49) && decide (k = x)) || (decide (p = 50) && decide (40 * x ≤ k) && decide (k < 40 * x + 40)))
theorem dSC_sh {x p k : Nat} (hx : x < 4) (h : dSh p k = true) : dSC x p k = true := by
  simp [dSh] at h
  simp [dSC]
  omega
theorem dSM_sh {x p k : Nat} (h : dSh p k = true) : dSM x p k = true := by
  simp [dSh] at h
  simp [dSM]
  omega
def Sent (x : Nat) (h : xH) : Prop := (hI h (24 + 2 * x) 0 = -1 ∧ hI h 47 x = 0) ∨ ∃ so n, so < 3 ∧ n ≤ 40 ∧ hI h (24 + 2 * x) 0 = nI so ∧ hI h (24 + 2 * x) 1 = nI n ∧ hI h 47 x = 1 ∧ hI h 48 x = nI so ∧ hI h 49 x = nI n ∧ ∀ i, i < n → hI h (25 + 2 * x) i = hI h 50 (40 * x + i)
theorem Sent_upd {h h1 h2 : xH} {x : Nat} (hn : 51 ≤ hN h) (hx : x < 4) (a : Fr (dSC x) h h1) (b : Fr (dSM x) h1 h2) (js : Jsheet h) (e : Sent x h2) : Jsheet h2 := by
  intro y hy
  by_cases c : y = x
  · rw [c]
    exact e
  · have n1 : 51 ≤ hN h1 := Nat.le_trans hn a.1
    have A : ∀ p k, (p = 24 + 2 * y ∨ p = 25 + 2 * y) → hI h2 p k = hI h p k := fun p k q => (b.v n1 k (by omega) (by simp [dSM]; omega)).trans (a.v hn k (by omega) (by simp [dSC]; omega))
    have B : ∀ p k, (47 ≤ p ∧ p ≤ 49 ∧ k = y) ∨ (p = 50 ∧ 40 * y ≤ k ∧ k < 40 * y + 40) → hI h2 p k = hI h p k := fun p k q => (b.v n1 k (by omega) (by simp [dSM]; omega)).trans (a.v hn k (by omega) (by simp [dSC]; omega))
    rcases js y hy with ⟨c1, c2⟩ | ⟨so, m, c1, c2, c3, c4, c5, c6, c7, c8⟩
    · exact Or.inl ⟨(A _ _ (by omega)).trans c1, (B _ _ (by omega)).trans c2⟩
    · exact Or.inr ⟨so, m, c1, c2, (A _ _ (by omega)).trans c3, (A _ _ (by omega)).trans c4, (B _ _ (by omega)).trans c5, (B _ _ (by omega)).trans c6, (B _ _ (by omega)).trans c7, fun i hi => (A _ _ (by omega)).trans ((c8 i hi).trans (B _ _ (by omega)).symm)⟩
section P46
variable {h : xH}
theorem shx (s : Shp h) {x : Nat} (hx : x < 4) : hK h (24 + 2 * x) = 4 ∧ hR h (24 + 2 * x) 2 = 25 + 2 * x ∧ hK h (25 + 2 * x) = 12 ∧ hL h (25 + 2 * x) = 40 ∧ hR h 23 x = 24 + 2 * x := by
  rcases (by omega : x = 0 ∨ x = 1 ∨ x = 2 ∨ x = 3) with rfl | rfl | rfl | rfl
  · simp only [shp s, Nat.mul_zero, Nat.add_zero, and_self]
  · simp only [shp s, show 24 + 2 * 1 = 26 from rfl, show 25 + 2 * 1 = 27 from rfl, and_self]
  · simp only [shp s, show 24 + 2 * 2 = 28 from rfl, show 25 + 2 * 2 = 29 from rfl, and_self]
  · simp only [shp s, show 24 + 2 * 3 = 30 from rfl, show 25 + 2 * 3 = 31 from rfl, and_self]
theorem Ma_sheetAt_y (s : Shp h) {x : Nat} (hx : x < 4) : f_Ma_sheetAt 1 (nI x) h = some (24 + 2 * x, h) := by
  simp only [f_Ma_sheetAt, jn, gd, shp s, if_true]
  rw [if_neg (nI_pos (by omega)), if_neg (show ¬ (4 : Int32) ≤ nI x from nI_ge (b := 4) hx (by decide)), if_pos (nI_in hx (by decide)), nI_clamp (by omega), (shx s hx).2.2.2.2]
theorem Ma_sheetAt_no {x : Int32} (hx : inr x 3 = false) : f_Ma_sheetAt 1 x h = some (0, h) := by
  simp only [f_Ma_sheetAt, jn]
  rcases inr_no (by decide) hx with c | ⟨c, c2⟩
  · rw [if_pos c]
  · rw [if_neg c, if_pos]
    rw [fa_lt, nI_toInt (by decide)] at c2
    rw [fa_le]
    show (4 : Int) ≤ _
    omega
theorem Mo_isSheet_e (x : Int32) : f_Mo_isSheet x h = some (b2i (inr x 3), h) := by
  simp only [f_Mo_isSheet, Mo_in_3, bind_s, knbb]
def PFi (h0 : xH) (q : Nat) (i : Nat) (v : xH) : Prop := Shp v ∧ Fr (fun p _ => !decide (p = q)) h0 v ∧ ∀ k, k < i → hI v q k = 0
theorem Ar_fill_e (s : Shp h) {q : Nat} (kq : hK h q = 12) (lq : hL h q = 40) (hq : q < hN h) : ∃ h', f_Ar_fill q (0 : Int32) h = some ((), h') ∧ PFi h q 40 h' := by
  simp only [f_Ar_fill, gd, kq, if_true, lq]
  refine lpf (fun n i (v : xH) => f_Ar_fill_L5 q (0 : Int32) (Int32.ofNat 40) n i v (fun v7 h8 => some ((), h8))) (fun o => ∃ h', o = some ((), h') ∧ PFi h q 40 h') (fun i v => PFi h q i v) 40 (i := 0) (Nat.zero_le _) (by omega) ⟨s, Fr.refl h, fun k hk => by omega⟩ ?_ ?_
  · intro n i v hi ⟨s1, x1, e1⟩
    have kv := (x1.2 q hq).1.trans kq
    have lv := (x1.2 q hq).2.1.trans lq
    refine Or.inr ⟨hIu v q i 0, ?_, s1, x1.I (by simp), ?_⟩
    · simp only [f_Ar_fill_L5, gd, kv, if_true, lv]
      rw [if_neg (show ¬ Int32.ofNat 40 ≤ nI i from nI_ge (b := 40) hi (by decide)), if_pos (nI_in hi (by decide)), nI_clamp (by omega), nI_1]
    · intro k hk
      rw [iI]
      by_cases e : k = i
      · rw [if_pos ⟨rfl, e⟩]
      · rw [if_neg (fun z => e z.2)]
        exact e1 k (by omega)
  · intro n v P
    refine ⟨v, ?_, P⟩
    simp only [f_Ar_fill_L5]
    rw [if_pos (show Int32.ofNat 40 ≤ nI 40 by decide)]
theorem Sh_become_e (s : Shp h) (hn : 51 ≤ hN h) {x : Nat} (hx : x < 4) (so n : Int32) : ∃ h', f_Sh_become (24 + 2 * x) so n h = some ((), h') ∧ Shp h' ∧ Fr (dSC x) h h' ∧ hI h' (24 + 2 * x) 0 = so ∧ hI h' (24 + 2 * x) 1 = n ∧ ∀ k, k < 40 → hI h' (25 + 2 * x) k = 0 := by
  obtain ⟨a1, a2, a3, a4, -⟩ := shx s hx
  obtain ⟨h', b1, b2, b3, b4⟩ := Ar_fill_e (h := hIu (hIu h (24 + 2 * x) 0 so) (24 + 2 * x) 1 n) (q := 25 + 2 * x) s a3 a4 (by show _ < hN h; omega)
  have e := fun k => (b3.v hn k (p := 24 + 2 * x) (by omega) (by simp))
  refine ⟨h', ?_, b2, ?_, ?_, ?_, b4⟩
  · simp only [f_Sh_become, gd, a1, if_true, a2, b1, bind_s]
  · exact (((Fr.refl h).I (by simp [dSC])).I (by simp [dSC])).trans (b3.mono (fun p k q => by simp [dSC] at q; simp; omega))
  · rw [e, iI, if_neg (by omega), iI, if_pos ⟨rfl, rfl⟩]
  · rw [e, iI, if_pos ⟨rfl, rfl⟩]
end P46
def PZe (h0 : xH) (x i : Nat) (v : xH) : Prop := Shp v ∧ Fr (dSM x) h0 v ∧ (∀ p, 47 ≤ p → p ≤ 49 → hI v p x = hI h0 p x) ∧ ∀ k, k < i → hI v 50 (40 * x + k) = 0
theorem a40 (x i : Nat) : (40 : Int32) * nI x + nI i = nI (40 * x + i) := by rw [show (40 : Int32) = nI 40 from rfl, li_mul, nI_add]
theorem qm1 : (-1 : Int64) = (-1 : Int32).toInt64 := by decide
theorem Mo_in_m {h : xH} (x : Int32) : f_Mo_in x.toInt64 (-1 : Int64) (2 : Int64) h = some (if x < -1 then nI 0 else if nI 2 < x then nI 0 else nI 1, h) := by rw [qm1, q2, Mo_in_c]
theorem sort_of {y : Int32} (h1 : ¬ y < -1) (h2 : ¬ nI 2 < y) : y = -1 ∨ ∃ so, so < 3 ∧ y = nI so := by
  by_cases c : y < 0
  · left
    rw [fa_lt] at h1 c
    rw [fa_eq]
    have e1 : (-1 : Int32).toInt = -1 := rfl
    have e2 : (0 : Int32).toInt = 0 := rfl
    omega
  · right
    obtain ⟨z, hz, rfl⟩ := nI_of c
    rw [nI_ltI (by decide) hz] at h2
    exact ⟨z, by omega, rfl⟩
theorem sh77 {h : xH} {x w : Int32} {K : Int32 → xH → Option (Int32 × xH)} : f_Mo_sheet_L77 36 x (-1 : Int32) w fu (0 : Int32) h K = K 0 h := by
  show f_Mo_sheet_L77 36 x (-1 : Int32) w (1999 + 1) (0 : Int32) h K = _
  rw [f_Mo_sheet_L77]
  split
  · rfl
  · rw [if_pos (by decide)]
theorem Y_sheet : Sp_sheet Inv := by
  intro x y w h I
  obtain ⟨g, f, t, n, r, T, j⟩ := I
  have j0 := j
  obtain ⟨sh, hn, z, ⟨⟨g1, g7, hf, ht, hd⟩, e1, e2, e3, m1, m2, m3⟩, jk, jw, jp, js, jst, jx, jr⟩ := j0
  have f24 := lt24 g7 hf
  have t24 := lt24 g7 ht
  have f31 := lt3 f24
  have t31 := lt3 t24
  have s36 : hK h 36 = 11 := by simp only [shp sh]
  cases cx : inr x 3 with
  | false =>
    refine ⟨-2, h, h, ?_, s36, ?_, ⟨g, f, t, n, r, T, j⟩⟩
    · simp only [f_Ma_sheet, jn, gd, shp sh, if_true, Ma_sheetAt_no cx, bind_s]
    · simp only [f_Mo_sheet, jn, Mo_isSheet_e, cx, bind_s, b2i_f, if_true]
  | true =>
    obtain ⟨a, ha, rfl⟩ := inr_ex (by decide) cx
    have a4 : a < 4 := by omega
    have q0 : ¬ 24 + 2 * a = 0 := by omega
    obtain ⟨u1, u2, u3, u4, -⟩ := shx sh a4
    have M0 : f_Mo_isSheet (nI a) h = some (1, h) := by rw [Mo_isSheet_e, cx]; rfl
    by_cases c1 : y < -1 ∨ nI 2 < y
    · refine ⟨-2, h, h, ?_, s36, ?_, ⟨g, f, t, n, r, T, j⟩⟩
      · simp only [f_Ma_sheet, jn, gd, shp sh, if_true, Ma_sheetAt_y sh a4, bind_s, if_neg q0]
        by_cases c2 : y < -1
        · rw [if_pos c2]
        · rw [if_neg c2, if_neg]
          have c3 := c1.resolve_left c2
          rw [fa_lt, nI_toInt (by decide)] at c3
          rw [fa_lt]
          show ¬ _ < (3 : Int)
          omega
      · simp only [f_Mo_sheet, jn, M0, bind_s, i10, if_false, Mo_in_m]
        by_cases c2 : y < -1
        · rw [if_pos c2, if_pos nI_0]
        · rw [if_neg c2, if_pos (c1.resolve_left c2), if_pos nI_0]
    · have c2 : ¬ y < -1 := fun q => c1 (Or.inl q)
      have c3 : ¬ nI 2 < y := fun q => c1 (Or.inr q)
      have c4 : y < (3 : Int32) := by
        rw [fa_lt, nI_toInt (by decide)] at c3
        rw [fa_lt]
        show _ < (3 : Int)
        omega
      have n1 : ¬ nI 1 = 0 := by decide
      have hin : ¬ (nI a < 0 ∨ 4 ≤ a) := nin a4 (by omega)
      rcases sort_of c2 c3 with rfl | ⟨so, hso, rfl⟩
      · obtain ⟨h1, b1, b2, b3, b4, b5, b6⟩ := Sh_become_e sh hn a4 (-1) 0
        have n51 := Nat.le_trans hn b3.1
        have F2 : Fr (dSM a) h1 (hIu (hIu (hIu h1 47 a 0) 48 a (-1)) 49 a w) := (((Fr.refl h1).I (by simp [dSM])).I (by simp [dSM])).I (by simp [dSM])
        refine ⟨1, h1, hIu (hIu (hIu h1 47 a 0) 48 a (-1)) 49 a w, ?_, by simp only [shp b2], ?_, ⟨g, f, t, n, r, T, J_shs b2 ((b3.mono (fun p k => dSC_sh a4)).trans (F2.mono (fun p k => dSM_sh))) j (Sent_upd hn a4 b3 F2 js (Or.inl ⟨?_, ?_⟩))⟩⟩
        · simp only [f_Ma_sheet, jn, gd, shp sh, if_true, Ma_sheetAt_y sh a4, bind_s, if_neg q0, if_neg c2, if_pos c4, u1, b1]
        · have M1 : f_Mo_isSheet (nI a) h1 = some (1, h1) := by rw [Mo_isSheet_e, cx]; rfl
          simp only [f_Mo_sheet, jn, gd, hp, kI, rI, lI, shp b2, if_true, M1, bind_s, i10, if_false, Mo_in_m, if_neg c2, if_neg c3, if_neg n1, if_pos (show (-1 : Int32) < 0 by decide), nI_clamp (show a < 2 ^ 31 by omega), if_pos hin, nb0, sh77]
        · rw [iI, if_neg (by omega), iI, if_neg (by omega), iI, if_neg (by omega), b4]
        · rw [iI, if_neg (by omega), iI, if_neg (by omega), iI, if_pos ⟨rfl, rfl⟩]
      · have d1 : ¬ nI so = (-1 : Int32) := fun q => nI_pos (n := so) (by omega) (by rw [q]; decide)
        have d2 : ¬ nI so < 0 := nI_pos (by omega)
        by_cases e40 : w ≤ (40 : Int32)
        · by_cases e0 : 0 ≤ w
          · obtain ⟨m, hm, rfl⟩ := nI_of (x := w) (fun q => (fa_of_lt q).2.1 e0)
            have m40 : m ≤ 40 := by
              rw [show (40 : Int32) = nI 40 from rfl, nI_leI hm (by decide)] at e40
              exact e40
            obtain ⟨h1, b1, b2, b3, b4, b5, b6⟩ := Sh_become_e sh hn a4 (nI so) (nI m)
            have n51 := Nat.le_trans hn b3.1
            have P0 : PZe h1 a 0 h1 := ⟨b2, Fr.refl _, fun _ _ _ => rfl, fun k hk => by omega⟩
            have F1 : Fr (dSM a) h1 (hIu (hIu (hIu h1 47 a 1) 48 a (nI so)) 49 a (nI m)) := (((Fr.refl h1).I (by simp [dSM])).I (by simp [dSM])).I (by simp [dSM])
            have LL : ∃ h2, f_Mo_sheet_L77 36 (nI a) (nI so) (nI m) fu (0 : Int32) (hIu (hIu (hIu h1 47 a 1) 48 a (nI so)) 49 a (nI m)) (fun v41 h42 => some ((1 : Int32), h42)) = some (1, h2) ∧ PZe (hIu (hIu (hIu h1 47 a 1) 48 a (nI so)) 49 a (nI m)) a m h2 := by
              refine lpf (fun n i (v : xH) => f_Mo_sheet_L77 36 (nI a) (nI so) (nI m) n i v (fun v41 h42 => some ((1 : Int32), h42))) (fun o => ∃ h2, o = some (1, h2) ∧ PZe (hIu (hIu (hIu h1 47 a 1) 48 a (nI so)) 49 a (nI m)) a m h2) (fun i v => PZe (hIu (hIu (hIu h1 47 a 1) 48 a (nI so)) 49 a (nI m)) a i v) m (i := 0) (Nat.zero_le _) (by omega) ⟨b2, Fr.refl _, fun _ _ _ => rfl, fun k hk => by omega⟩ ?_ ?_
              · intro n i v hi ⟨s1, x1, y1, z1⟩
                refine Or.inr ⟨hIu v 50 (40 * a + i) 0, ?_, s1, x1.I (by simp [dSM]; omega), ?_, ?_⟩
                · simp only [f_Mo_sheet_L77, gd, shp s1, if_true]
                  rw [if_neg (nI_ge hi (by omega)), if_neg d2, a40, if_pos (nI_in (by omega) (by decide)), nI_clamp (by omega), nI_1]
                · intro p p1 p2
                  rw [iI, if_neg (by omega)]
                  exact y1 p p1 p2
                · intro k hk
                  rw [iI]
                  by_cases e : k = i
                  · rw [if_pos ⟨rfl, by omega⟩]
                  · rw [if_neg (by omega)]
                    exact z1 k (by omega)
              · intro n v P
                refine ⟨v, ?_, P⟩
                simp only [f_Mo_sheet_L77]
                rw [if_pos (nI_le (Nat.le_refl _) (by omega))]
            obtain ⟨h2, l1, s2, x2, y2, z2⟩ := LL
            refine ⟨1, h1, h2, ?_, by simp only [shp b2], ?_, ⟨g, f, t, n, r, T, J_shs s2 ((b3.mono (fun p k => dSC_sh a4)).trans ((F1.trans x2).mono (fun p k => dSM_sh))) j (Sent_upd hn a4 b3 (F1.trans x2) js (Or.inr ⟨so, m, hso, m40, ?_, ?_, ?_, ?_, ?_, ?_⟩))⟩⟩
            · simp only [f_Ma_sheet, jn, gd, shp sh, if_true, Ma_sheetAt_y sh a4, bind_s, if_neg q0, if_neg c2, if_pos c4, if_neg d1, if_pos e40, if_pos e0, u1, b1]
            · have M1 : f_Mo_isSheet (nI a) h1 = some (1, h1) := by rw [Mo_isSheet_e, cx]; rfl
              simp only [f_Mo_sheet, jn, gd, hp, kI, rI, lI, shp b2, if_true, M1, bind_s, i10, if_false, Mo_in_m, if_neg c2, if_neg c3, if_neg n1, if_neg d2, if_pos e40, if_pos e0, nI_clamp (show a < 2 ^ 31 by omega), if_pos hin, nb1]
              exact l1
            · rw [(F1.trans x2).v n51 0 (by omega) (by simp [dSM]; omega), b4]
            · rw [(F1.trans x2).v n51 1 (by omega) (by simp [dSM]; omega), b5]
            · rw [y2 47 (by omega) (by omega), iI, if_neg (by omega), iI, if_neg (by omega), iI, if_pos ⟨rfl, rfl⟩]
            · rw [y2 48 (by omega) (by omega), iI, if_neg (by omega), iI, if_pos ⟨rfl, rfl⟩]
            · rw [y2 49 (by omega) (by omega), iI, if_pos ⟨rfl, rfl⟩]
            · intro i hi
              rw [(F1.trans x2).v n51 i (by omega) (by simp [dSM]; omega), b6 i (by omega), z2 i hi]
          · refine ⟨-14, h, h, ?_, s36, ?_, ⟨g, f, t, n, r, T, j⟩⟩
            · simp only [f_Ma_sheet, jn, gd, shp sh, if_true, Ma_sheetAt_y sh a4, bind_s, if_neg q0, if_neg c2, if_pos c4, if_neg d1, if_pos e40, if_neg e0]
            · simp only [f_Mo_sheet, jn, M0, bind_s, i10, if_false, Mo_in_m, if_neg c2, if_neg c3, if_neg n1, if_neg d2, if_pos e40, if_neg e0]
        · refine ⟨-2, h, h, ?_, s36, ?_, ⟨g, f, t, n, r, T, j⟩⟩
          · simp only [f_Ma_sheet, jn, gd, shp sh, if_true, Ma_sheetAt_y sh a4, bind_s, if_neg q0, if_neg c2, if_pos c4, if_neg d1, if_neg e40]
          · simp only [f_Mo_sheet, jn, M0, bind_s, i10, if_false, Mo_in_m, if_neg c2, if_neg c3, if_neg n1, if_neg d2, if_neg e40]
/-- a sheet's entry, as both hold it -/
theorem Ma_miss {h : xH} {q : Nat} (hk : hK h q = 4) : f_Sh_isMissing q h = some (if hI h q 0 = (-1 : Int32) then 1 else 0, h) := by
  simp only [f_Sh_isMissing, gd, hk, if_true, nb_fi]
theorem Y_cell : Sp_cell Inv := by
  intro x y w h I
  obtain ⟨g, f, t, n, r, T, j⟩ := I
  have j0 := j
  obtain ⟨sh, hn, z, ⟨⟨g1, g7, hf, ht, hd⟩, e1, e2, e3, m1, m2, m3⟩, jk, jw, jp, js, jst, jx, jr⟩ := j0
  have f24 := lt24 g7 hf
  have t24 := lt24 g7 ht
  have f31 := lt3 f24
  have t31 := lt3 t24
  have s36 : hK h 36 = 11 := by simp only [shp sh]
  cases cx : inr x 3 with
  | false =>
    refine ⟨-2, h, h, ?_, s36, ?_, ⟨g, f, t, n, r, T, j⟩⟩
    · simp only [f_Ma_cell, gd, shp sh, if_true, Ma_sheetAt_no cx, bind_s]
    · simp only [f_Mo_cell, Mo_isSheet_e, cx, bind_s, b2i_f, if_true]
  | true =>
    obtain ⟨a, ha, rfl⟩ := inr_ex (by decide) cx
    have a4 : a < 4 := by omega
    have q0 : ¬ 24 + 2 * a = 0 := by omega
    obtain ⟨u1, u2, u3, u4, -⟩ := shx sh a4
    have M0 : ∀ h, f_Mo_isSheet (nI a) h = some (1, h) := fun h => by rw [Mo_isSheet_e, cx]; rfl
    have hin : ¬ (nI a < 0 ∨ 4 ≤ a) := nin a4 (by omega)
    rcases js a a4 with ⟨c1, c2⟩ | ⟨so, m, d1, d2, d3, d4, d5, d6, d7, d8⟩
    · refine ⟨-11, h, h, ?_, s36, ?_, ⟨g, f, t, n, r, T, j⟩⟩
      · simp only [f_Ma_cell, gd, shp sh, if_true, Ma_sheetAt_y sh a4, bind_s, if_neg q0, u1, Ma_miss u1, c1, i10, if_false]
      · simp only [f_Mo_cell, gd, shp sh, if_true, M0, bind_s, i10, if_false, nI_clamp (show a < 2 ^ 31 by omega), if_pos hin, c2]
    · have e1 : ¬ nI so = (-1 : Int32) := fun q => nI_pos (n := so) (by omega) (by rw [q]; decide)
      cases cy : ing y m with
      | false =>
        refine ⟨-12, h, h, ?_, s36, ?_, ⟨g, f, t, n, r, T, j⟩⟩
        · have ew : f_Sh_write (24 + 2 * a) y w h = some (0, h) := by
            simp only [f_Sh_write, jn, gd, u1, if_true, d4]
            rcases ing_no cy with c | ⟨c, c2⟩
            · rw [if_pos c]
            · rw [if_neg c, if_neg (fun q => (fa_of_lt q).2.1 c2)]
          simp only [f_Ma_cell, gd, shp sh, if_true, Ma_sheetAt_y sh a4, bind_s, if_neg q0, u1, Ma_miss u1, d3, if_neg e1, ew]
        · simp only [f_Mo_cell, gd, shp sh, if_true, M0, bind_s, i10, if_false, nI_clamp (show a < 2 ^ 31 by omega), if_pos hin, d5, d7, Mo_in_g y (show m < 2 ^ 31 by omega), cy, b2i_f]
      | true =>
        obtain ⟨i, hi, rfl⟩ := ing_ex (by omega) cy
        have F1 : Fr (dSC a) h (hIu h (25 + 2 * a) i (if so = 0 then jB w else if so = 1 then jS w else w)) := (Fr.refl h).I (by simp [dSC])
        have F2 : Fr (dSM a) (hIu h (25 + 2 * a) i (if so = 0 then jB w else if so = 1 then jS w else w)) (hIu (hIu h (25 + 2 * a) i (if so = 0 then jB w else if so = 1 then jS w else w)) 50 (40 * a + i) (if so = 0 then jB w else if so = 1 then jS w else w)) := (Fr.refl _).I (by simp [dSM]; omega)
        have i1 : ¬ (nI i < 0 ∨ 40 ≤ i) := nin (by omega) (by omega)
        have s0 : (nI so = (0 : Int32)) = (so = 0) := li_eq (by omega) (by decide)
        have s1 : (nI so = (1 : Int32)) = (so = 1) := li_eq (by omega) (by decide)
        refine ⟨1, hIu h (25 + 2 * a) i (if so = 0 then jB w else if so = 1 then jS w else w), hIu (hIu h (25 + 2 * a) i (if so = 0 then jB w else if so = 1 then jS w else w)) 50 (40 * a + i) (if so = 0 then jB w else if so = 1 then jS w else w), ?_, s36, ?_, ⟨g, f, t, n, r, T, J_shs sh ((F1.mono (fun p k => dSC_sh a4)).trans (F2.mono (fun p k => dSM_sh))) j (Sent_upd hn a4 F1 F2 js (Or.inr ⟨so, m, d1, d2, ?_, ?_, ?_, ?_, ?_, ?_⟩))⟩⟩
        · have ew : f_Sh_write (24 + 2 * a) (nI i) w h = some (1, hIu h (25 + 2 * a) i (if so = 0 then jB w else if so = 1 then jS w else w)) := by
            simp only [f_Sh_write, jn, gd, u1, u2, u3, u4, if_true, d3, d4, s0, s1, nI_clamp (show i < 2 ^ 31 by omega), if_pos i1]
            rw [if_neg (nI_pos (by omega)), if_pos (nI_lt hi (by omega))]
            by_cases z0 : so = 0
            · rw [if_pos z0, if_pos z0]
            · rw [if_neg z0, if_neg z0]
              by_cases z1 : so = 1
              · rw [if_pos z1, if_pos z1]
              · rw [if_neg z1, if_neg z1]
          simp only [f_Ma_cell, gd, shp sh, if_true, Ma_sheetAt_y sh a4, bind_s, if_neg q0, u1, Ma_miss u1, d3, if_neg e1, ew, i10, if_false]
        · have v47 : hI (hIu h (25 + 2 * a) i (if so = 0 then jB w else if so = 1 then jS w else w)) 47 a = 1 := by rw [iI, if_neg (by omega), d5]
          have v48 : hI (hIu h (25 + 2 * a) i (if so = 0 then jB w else if so = 1 then jS w else w)) 48 a = nI so := by rw [iI, if_neg (by omega), d6]
          have v49 : hI (hIu h (25 + 2 * a) i (if so = 0 then jB w else if so = 1 then jS w else w)) 49 a = nI m := by rw [iI, if_neg (by omega), d7]
          have s2 : Shp (hIu h (25 + 2 * a) i (if so = 0 then jB w else if so = 1 then jS w else w)) := sh
          generalize hIu h (25 + 2 * a) i (if so = 0 then jB w else if so = 1 then jS w else w) = h1 at *
          have ib : ¬ (nI (40 * a + i) < 0 ∨ 160 ≤ 40 * a + i) := nin (by omega) (by omega)
          simp only [f_Mo_cell, jn, gd, shp s2, if_true, M0, bind_s, i10, if_false, nI_clamp (show a < 2 ^ 31 by omega), if_pos hin, v47, v48, v49, Mo_in_g (nI i) (show m < 2 ^ 31 by omega), cy, b2i_t, a40, nI_clamp (show 40 * a + i < 2 ^ 31 by omega), if_pos ib, s0, s1]
          by_cases z0 : so = 0
          · rw [if_pos z0, if_pos z0]
          · rw [if_neg z0, if_neg z0]
            by_cases z1 : so = 1
            · rw [if_pos z1, if_pos z1]
            · rw [if_neg z1, if_neg z1]
        · rw [iI, if_neg (by omega), iI, if_neg (by omega), d3]
        · rw [iI, if_neg (by omega), iI, if_neg (by omega), d4]
        · rw [iI, if_neg (by omega), iI, if_neg (by omega), d5]
        · rw [iI, if_neg (by omega), iI, if_neg (by omega), d6]
        · rw [iI, if_neg (by omega), iI, if_neg (by omega), d7]
        · intro k hk
          by_cases e : k = i
          · subst e
            generalize (if so = 0 then jB w else if so = 1 then jS w else w) = vv
            rw [iI, if_neg (by omega), iI, if_pos ⟨rfl, rfl⟩, iI, if_pos ⟨rfl, rfl⟩]
          · rw [iI, if_neg (by omega), iI, if_neg (by omega), iI, if_neg (by omega), iI, if_neg (by omega)]
            exact d8 k hk

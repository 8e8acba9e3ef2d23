/-! the reference's atoms, and the whole of a side -/
section P73
variable {h : xH} {B : Nat → Nat} {t z p d : Nat} {nm : Nat → Int32} {R0 R1 : Nat → xH → Option (Int32 × xH)} {R : Nat → Nat → Rs}
theorem isW_0 (M : MSt B t z nm d p h) : f_Mo_isWord 36 (111 : Int32) (110 : Int32) (101 : Int32) (0 : Int32) (0 : Int32) (0 : Int32) (0 : Int32) (0 : Int32) h = some (b2i (tk B z p == 256), h) := isWord_e M (w := 0) (by decide)
theorem isW_1 (M : MSt B t z nm d p h) : f_Mo_isWord 36 (111 : Int32) (116 : Int32) (104 : Int32) (101 : Int32) (114 : Int32) (0 : Int32) (0 : Int32) (0 : Int32) h = some (b2i (tk B z p == 257), h) := isWord_e M (w := 1) (by decide)
theorem isW_2 (M : MSt B t z nm d p h) : f_Mo_isWord 36 (116 : Int32) (104 : Int32) (105 : Int32) (114 : Int32) (100 : Int32) (0 : Int32) (0 : Int32) (0 : Int32) h = some (b2i (tk B z p == 258), h) := isWord_e M (w := 2) (by decide)
theorem isW_3 (M : MSt B t z nm d p h) : f_Mo_isWord 36 (107 : Int32) (110 : Int32) (111 : Int32) (119 : Int32) (0 : Int32) (0 : Int32) (0 : Int32) (0 : Int32) h = some (b2i (tk B z p == 259), h) := isWord_e M (w := 3) (by decide)
theorem isW_4 (M : MSt B t z nm d p h) : f_Mo_isWord 36 (115 : Int32) (101 : Int32) (101 : Int32) (110 : Int32) (0 : Int32) (0 : Int32) (0 : Int32) (0 : Int32) h = some (b2i (tk B z p == 260), h) := isWord_e M (w := 4) (by decide)
theorem isW_5 (M : MSt B t z nm d p h) : f_Mo_isWord 36 (109 : Int32) (97 : Int32) (110 : Int32) (121 : Int32) (0 : Int32) (0 : Int32) (0 : Int32) (0 : Int32) h = some (b2i (tk B z p == 261), h) := isWord_e M (w := 5) (by decide)
theorem isW_6 (M : MSt B t z nm d p h) : f_Mo_isWord 36 (99 : Int32) (111 : Int32) (117 : Int32) (110 : Int32) (116 : Int32) (115 : Int32) (0 : Int32) (0 : Int32) h = some (b2i (tk B z p == 262), h) := isWord_e M (w := 6) (by decide)
theorem isW_7 (M : MSt B t z nm d p h) : f_Mo_isWord 36 (99 : Int32) (111 : Int32) (115 : Int32) (116 : Int32) (115 : Int32) (0 : Int32) (0 : Int32) (0 : Int32) h = some (b2i (tk B z p == 263), h) := isWord_e M (w := 7) (by decide)
theorem isW_8 (M : MSt B t z nm d p h) : f_Mo_isWord 36 (106 : Int32) (111 : Int32) (121 : Int32) (0 : Int32) (0 : Int32) (0 : Int32) (0 : Int32) (0 : Int32) h = some (b2i (tk B z p == 264), h) := isWord_e M (w := 8) (by decide)
theorem bqf {x c : Nat} (h : x ≠ c) : b2i (x == c) = 0 := by rw [beq_eq_false_iff_ne.mpr h]; rfl
theorem bqt {x c : Nat} (h : x = c) : ¬ b2i (x == c) = 0 := by rw [h, beq_self_eq_true]; decide
theorem name_m (M : MSt B t z nm d p h) : if 256 ≤ tk B z p ∧ tk B z p < 262 then f_Mo_name 36 h = some (nm (tk B z p - 256), h) else ∃ h', f_Mo_name 36 h = some (0, h') ∧ MFl (sta B z p) h' ∧ Fs dPar h h' := by
  have s := M.1.1
  have g : hK h 36 = 11 := by simp only [shp s]
  have n := M.2.2.2.2.2
  unfold f_Mo_name
  rw [gd_t g, isW_0 M, bind_s]
  by_cases c0 : tk B z p = 256
  · rw [if_pos (by omega), if_neg (bqt c0), gd_t g, c0, ← n 0 (by decide)]
  rw [if_pos (bqf c0), gd_t g, isW_1 M, bind_s]
  by_cases c1 : tk B z p = 257
  · rw [if_pos (show 256 ≤ tk B z p ∧ tk B z p < 262 by omega), if_neg (bqt c1), gd_t g, c1, ← n 1 (by decide)]
  rw [if_pos (bqf c1), gd_t g, isW_2 M, bind_s]
  by_cases c2 : tk B z p = 258
  · rw [if_pos (show 256 ≤ tk B z p ∧ tk B z p < 262 by omega), if_neg (bqt c2), gd_t g, c2, ← n 2 (by decide)]
  rw [if_pos (bqf c2), gd_t g, isW_3 M, bind_s]
  by_cases c3 : tk B z p = 259
  · rw [if_pos (show 256 ≤ tk B z p ∧ tk B z p < 262 by omega), if_neg (bqt c3), gd_t g, c3, ← n 3 (by decide)]
  rw [if_pos (bqf c3), gd_t g, isW_4 M, bind_s]
  by_cases c4 : tk B z p = 260
  · rw [if_pos (show 256 ≤ tk B z p ∧ tk B z p < 262 by omega), if_neg (bqt c4), gd_t g, c4, ← n 4 (by decide)]
  rw [if_pos (bqf c4), gd_t g, isW_5 M, bind_s]
  by_cases c5 : tk B z p = 261
  · rw [if_pos (show 256 ≤ tk B z p ∧ tk B z p < 262 by omega), if_neg (bqt c5), gd_t g, c5, ← n 5 (by decide)]
  rw [if_pos (bqf c5), gd_t g, if_neg (show ¬ (256 ≤ tk B z p ∧ tk B z p < 262) by omega)]
  obtain ⟨h', a1, a2, a3⟩ := fail_e M
  exact ⟨h', by rw [a1, bind_s], a2, a3⟩
theorem kd_of {k : Nat} (hk : kd B z p = k) : (k = 2 ↔ tk B z p = 1) ∧ (256 ≤ tk B z p → k = 1) ∧ (sgB (tk B z p) = true → k = 3) ∧ (tk B z p = 0 ↔ k = 0) := by
  rcases kd_c B z p with ⟨a1, a2⟩ | ⟨a1, a2, -⟩ | ⟨a1, a2⟩ | ⟨a1, a2⟩ | ⟨a1, a2⟩
  · refine ⟨by omega, by omega, fun q => ?_, by omega⟩
    rw [a2] at q
    cases q
  · have w : tk B z p = 2 ∨ 256 ≤ tk B z p := by
      rcases wix_c (slc B (sta B z p) (nx B z p)) with q | ⟨w, hw, q⟩ <;> omega
    refine ⟨by omega, by omega, fun q => ?_, by omega⟩
    have := sg_b q
    omega
  · refine ⟨by omega, by omega, fun q => ?_, by omega⟩
    rw [a2] at q
    cases q
  · have := sg_b a2
    exact ⟨by omega, by omega, fun _ => by omega, by omega⟩
  · refine ⟨by omega, by omega, fun q => ?_, by omega⟩
    rw [a2] at q
    cases q
theorem pOn_n (c : tk B z p ≠ 45) : pOn (tk B z) (nx B z) (nv B z) R d p = pPl (tk B z) (nx B z) (nv B z) R d p := by
  cases d with
  | zero => rfl
  | succ d =>
    unfold pOn
    rw [if_neg c]
theorem MR_out {r : Rs} {v : Int32} {h' : xH} {o : Option (Int32 × xH)} (e : o = some (v, h')) (x : Fs dPar h h') (F : MFl (sta B z r.2.1) h') (q : r.1 = false) : MR B t z nm r d h o := ⟨v, h', e, x, Or.inr ⟨q, F⟩⟩
theorem runs_1 (c : Int32) (st : List Int32) : runs nm [c] st = stp nm c st := rfl
theorem stp_nm {w : Nat} (hw : w < 6) (st : List Int32) : stp nm (nI (10000 + w)) st = nm w :: st := by
  have e1 : (10000 : Int32) ≤ nI (10000 + w) := nI_le (a := 10000) (Nat.le_add_right _ _) (by omega)
  have e2 : nI (10000 + w) - (10000 : Int32) = nI w := by
    have := li_sub (a := 10000 + w) (b := 10000) (Nat.le_add_right _ _)
    rw [show 10000 + w - 10000 = w by omega] at this
    exact this
  unfold stp
  rw [if_pos e1, e2, nI_clamp (by omega)]
set_option maxHeartbeats 1000000 in
theorem atom_m (d5 : d ≤ 5) (A : ∀ d', d' + 1 = d → ∀ p h, MSt B t z nm d' p h → MR B t z nm (pOn (tk B z) (nx B z) (nv B z) R d' p) d' h (R0 36 h)) (EI : ∀ d', d' + 1 = d → ∀ p h, MSt B t z nm d' p h → MR B t z nm (R d' p) d' h (f_Mo_either R0 R1 36 h)) (M : MSt B t z nm d p h) : MR B t z nm (pOn (tk B z) (nx B z) (nv B z) R d p) d h (fb_Mo_atom R0 R1 36 h) := by
  have s := M.1.1
  have g : hK h 36 = 11 := by simp only [shp s]
  have kf := kd_of (B := B) (z := z) (p := p) rfl
  have kl := kd_lt (B := B) (z := z) (p := p)
  unfold fb_Mo_atom
  rw [gd_t g, isS45 M, bind_s]
  simp only [jn]
  by_cases c : tk B z p = 45
  · rw [if_neg (bqt c), gd_t g]
    cases d with
    | zero =>
      obtain ⟨h1, a1, a2, a3⟩ := opens_0 M
      rw [a1, bind_s, if_pos rfl]
      refine MR_out rfl a3 ?_ ?_
      · show MFl (sta B z (pPl (tk B z) (nx B z) (nv B z) R 0 p).2.1) h1
        unfold pPl
        rw [if_neg (by omega), if_neg (by omega), if_neg (by omega)]
        exact a2
      · show (pPl (tk B z) (nx B z) (nv B z) R 0 p).1 = false
        unfold pPl
        rw [if_neg (by omega), if_neg (by omega), if_neg (by omega)]
    | succ d =>
      obtain ⟨h1, a1, a2, a3⟩ := opens_e M d5 (tk4 (by omega))
      obtain ⟨v, h2, b1, b2, b3⟩ := A d rfl (nx B z p) h1 a2
      rw [a1, bind_s, if_neg (show ¬ (1 : Int32) = 0 by decide), gd_t (by simp only [shp a2.1.1]), b1, bind_s]
      unfold pOn
      rw [if_pos c]
      have X : Fs dPar h2 (hIu h2 36 25 ((hI h2 36 25) - (1 : Int32))) := (Fs.refl h2).I rfl
      rcases b3 with ⟨q1, M3, ev⟩ | ⟨q1, F3⟩
      · rw [if_pos q1, gd_t (by simp only [shp M3.1.1])]
        exact ⟨-v, hIu h2 36 25 ((hI h2 36 25) - (1 : Int32)), rfl, (a3.trans b2).trans X, Or.inl ⟨rfl, MSt_close M3 d5, fun st => by
          show runs nm ((pOn (tk B z) (nx B z) (nv B z) R d (nx B z p)).2.2 ++ [-9]) st = _
          rw [runs_ap, ev]
          exact (stp_u (nm := nm) v st).2⟩⟩
      · rw [if_neg (by rw [q1]; decide), gd_t (by simp only [shp F3.1])]
        exact ⟨-v, hIu h2 36 25 ((hI h2 36 25) - (1 : Int32)), rfl, (a3.trans b2).trans X, Or.inr ⟨q1, MFl_I F3⟩⟩
  · rw [if_pos (bqf c), gd_t g, isS40 M, bind_s, pOn_n c]
    by_cases c2 : tk B z p = 40
    · rw [if_neg (bqt c2), gd_t g]
      have E0 : pPl (tk B z) (nx B z) (nv B z) R d p = (if 0 < d then (if (R (d - 1) (nx B z p)).1 = true then (if tk B z (R (d - 1) (nx B z p)).2.1 = 41 then (true, nx B z (R (d - 1) (nx B z p)).2.1, (R (d - 1) (nx B z p)).2.2) else (false, (R (d - 1) (nx B z p)).2.1, [])) else R (d - 1) (nx B z p)) else (false, p, [])) := by
        unfold pPl
        rw [if_neg (by omega), if_neg (by omega)]
        by_cases q : 0 < d
        · rw [if_pos ⟨c2, q⟩, if_pos q]
        · rw [if_neg (fun z => q z.2), if_neg q]
      rw [E0]
      cases d with
      | zero =>
        obtain ⟨h1, a1, a2, a3⟩ := opens_0 M
        rw [a1, bind_s, if_pos rfl, if_neg (Nat.lt_irrefl 0)]
        exact MR_out rfl a3 a2 rfl
      | succ d =>
        obtain ⟨h1, a1, a2, a3⟩ := opens_e M d5 (tk4 (by omega))
        obtain ⟨v, h2, b1, b2, b3⟩ := EI d rfl (nx B z p) h1 a2
        rw [a1, bind_s, if_neg (show ¬ (1 : Int32) = 0 by decide), gd_t (by simp only [shp a2.1.1]), b1, bind_s, if_pos (Nat.succ_pos d), Nat.add_sub_cancel]
        have X : ∀ u, Fs dPar u (hIu u 36 25 ((hI u 36 25) - (1 : Int32))) := fun u => (Fs.refl u).I rfl
        rcases b3 with ⟨q1, M3, ev⟩ | ⟨q1, F3⟩
        · rw [if_pos q1, gd_t (by simp only [shp M3.1.1]), isS41 M3, bind_s]
          by_cases c4 : tk B z (R d (nx B z p)).2.1 = 41
          · rw [if_pos c4, if_neg (bqt c4), gd_t (by simp only [shp M3.1.1])]
            have M4 := MSt_close M3 d5
            obtain ⟨h5, f1, f2, f3⟩ := next_m M4 (tk4 (by omega))
            rw [if_pos M4.2.2.2.1, f1, bind_s]
            exact ⟨v, h5, rfl, ((a3.trans b2).trans (X h2)).trans f3, Or.inl ⟨rfl, f2, ev⟩⟩
          · rw [if_neg c4, if_pos (bqf c4), gd_t (by simp only [shp M3.1.1])]
            obtain ⟨h5, f1, f2, f3⟩ := fail_e M3
            have F6 := MFl_I (v := (hI h5 36 25) - (1 : Int32)) f2
            rw [f1, bind_s, gd_t (by simp only [shp f2.1]), if_neg (by rw [F6.2.2.1]; decide)]
            exact MR_out rfl (((a3.trans b2).trans f3).trans (X h5)) F6 rfl
        · have F6 := MFl_I (v := (hI h2 36 25) - (1 : Int32)) F3
          rw [if_neg (by rw [q1]; decide), gd_t (by simp only [shp F3.1]), isSign_f F3.1 F3.2.2.1, bind_s, if_pos rfl, gd_t (by simp only [shp F3.1]), fail_f F3.1 F3.2.2.1, bind_s, gd_t (by simp only [shp F3.1]), if_neg (by rw [F6.2.2.1]; decide)]
          exact MR_out rfl ((a3.trans b2).trans (X h2)) F6 q1
    · rw [if_pos (bqf c2), gd_t g]
      have F0 := M.2.2.2.1
      have K := M.2.1.2.2.1
      rw [if_pos F0, K]
      by_cases c3 : tk B z p = 1
      · have k2 := kf.1.mpr c3
        rw [if_pos (show nI (kd B z p) = (2 : Int32) by rw [k2]; rfl)]
        obtain ⟨h1, a1, a2, a3⟩ := next_m M (by omega)
        rw [a1, bind_s, M.2.1.2.2.2.1 k2, Int32.toInt32_toInt64]
        unfold pPl
        rw [if_pos c3]
        refine ⟨nI (nv B z p), h1, rfl, a3, Or.inl ⟨rfl, a2, fun st => ?_⟩⟩
        have nl := nv_le c3
        show stp nm (nI (nv B z p)) st = _
        unfold stp
        rw [if_neg (show ¬ (10000 : Int32) ≤ nI (nv B z p) from nI_ge (b := 10000) nl (by decide)), if_pos (show (0 : Int32) ≤ nI (nv B z p) from nI_le (a := 0) (Nat.zero_le _) (by omega))]
      · rw [if_neg (show ¬ nI (kd B z p) = (2 : Int32) from fun q => c3 (kf.1.mp ((nI_eq (b := 2) (by omega) (by decide)).mp q))), if_pos F0]
        have N := name_m M
        unfold pPl
        rw [if_neg c3, if_neg (show ¬ (tk B z p = 40 ∧ 0 < d) from fun q => c2 q.1)]
        by_cases c5 : 256 ≤ tk B z p ∧ tk B z p < 262
        · rw [if_pos c5] at N
          have k1 := kf.2.1 c5.1
          rw [if_pos c5, if_pos (show nI (kd B z p) = (1 : Int32) by rw [k1]; rfl), N, bind_s, gd_t g, if_pos F0]
          obtain ⟨h1, a1, a2, a3⟩ := next_m M (by omega)
          rw [a1, bind_s]
          refine ⟨nm (tk B z p - 256), h1, rfl, a3, Or.inl ⟨rfl, a2, fun st => ?_⟩⟩
          exact (runs_1 (nI (10000 + (tk B z p - 256))) st).trans (stp_nm (w := tk B z p - 256) (by omega) st)
        · rw [if_neg c5] at N
          rw [if_neg c5]
          by_cases k1 : kd B z p = 1
          · obtain ⟨h1, a1, a2, a3⟩ := N
            rw [if_pos (show nI (kd B z p) = (1 : Int32) by rw [k1]; rfl), a1, bind_s, gd_t (by simp only [shp a2.1]), if_neg (by rw [a2.2.2.1]; decide)]
            exact MR_out rfl a3 a2 rfl
          · rw [if_neg (show ¬ nI (kd B z p) = (1 : Int32) from fun q => k1 ((nI_eq (b := 1) (by omega) (by decide)).mp q))]
            obtain ⟨h1, a1, a2, a3⟩ := fail_e M
            rw [a1, bind_s]
            exact MR_out rfl a3 a2 rfl
theorem eith_m (PR : ∀ d', d' < d → Pp z (5 * d' + 6) (R d')) (N : ∀ p h, MSt B t z nm d p h → MR B t z nm (pNt (tk B z) (nx B z) (nv B z) R d p) d h (R1 36 h)) (M : MSt B t z nm d p h) : MR B t z nm (pEi (tk B z) (nx B z) (nv B z) R d p) d h (f_Mo_either R0 R1 36 h) := either_m (pBo_p (Tk_of B z) PR) (fun p h M => both_m (pNt_p (Tk_of B z) PR) N M) M
theorem G_Mo_m : ∀ (gm d g : Nat), d ≤ 5 → d ≤ g → (2 * d + 1 ≤ gm → ∀ p h, MSt B t z nm d p h → MR B t z nm (pOn (tk B z) (nx B z) (nv B z) (pG (tk B z) (nx B z) (nv B z) g) d p) d h ((G_Mo gm).1 36 h)) ∧ (2 * d + 2 ≤ gm → ∀ p h, MSt B t z nm d p h → MR B t z nm (pNt (tk B z) (nx B z) (nv B z) (pG (tk B z) (nx B z) (nv B z) g) d p) d h ((G_Mo gm).2 36 h)) := by
  intro gm
  induction gm with
  | zero => intro d g _ _; exact ⟨fun q => by omega, fun q => by omega⟩
  | succ gm ih =>
    intro d g d5 dg
    have PR : ∀ d', d' < d → Pp z (5 * d' + 6) (pG (tk B z) (nx B z) (nv B z) g d') := fun d' q => pG_p (Tk_of B z) g d' (by omega)
    refine ⟨fun q p h M => ?_, fun q p h M => ?_⟩
    · refine atom_m d5 (fun d' e p h M => (ih d' g (by omega) (by omega)).1 (by omega) p h M) (fun d' e p h M => ?_) M
      obtain ⟨g, rfl⟩ : ∃ k, g = k + 1 := ⟨g - 1, by omega⟩
      exact eith_m (fun d2 q2 => pG_p (Tk_of B z) g d2 (by omega)) (fun p h M => (ih d' g (by omega) (by omega)).2 (by omega) p h M) M
    · refine not_m d5 (fun p h M => ?_) (fun d' e p h M => (ih d' g (by omega) (by omega)).2 (by omega) p h M) M
      exact added_m (pTm_p (Tk_of B z) PR) (fun p h M => term_m (pOn_p (Tk_of B z) PR) (fun p h M => (ih d g d5 dg).1 (by omega) p h M) M) M
theorem top_m (M : MSt B t z nm 5 p h) : MR B t z nm (pG (tk B z) (nx B z) (nv B z) 24 5 p) 5 h (fo_Mo_either 36 h) := eith_m (R := pG (tk B z) (nx B z) (nv B z) 23) (fun d2 q2 => pG_p (Tk_of B z) 23 d2 (by omega)) (fun p h M => (G_Mo_m 24 5 23 (by decide) (by decide)).2 (by decide) p h M) M
end P73

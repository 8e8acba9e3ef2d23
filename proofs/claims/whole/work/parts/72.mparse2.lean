/-! the reference's reading, level by level -/
section P72
variable {h : xH} {B : Nat → Nat} {t z p d : Nat} {nm : Nat → Int32} {R0 R1 : Nat → xH → Option (Int32 × xH)} {R : Nat → Nat → Rs}
theorem isW_or (M : MSt B t z nm d p h) : f_Mo_isWord 36 (111 : Int32) (114 : Int32) (0 : Int32) (0 : Int32) (0 : Int32) (0 : Int32) (0 : Int32) (0 : Int32) h = some (b2i (tk B z p == 265), h) := isWord_e M (w := 9) (by decide)
theorem isW_and (M : MSt B t z nm d p h) : f_Mo_isWord 36 (97 : Int32) (110 : Int32) (100 : Int32) (0 : Int32) (0 : Int32) (0 : Int32) (0 : Int32) (0 : Int32) h = some (b2i (tk B z p == 266), h) := isWord_e M (w := 10) (by decide)
theorem isW_not (M : MSt B t z nm d p h) : f_Mo_isWord 36 (110 : Int32) (111 : Int32) (116 : Int32) (0 : Int32) (0 : Int32) (0 : Int32) (0 : Int32) (0 : Int32) h = some (b2i (tk B z p == 267), h) := isWord_e M (w := 11) (by decide)
theorem isS40 (M : MSt B t z nm d p h) : f_Mo_isSign 36 (40 : Int32) h = some (b2i (tk B z p == 40), h) := isSign_e M (c := 40) (by decide)
theorem isS41 (M : MSt B t z nm d p h) : f_Mo_isSign 36 (41 : Int32) h = some (b2i (tk B z p == 41), h) := isSign_e M (c := 41) (by decide)
theorem isS42 (M : MSt B t z nm d p h) : f_Mo_isSign 36 (42 : Int32) h = some (b2i (tk B z p == 42), h) := isSign_e M (c := 42) (by decide)
theorem isS43 (M : MSt B t z nm d p h) : f_Mo_isSign 36 (43 : Int32) h = some (b2i (tk B z p == 43), h) := isSign_e M (c := 43) (by decide)
theorem isS45 (M : MSt B t z nm d p h) : f_Mo_isSign 36 (45 : Int32) h = some (b2i (tk B z p == 45), h) := isSign_e M (c := 45) (by decide)
theorem isS59 (M : MSt B t z nm d p h) : f_Mo_isSign 36 (59 : Int32) h = some (b2i (tk B z p == 59), h) := isSign_e M (c := 59) (by decide)
theorem isS60 (M : MSt B t z nm d p h) : f_Mo_isSign 36 (60 : Int32) h = some (b2i (tk B z p == 60), h) := isSign_e M (c := 60) (by decide)
theorem isS61 (M : MSt B t z nm d p h) : f_Mo_isSign 36 (61 : Int32) h = some (b2i (tk B z p == 61), h) := isSign_e M (c := 61) (by decide)
theorem tk4 (t0 : tk B z p ≠ 2) : kd B z p ≠ 4 := fun q => by
  rcases kd_c B z p with ⟨a1, a2⟩ | ⟨a1, a2, -⟩ | ⟨a1, a2⟩ | ⟨a1, a2⟩ | ⟨a1, a2⟩ <;> omega
theorem stp_b (c v v2 : Int32) (st : List Int32) : stp nm (-3) (v2 :: v :: st) = (v * v2) :: st ∧ stp nm (-1) (v2 :: v :: st) = (v + v2) :: st ∧ stp nm (-2) (v2 :: v :: st) = (v - v2) :: st ∧ stp nm (-7) (v2 :: v :: st) = (if v = 0 then 0 else if v2 = 0 then 0 else 1) :: st ∧ stp nm (-6) (v2 :: v :: st) = (if v = 0 then (if v2 = 0 then 0 else 1) else 1) :: st ∧ stp nm (-4) (v2 :: v :: st) = (if v2 ≤ v then 0 else 1) :: st ∧ stp nm (-5) (v2 :: v :: st) = (if v = v2 then 1 else 0) :: st := ⟨rfl, rfl, rfl, rfl, rfl, rfl, rfl⟩
theorem stp_u (v : Int32) (st : List Int32) : stp nm (-8) (v :: st) = (if v = 0 then 1 else 0) :: st ∧ stp nm (-9) (v :: st) = (-v) :: st := ⟨rfl, rfl⟩
theorem term_m (W : Pp z (5 * d + 1) (pOn (tk B z) (nx B z) (nv B z) R d)) (A : ∀ p h, MSt B t z nm d p h → MR B t z nm (pOn (tk B z) (nx B z) (nv B z) R d p) d h (R0 36 h)) (M : MSt B t z nm d p h) : MR B t z nm (pTm (tk B z) (nx B z) (nv B z) R d p) d h (f_Mo_term R0 R1 36 h) := by
  unfold f_Mo_term pTm
  rw [gd_t (by simp only [shp M.1.1])]
  refine seq_m (L := fun n v h => f_Mo_term_L5 R0 R1 36 n v h (fun v18 h19 => some (v18, h19))) W (by decide) (by decide) ?_ ?_ ?_ A M
  · intro n p v h M e
    have ne : tk B z p ≠ 42 := fun q => by rw [q] at e; cases e
    rw [f_Mo_term_L5, gd_t (by simp only [shp M.1.1]), isS42 M, bind_s, beq_eq_false_iff_ne.mpr ne, if_pos (show b2i false = 0 from rfl)]
  · intro n v h s e
    rw [f_Mo_term_L5, gd_t (by simp only [shp s]), isSign_f s e, bind_s, if_pos rfl]
  · intro n p v v2 c h h1 h2 M e a1 s1 f s2
    have ec : tk B z p = 42 ∧ c = -3 := by
      unfold opM at e
      split at e
      · rename_i q
        injection e with e
        exact ⟨q, e.symm⟩
      · cases e
    refine ⟨v * v2, ?_, fun st => by rw [ec.2]; exact (stp_b (nm := nm) 0 v v2 st).1⟩
    show f_Mo_term_L5 R0 R1 36 (n + 1) v h _ = _
    rw [f_Mo_term_L5, gd_t (by simp only [shp M.1.1]), isS42 M, bind_s, ec.1, beq_self_eq_true, if_neg (show ¬ b2i true = 0 by decide), gd_t (by simp only [shp M.1.1]), a1, bind_s, gd_t (by simp only [shp s1]), f, bind_s]
theorem MSt_24 (M : MSt B t z nm d p h) {c : Nat} (hc : sgB c = true) (e : tk B z p = c) : hI h 36 24 = nI c := by
  have k : kd B z p = 3 := by
    have b := sg_b hc
    rcases kd_c B z p with ⟨a1, a2⟩ | ⟨a1, a2, -⟩ | ⟨a1, a2⟩ | ⟨a1, a2⟩ | ⟨a1, a2⟩
    · omega
    · rcases wix_c (slc B (sta B z p) (nx B z p)) with q | ⟨w, hw, q⟩ <;> omega
    · omega
    · exact a1
    · omega
  rw [M.2.1.2.2.2.2 k, e]
theorem added_m (W : Pp z (5 * d + 2) (pTm (tk B z) (nx B z) (nv B z) R d)) (A : ∀ p h, MSt B t z nm d p h → MR B t z nm (pTm (tk B z) (nx B z) (nv B z) R d p) d h (f_Mo_term R0 R1 36 h)) (M : MSt B t z nm d p h) : MR B t z nm (pSm (tk B z) (nx B z) (nv B z) R d p) d h (f_Mo_added R0 R1 36 h) := by
  unfold f_Mo_added pSm
  rw [gd_t (by simp only [shp M.1.1])]
  refine seq_m (L := fun n v h => f_Mo_added_L5 R0 R1 36 n v h (fun v29 h30 => some (v29, h30))) W (by decide) (by decide) ?_ ?_ ?_ A M
  · intro n p v h M e
    have n1 : tk B z p ≠ 43 := fun q => by rw [q] at e; cases e
    have n2 : tk B z p ≠ 45 := fun q => by rw [q] at e; cases e
    rw [f_Mo_added_L5, gd_t (by simp only [shp M.1.1]), isS43 M, bind_s, beq_eq_false_iff_ne.mpr n1]
    simp only [jn]
    rw [if_pos (show b2i false = 0 from rfl), gd_t (by simp only [shp M.1.1]), isS45 M, bind_s, beq_eq_false_iff_ne.mpr n2, if_pos (show b2i false = 0 from rfl)]
  · intro n v h s e
    rw [f_Mo_added_L5, gd_t (by simp only [shp s]), isSign_f s e, bind_s]
    simp only [jn]
    rw [if_pos trivial, gd_t (by simp only [shp s]), isSign_f s e, bind_s, if_pos rfl]
  · intro n p v v2 c h h1 h2 M e a1 s1 f s2
    have E : ∀ (x : Int32), hI h 36 24 = nI x.toNatClampNeg → True := fun _ _ => trivial
    rcases opS_c e with ⟨e1, e2⟩ | ⟨e1, e2⟩
    · refine ⟨v + v2, ?_, fun st => by rw [e2]; exact (stp_b (nm := nm) 0 v v2 st).2.1⟩
      show f_Mo_added_L5 R0 R1 36 (n + 1) v h _ = _
      rw [f_Mo_added_L5, gd_t (by simp only [shp M.1.1]), isS43 M, bind_s, e1, beq_self_eq_true]
      simp only [jn]
      rw [if_neg (show ¬ b2i true = 0 by decide), gd_t (by simp only [shp M.1.1]), a1, bind_s, gd_t (by simp only [shp s1]), f, bind_s, MSt_24 M (c := 43) (by decide) e1, show (43 : Int64) = (nI 43).toInt64 by decide, if_pos (show jCmpL (nI 43).toInt64 (nI 43).toInt64 = 0 by rw [jC0]), if_neg (show ¬ (1 : Int32) = 0 by decide)]
    · refine ⟨v - v2, ?_, fun st => by rw [e2]; exact (stp_b (nm := nm) 0 v v2 st).2.2.1⟩
      show f_Mo_added_L5 R0 R1 36 (n + 1) v h _ = _
      rw [f_Mo_added_L5, gd_t (by simp only [shp M.1.1]), isS43 M, bind_s, e1]
      simp only [jn]
      rw [if_pos (show b2i (45 == 43) = 0 from rfl), gd_t (by simp only [shp M.1.1]), isS45 M, bind_s, e1, if_neg (show ¬ b2i (45 == 45) = 0 by decide), gd_t (by simp only [shp M.1.1]), a1, bind_s, gd_t (by simp only [shp s1]), f, bind_s, MSt_24 M (c := 45) (by decide) e1, show (43 : Int64) = (nI 43).toInt64 by decide, if_neg (show ¬ jCmpL (nI 45).toInt64 (nI 43).toInt64 = 0 by rw [jC0]; decide), if_pos (rfl : (0 : Int32) = 0)]
theorem both_m (W : Pp z (5 * d + 4) (pNt (tk B z) (nx B z) (nv B z) R d)) (A : ∀ p h, MSt B t z nm d p h → MR B t z nm (pNt (tk B z) (nx B z) (nv B z) R d p) d h (R1 36 h)) (M : MSt B t z nm d p h) : MR B t z nm (pBo (tk B z) (nx B z) (nv B z) R d p) d h (f_Mo_both R0 R1 36 h) := by
  unfold f_Mo_both pBo
  rw [gd_t (by simp only [shp M.1.1])]
  refine seq_m (L := fun n v h => f_Mo_both_L5 R0 R1 36 n v h (fun v24 h25 => some (v24, h25))) W (by decide) (by decide) ?_ ?_ ?_ A M
  · intro n p v h M e
    have ne : tk B z p ≠ 266 := fun q => by rw [q] at e; cases e
    rw [f_Mo_both_L5, gd_t (by simp only [shp M.1.1]), isW_and M, bind_s, beq_eq_false_iff_ne.mpr ne, if_pos (show b2i false = 0 from rfl)]
  · intro n v h s e
    rw [f_Mo_both_L5, gd_t (by simp only [shp s]), isWord_f s e, bind_s, if_pos rfl]
  · intro n p v v2 c h h1 h2 M e a1 s1 f s2
    have ec : tk B z p = 266 ∧ c = -7 := by
      unfold opA at e
      split at e
      · rename_i q
        injection e with e
        exact ⟨q, e.symm⟩
      · cases e
    refine ⟨if v = 0 then 0 else if v2 = 0 then 0 else 1, ?_, fun st => by rw [ec.2]; exact (stp_b (nm := nm) 0 v v2 st).2.2.2.1⟩
    show f_Mo_both_L5 R0 R1 36 (n + 1) v h _ = _
    rw [f_Mo_both_L5, gd_t (by simp only [shp M.1.1]), isW_and M, bind_s, ec.1, beq_self_eq_true, if_neg (show ¬ b2i true = 0 by decide), gd_t (by simp only [shp M.1.1]), a1, bind_s, gd_t (by simp only [shp s1]), f, bind_s]
    simp only [jn]
    split
    · rfl
    · split
      · rfl
      · rfl
theorem either_m (W : Pp z (5 * d + 5) (pBo (tk B z) (nx B z) (nv B z) R d)) (A : ∀ p h, MSt B t z nm d p h → MR B t z nm (pBo (tk B z) (nx B z) (nv B z) R d p) d h (f_Mo_both R0 R1 36 h)) (M : MSt B t z nm d p h) : MR B t z nm (pEi (tk B z) (nx B z) (nv B z) R d p) d h (f_Mo_either R0 R1 36 h) := by
  unfold f_Mo_either pEi
  rw [gd_t (by simp only [shp M.1.1])]
  refine seq_m (L := fun n v h => f_Mo_either_L5 R0 R1 36 n v h (fun v24 h25 => some (v24, h25))) W (by decide) (by decide) ?_ ?_ ?_ A M
  · intro n p v h M e
    have ne : tk B z p ≠ 265 := fun q => by rw [q] at e; cases e
    rw [f_Mo_either_L5, gd_t (by simp only [shp M.1.1]), isW_or M, bind_s, beq_eq_false_iff_ne.mpr ne, if_pos (show b2i false = 0 from rfl)]
  · intro n v h s e
    rw [f_Mo_either_L5, gd_t (by simp only [shp s]), isWord_f s e, bind_s, if_pos rfl]
  · intro n p v v2 c h h1 h2 M e a1 s1 f s2
    have ec : tk B z p = 265 ∧ c = -6 := by
      unfold opO at e
      split at e
      · rename_i q
        injection e with e
        exact ⟨q, e.symm⟩
      · cases e
    refine ⟨if v = 0 then (if v2 = 0 then 0 else 1) else 1, ?_, fun st => by rw [ec.2]; exact (stp_b (nm := nm) 0 v v2 st).2.2.2.2.1⟩
    show f_Mo_either_L5 R0 R1 36 (n + 1) v h _ = _
    rw [f_Mo_either_L5, gd_t (by simp only [shp M.1.1]), isW_or M, bind_s, ec.1, beq_self_eq_true, if_neg (show ¬ b2i true = 0 by decide), gd_t (by simp only [shp M.1.1]), a1, bind_s, gd_t (by simp only [shp s1]), f, bind_s]
    simp only [jn]
    split
    · split
      · rfl
      · rfl
    · rfl
/-- what is opened is closed -/
theorem MSt_close (M : MSt B t z nm d p h) (hd : d + 1 ≤ 5) : MSt B t z nm (d + 1) p (hIu h 36 25 ((hI h 36 25) - (1 : Int32))) := by
  refine MSt_fr (D := fun p k => !(decide (p = 36) && decide (k = 25))) (h' := hIu h 36 25 ((hI h 36 25) - (1 : Int32))) (d' := d + 1) M M.1.1 ((Fs.refl h).I rfl) (fun k a b => by simp; omega) (fun k => rfl) (by rw [iI, if_neg (by omega)]; exact M.2.2.2.1) ?_
  rw [iI, if_pos ⟨rfl, rfl⟩, M.2.2.2.2.1, show (1 : Int32) = nI 1 from rfl, li_sub (by omega), show 5 - d - 1 = 5 - (d + 1) by omega]
theorem MFl_I {s : Nat} (F : MFl s h) {v : Int32} : MFl s (hIu h 36 25 v) := ⟨F.1, F.2.1, by rw [iI, if_neg (by omega)]; exact F.2.2.1, by rw [iI, if_neg (by omega)]; exact F.2.2.2⟩
theorem added_pp (PR : ∀ d', d' < d → Pp z (5 * d' + 6) (R d')) : Pp z (5 * d + 3) (pSm (tk B z) (nx B z) (nv B z) R d) := pSm_p (Tk_of B z) PR
/-- a comparison -/
theorem cmp_m (A : ∀ p h, MSt B t z nm d p h → MR B t z nm (pSm (tk B z) (nx B z) (nv B z) R d p) d h (f_Mo_added R0 R1 36 h)) (M : MSt B t z nm d p h) : MR B t z nm (pCm (tk B z) (nx B z) (nv B z) R d p) d h (Option.bind (f_Mo_added R0 R1 36 h) (fun q21 => gd (hK q21.2 36 = 11) (Option.bind (f_Mo_isSign 36 (60 : Int32) q21.2) (fun q23 => jn (fun (x25 : xH) => gd (hK x25 36 = 11) (Option.bind (f_Mo_next 36 x25) (fun q30 => gd (hK q30.2 36 = 11) (Option.bind (f_Mo_added R0 R1 36 q30.2) (fun q31 => jn (fun (x33 : Int32) => some (x33, q31.2)) (fun k34 => jn (fun (x35 : Unit) => k34 (1 : Int32)) (fun k36 => jn (fun (x37 : Unit) => k34 (0 : Int32)) (fun k38 => if (if (jCmpL ((hI x25 36 24).toInt64) (60 : Int64)) = 0 then (1 : Int32) else (0 : Int32)) = 0 then if q21.1 = q31.1 then k36 () else k38 () else if q31.1 ≤ q21.1 then k38 () else k36 ())))))))) (fun k26 => if q23.1 = 0 then gd (hK q23.2 36 = 11) (Option.bind (f_Mo_isSign 36 (61 : Int32) q23.2) (fun q43 => if q43.1 = 0 then some (q21.1, q43.2) else k26 q43.2)) else k26 q23.2))))) := by
  unfold pCm
  generalize hs : pSm (tk B z) (nx B z) (nv B z) R d = sub at *
  obtain ⟨v, h1, a1, a2, a3⟩ := A p h M
  rw [a1, bind_s]
  simp only [jn]
  rcases a3 with ⟨r1, M2, ev⟩ | ⟨r1, F2⟩
  · rw [if_pos r1, gd_t (by simp only [shp M2.1.1]), isS60 M2, bind_s]
    by_cases c : tk B z (sub p).2.1 = 60 ∨ tk B z (sub p).2.1 = 61
    · rw [if_pos c]
      obtain ⟨h2, b1, b2, b3⟩ := next_m M2 (tk4 (by omega))
      obtain ⟨v2, h3, e1, e2, e3⟩ := A (nx B z (sub p).2.1) h2 b2
      have s2 := b2.1.1
      rcases c with c | c
      · rw [c, beq_self_eq_true, if_neg (show ¬ b2i true = 0 by decide), gd_t (by simp only [shp M2.1.1]), b1, bind_s, gd_t (by simp only [shp s2]), e1, bind_s, MSt_24 M2 (c := 60) (by decide) c, show (60 : Int64) = (nI 60).toInt64 by decide, if_pos (show jCmpL (nI 60).toInt64 (nI 60).toInt64 = 0 by rw [jC0]), if_neg (show ¬ (1 : Int32) = 0 by decide)]
        refine ⟨if v2 ≤ v then 0 else 1, h3, ?_, (a2.trans b3).trans e2, ?_⟩
        · split
          · rfl
          · rfl
        · rcases e3 with ⟨q1, M3, ev2⟩ | ⟨q1, F3⟩
          · rw [if_pos q1]
            exact Or.inl ⟨rfl, M3, fun st => by
              show runs nm ((sub p).2.2 ++ (sub (nx B z (sub p).2.1)).2.2 ++ [if 60 = 60 then -4 else -5]) st = _
              rw [runs_ap, runs_ap, ev, ev2, if_pos rfl]
              exact (stp_b (nm := nm) 0 v v2 st).2.2.2.2.2.1⟩
          · rw [if_neg (by rw [q1]; decide)]
            exact Or.inr ⟨q1, F3⟩
      · rw [c, if_pos (show b2i (61 == 60) = 0 from rfl), gd_t (by simp only [shp M2.1.1]), isS61 M2, bind_s, c, if_neg (show ¬ b2i (61 == 61) = 0 by decide), gd_t (by simp only [shp M2.1.1]), b1, bind_s, gd_t (by simp only [shp s2]), e1, bind_s, MSt_24 M2 (c := 61) (by decide) c, show (60 : Int64) = (nI 60).toInt64 by decide, if_neg (show ¬ jCmpL (nI 61).toInt64 (nI 60).toInt64 = 0 by rw [jC0]; decide), if_pos (rfl : (0 : Int32) = 0)]
        refine ⟨if v = v2 then 1 else 0, h3, ?_, (a2.trans b3).trans e2, ?_⟩
        · split
          · rfl
          · rfl
        · rcases e3 with ⟨q1, M3, ev2⟩ | ⟨q1, F3⟩
          · rw [if_pos q1]
            exact Or.inl ⟨rfl, M3, fun st => by
              show runs nm ((sub p).2.2 ++ (sub (nx B z (sub p).2.1)).2.2 ++ [if 61 = 60 then -4 else -5]) st = _
              rw [runs_ap, runs_ap, ev, ev2, if_neg (by decide)]
              exact (stp_b (nm := nm) 0 v v2 st).2.2.2.2.2.2⟩
          · rw [if_neg (by rw [q1]; decide)]
            exact Or.inr ⟨q1, F3⟩
    · rw [if_neg c, beq_eq_false_iff_ne.mpr (fun q => c (Or.inl q)), if_pos (show b2i false = 0 from rfl), gd_t (by simp only [shp M2.1.1]), isS61 M2, bind_s, beq_eq_false_iff_ne.mpr (fun q => c (Or.inr q)), if_pos (show b2i false = 0 from rfl)]
      exact ⟨v, h1, rfl, a2, Or.inl ⟨r1, M2, ev⟩⟩
  · rw [if_neg (by rw [r1]; decide), gd_t (by simp only [shp F2.1]), isSign_f F2.1 F2.2.2.1, bind_s, if_pos rfl, gd_t (by simp only [shp F2.1]), isSign_f F2.1 F2.2.2.1, bind_s, if_pos rfl]
    exact ⟨v, h1, rfl, a2, Or.inr ⟨r1, F2⟩⟩
theorem not_m (d5 : d ≤ 5) (A : ∀ p h, MSt B t z nm d p h → MR B t z nm (pSm (tk B z) (nx B z) (nv B z) R d p) d h (f_Mo_added R0 R1 36 h)) (N : ∀ d', d' + 1 = d → ∀ p h, MSt B t z nm d' p h → MR B t z nm (pNt (tk B z) (nx B z) (nv B z) R d' p) d' h (R1 36 h)) (M : MSt B t z nm d p h) : MR B t z nm (pNt (tk B z) (nx B z) (nv B z) R d p) d h (fb_Mo_not R0 R1 36 h) := by
  have s := M.1.1
  unfold fb_Mo_not
  rw [gd_t (by simp only [shp s]), isW_not M, bind_s]
  by_cases c : tk B z p = 267
  · rw [c, beq_self_eq_true, if_neg (show ¬ b2i true = 0 by decide), gd_t (by simp only [shp s])]
    cases d with
    | zero =>
      obtain ⟨h1, a1, a2, a3⟩ := opens_0 M
      rw [a1, bind_s, if_pos rfl]
      refine ⟨0, h1, rfl, a3, Or.inr ?_⟩
      have E : pNt (tk B z) (nx B z) (nv B z) R 0 p = (false, p, []) := by
        have e1 : pOn (tk B z) (nx B z) (nv B z) R 0 p = (false, p, []) := by
          show pPl (tk B z) (nx B z) (nv B z) R 0 p = _
          unfold pPl
          rw [if_neg (by omega), if_neg (by omega), if_neg (by omega)]
        have e2 : pTm (tk B z) (nx B z) (nv B z) R 0 p = (false, p, []) := by
          unfold pTm sqn
          rw [e1, if_neg Bool.false_ne_true]
        have e3 : pSm (tk B z) (nx B z) (nv B z) R 0 p = (false, p, []) := by
          unfold pSm sqn
          rw [e2, if_neg Bool.false_ne_true]
        show pCm (tk B z) (nx B z) (nv B z) R 0 p = _
        unfold pCm
        rw [e3, if_neg Bool.false_ne_true]
      rw [E]
      exact ⟨rfl, a2⟩
    | succ d =>
      obtain ⟨h1, a1, a2, a3⟩ := opens_e M d5 (tk4 (by omega))
      obtain ⟨v, h2, b1, b2, b3⟩ := N d rfl (nx B z p) h1 a2
      rw [a1, bind_s, if_neg (show ¬ (1 : Int32) = 0 by decide), gd_t (by simp only [shp a2.1.1]), b1, bind_s]
      unfold pNt
      rw [if_pos c]
      have X : Fs dPar h2 (hIu h2 36 25 ((hI h2 36 25) - (1 : Int32))) := (Fs.refl h2).I rfl
      rcases b3 with ⟨q1, M3, ev⟩ | ⟨q1, F3⟩
      · rw [if_pos q1, gd_t (by simp only [shp M3.1.1])]
        exact ⟨if v = 0 then 1 else 0, hIu h2 36 25 ((hI h2 36 25) - (1 : Int32)), rfl, (a3.trans b2).trans X, Or.inl ⟨rfl, MSt_close M3 d5, fun st => by
          show runs nm ((pNt (tk B z) (nx B z) (nv B z) R d (nx B z p)).2.2 ++ [-8]) st = _
          rw [runs_ap, ev]
          exact (stp_u (nm := nm) v st).1⟩⟩
      · rw [if_neg (by rw [q1]; decide), gd_t (by simp only [shp F3.1])]
        exact ⟨if v = 0 then 1 else 0, hIu h2 36 25 ((hI h2 36 25) - (1 : Int32)), rfl, (a3.trans b2).trans X, Or.inr ⟨q1, MFl_I F3⟩⟩
  · rw [beq_eq_false_iff_ne.mpr c, if_pos (show b2i false = 0 from rfl), gd_t (by simp only [shp s])]
    have E : pNt (tk B z) (nx B z) (nv B z) R d p = pCm (tk B z) (nx B z) (nv B z) R d p := by
      cases d with
      | zero => rfl
      | succ d =>
        unfold pNt
        rw [if_neg c]
    rw [E]
    exact cmp_m A M
end P72

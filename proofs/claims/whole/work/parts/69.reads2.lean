/-! the rest of the text's own reading -/
section P69
variable {B : Nat → Nat} {z : Nat} {h : xH} {a b : List Int32} {p : Nat} {R0 : Nat → Int32 → xH → Option (Int32 × xH)} {R : Nat → Nat → Rs} {d : Nat}
theorem readOneF_c (d5 : d ≤ 5) (HR : HR0 B z R0 R d) (PR : ∀ d', d' < d → Pp z (5 * d' + 6) (R d')) (hl : b.length ≤ p) (C : CS0 B z b p h) : CR B z (pOn (tk B z) (nx B z) (nv B z) R d p) b h (f_Re_readOne R0 17 (nI (5 - d)) h) := by
  have X := readOne_c d 0 fu p b h (by omega) (by show d < 2000; omega) HR PR (by omega) C
  rw [wrp_0] at X
  exact X
theorem nI_neq {x y : Nat} (hx : x < 2 ^ 31) (hy : y < 2 ^ 31) (e : x ≠ y) : ¬ nI x = nI y := fun q => e ((nI_eq hx hy).mp q)
theorem CS0_tk (C : CS0 B z a p h) : tk B z p < 2 ^ 31 := by
  have := tk_lt (p := p) (fun i hi => (C.1.2.2.2.2 i hi).2)
  omega
theorem readTerm_c (d5 : d ≤ 5) (HR : HR0 B z R0 R d) (PR : ∀ d', d' < d → Pp z (5 * d' + 6) (R d')) (hl : b.length ≤ p) (C : CS0 B z b p h) : CR B z (pTm (tk B z) (nx B z) (nv B z) R d p) b h (f_Re_readTerm R0 17 (nI (5 - d)) h) := by
  unfold f_Re_readTerm pTm
  rw [gd_t (by simp only [shp C.1.1])]
  refine seq_c (L := fun n i h => f_Re_readTerm_L12 R0 17 (nI (5 - d)) n i h (fun v21 h22 => some ((1 : Int32), h22))) (pOn_p (Tk_of B z) PR) (by decide) ?_ ?_ ?_ (fun p b h hl C => readOneF_c d5 HR PR hl C) hl C
  · intro n i p a h hi' C e
    have ne : tk B z p ≠ 42 := fun q => by rw [q] at e; cases e
    rw [f_Re_readTerm_L12, if_neg (show ¬ (160 : Int32) ≤ nI i from nI_ge (b := 160) hi' (by decide)), gd_t (by simp only [shp C.1.1]), C.2.1.2.2.1, if_neg (show ¬ nI (tk B z p) = (42 : Int32) from nI_neq (y := 42) (CS0_tk C) (by decide) ne)]
  · intro n i p a c h h1 h2 hi' C e a1 s1 f
    have ec : tk B z p = 42 ∧ c = -3 := by
      unfold opM at e
      split at e
      · rename_i q
        injection e with e
        exact ⟨q, e.symm⟩
      · cases e
    rw [f_Re_readTerm_L12, if_neg (show ¬ (160 : Int32) ≤ nI i from nI_ge (b := 160) hi' (by decide)), gd_t (by simp only [shp C.1.1]), C.2.1.2.2.1, ec.1, if_pos (show nI 42 = (42 : Int32) from rfl), a1, bind_s, gd_t (by simp only [shp s1]), f, bind_s, if_pos rfl]
  · intro n i p a c h h1 h2 h3 hi' C e a1 s1 f s2 w
    have ec : tk B z p = 42 ∧ c = -3 := by
      unfold opM at e
      split at e
      · rename_i q
        injection e with e
        exact ⟨q, e.symm⟩
      · cases e
    rw [ec.2] at w
    show f_Re_readTerm_L12 R0 17 (nI (5 - d)) (n + 1) (nI i) h _ = _
    rw [f_Re_readTerm_L12, if_neg (show ¬ (160 : Int32) ≤ nI i from nI_ge (b := 160) hi' (by decide)), gd_t (by simp only [shp C.1.1]), C.2.1.2.2.1, ec.1, if_pos (show nI 42 = (42 : Int32) from rfl), a1, bind_s, gd_t (by simp only [shp s1]), f, bind_s, if_neg (show ¬ (1 : Int32) = 0 by decide), gd_t (by simp only [shp s2]), w, bind_s, nI_1]
theorem opS_c {t : Nat} {c : Int32} (e : opS t = some c) : (t = 43 ∧ c = -1) ∨ (t = 45 ∧ c = -2) := by
  unfold opS at e
  split at e
  · rename_i q
    injection e with e
    exact Or.inl ⟨q, e.symm⟩
  · split at e
    · rename_i q
      injection e with e
      exact Or.inr ⟨q, e.symm⟩
    · cases e
theorem readSum_c (d5 : d ≤ 5) (HR : HR0 B z R0 R d) (PR : ∀ d', d' < d → Pp z (5 * d' + 6) (R d')) (hl : b.length ≤ p) (C : CS0 B z b p h) : CR B z (pSm (tk B z) (nx B z) (nv B z) R d p) b h (f_Re_readSum R0 17 (nI (5 - d)) h) := by
  unfold f_Re_readSum pSm
  rw [gd_t (by simp only [shp C.1.1])]
  refine seq_c (L := fun n i h => f_Re_readSum_L12 R0 17 (nI (5 - d)) n i h (fun v26 h27 => some ((1 : Int32), h27))) (pTm_p (Tk_of B z) PR) (by decide) ?_ ?_ ?_ (fun p b h hl C => readTerm_c d5 HR PR hl C) hl C
  · intro n i p a h hi' C e
    have n1 : tk B z p ≠ 43 := fun q => by rw [q] at e; cases e
    have n2 : tk B z p ≠ 45 := fun q => by rw [q] at e; cases e
    rw [f_Re_readSum_L12, if_neg (show ¬ (160 : Int32) ≤ nI i from nI_ge (b := 160) hi' (by decide)), gd_t (by simp only [shp C.1.1]), C.2.1.2.2.1]
    simp only [jn]
    rw [if_neg (show ¬ nI (tk B z p) = (43 : Int32) from nI_neq (y := 43) (CS0_tk C) (by decide) n1), if_neg (show ¬ nI (tk B z p) = (45 : Int32) from nI_neq (y := 45) (CS0_tk C) (by decide) n2)]
  · intro n i p a c h h1 h2 hi' C e a1 s1 f
    rw [f_Re_readSum_L12, if_neg (show ¬ (160 : Int32) ≤ nI i from nI_ge (b := 160) hi' (by decide)), gd_t (by simp only [shp C.1.1]), C.2.1.2.2.1]
    simp only [jn]
    rcases opS_c e with ⟨e1, e2⟩ | ⟨e1, e2⟩
    · rw [e1, if_pos (show nI 43 = (43 : Int32) from rfl), a1, bind_s, gd_t (by simp only [shp s1]), f, bind_s, if_pos rfl]
    · rw [e1, if_neg (show ¬ nI 45 = (43 : Int32) by decide), if_pos (show nI 45 = (45 : Int32) from rfl), a1, bind_s, gd_t (by simp only [shp s1]), f, bind_s, if_pos rfl]
  · intro n i p a c h h1 h2 h3 hi' C e a1 s1 f s2 w
    show f_Re_readSum_L12 R0 17 (nI (5 - d)) (n + 1) (nI i) h _ = _
    rw [f_Re_readSum_L12, if_neg (show ¬ (160 : Int32) ≤ nI i from nI_ge (b := 160) hi' (by decide)), gd_t (by simp only [shp C.1.1]), C.2.1.2.2.1]
    simp only [jn]
    rcases opS_c e with ⟨e1, e2⟩ | ⟨e1, e2⟩
    · rw [e2] at w
      rw [e1, if_pos (show nI 43 = (43 : Int32) from rfl), a1, bind_s, gd_t (by simp only [shp s1]), f, bind_s, if_neg (show ¬ (1 : Int32) = 0 by decide), gd_t (by simp only [shp s2]), if_pos (show nI 43 = (43 : Int32) from rfl), w, bind_s, nI_1]
    · rw [e2] at w
      rw [e1, if_neg (show ¬ nI 45 = (43 : Int32) by decide), if_pos (show nI 45 = (45 : Int32) from rfl), a1, bind_s, gd_t (by simp only [shp s1]), f, bind_s, if_neg (show ¬ (1 : Int32) = 0 by decide), gd_t (by simp only [shp s2]), if_neg (show ¬ nI 45 = (43 : Int32) by decide), w, bind_s, nI_1]
theorem readCompared_c (d5 : d ≤ 5) (HR : HR0 B z R0 R d) (PR : ∀ d', d' < d → Pp z (5 * d' + 6) (R d')) (hl : b.length ≤ p) (C : CS0 B z b p h) : CR B z (pCm (tk B z) (nx B z) (nv B z) R d p) b h (f_Re_readCompared R0 17 (nI (5 - d)) h) := by
  have X := readSum_c d5 HR PR hl C
  have Q := pSm_p (Tk_of B z) PR p C.2.2.1
  have Y := fun p b h hl C => readSum_c (p := p) (b := b) (h := h) d5 HR PR hl C
  have QQ := pSm_p (Tk_of B z) PR
  unfold f_Re_readCompared pCm
  generalize hs : pSm (tk B z) (nx B z) (nv B z) R d = sub at *
  obtain ⟨h2, b1, b2, b3, b4, b5⟩ := X
  rw [gd_t (by simp only [shp C.1.1]), b1, bind_s]
  cases s : (sub p).1 with
  | false =>
    rw [if_neg Bool.false_ne_true, if_pos (show b2i false = 0 from rfl)]
    exact ⟨h2, by rw [s]; rfl, b2, b3, b4, fun q => by rw [s] at q; cases q⟩
  | true =>
    rw [if_pos (rfl : true = true), if_neg (show ¬ b2i true = 0 by decide), gd_t (by simp only [shp b2])]
    have C2 := b5 s
    obtain ⟨q1, q2, q3⟩ := Q.2 s
    have t31 := CS0_tk C2
    simp only [jn]
    rw [C2.2.1.2.2.1]
    by_cases c : tk B z (sub p).2.1 = 60 ∨ tk B z (sub p).2.1 = 61
    · rw [if_pos c]
      have ni := nx_i (B := B) C2.2.2.1
      have si := sta_i (B := B) C2.2.2.1
      have n3 := ni.2.2 (by omega)
      obtain ⟨h3, d1, d2, d3⟩ := advance_c C2
      have len : (b ++ (sub p).2.2).length + 1 ≤ nx B z (sub p).2.1 := by
        rw [List.length_append]
        omega
      have X2 := Y (nx B z (sub p).2.1) (b ++ (sub p).2.2) h3 (by omega) d2
      have Q2 := QQ (nx B z (sub p).2.1) ni.2.1
      obtain ⟨h4, f1, f2, f3, f4, f5⟩ := X2
      have GO : ∀ x : Int32, x = (if tk B z (sub p).2.1 = 60 then -4 else -5) → CR B z (if (sub (nx B z (sub p).2.1)).1 = true then (true, (sub (nx B z (sub p).2.1)).2.1, (sub p).2.2 ++ (sub (nx B z (sub p).2.1)).2.2 ++ [if tk B z (sub p).2.1 = 60 then -4 else -5]) else sub (nx B z (sub p).2.1)) b h (Option.bind (f_Re_advance 17 h2) (fun q15 => gd (hK q15.2 17 = 1) (Option.bind (f_Re_readSum R0 17 (nI (5 - d)) q15.2) (fun q16 => if q16.1 = 0 then some ((0 : Int32), q16.2) else gd (hK q16.2 17 = 1) (Option.bind (f_Re_write 17 x q16.2) (fun q21 => some ((1 : Int32), q21.2))))))) := by
        rintro x ex
        rw [d1, bind_s, gd_t (by simp only [shp d2.1.1]), f1, bind_s]
        cases s2 : (sub (nx B z (sub p).2.1)).1 with
        | false =>
          rw [if_neg Bool.false_ne_true, if_pos (show b2i false = 0 from rfl)]
          exact ⟨h4, by rw [s2]; rfl, f2, (b3.trans d3).trans f3, f4, fun q => by rw [s2] at q; cases q⟩
        | true =>
          rw [if_pos (rfl : true = true), if_neg (show ¬ b2i true = 0 by decide), gd_t (by simp only [shp f2])]
          have C4 := f5 s2
          obtain ⟨u1, u2, u3⟩ := Q2.2 s2
          have len2 : ((b ++ (sub p).2.2) ++ (sub (nx B z (sub p).2.1)).2.2).length + 1 ≤ (sub (nx B z (sub p).2.1)).2.1 := by
            rw [List.length_append]
            omega
          have := C4.2.2.1
          have := C.1.2.2.1
          obtain ⟨h5, g1, g2, g3⟩ := write_c C4 (by omega) x
          rw [g1, bind_s]
          refine ⟨h5, rfl, g2.1.1, ((b3.trans d3).trans f3).trans g3, g2.2.1.1, fun _ => ?_⟩
          rw [ex] at g2
          simp only [List.append_assoc] at g2 ⊢
          exact g2
      by_cases c6 : tk B z (sub p).2.1 = 60
      · rw [c6, if_pos (show nI 60 = (60 : Int32) from rfl), if_pos (show nI 60 = (60 : Int32) from rfl)]
        rw [c6] at GO
        exact GO (-4) rfl
      · have c7 : tk B z (sub p).2.1 = 61 := by omega
        rw [c7, if_neg (show ¬ nI 61 = (60 : Int32) by decide), if_pos (show nI 61 = (61 : Int32) from rfl), if_neg (show ¬ nI 61 = (60 : Int32) by decide)]
        rw [c7] at GO
        exact GO (-5) rfl
    · rw [if_neg c, if_neg (show ¬ nI (tk B z (sub p).2.1) = (60 : Int32) from nI_neq (y := 60) t31 (by decide) (fun q => c (Or.inl q))), if_neg (show ¬ nI (tk B z (sub p).2.1) = (61 : Int32) from nI_neq (y := 61) t31 (by decide) (fun q => c (Or.inr q)))]
      exact ⟨h2, by rw [s]; rfl, b2, b3, b4, b5⟩
theorem readNot_c : ∀ (d v n p : Nat) (b : List Int32) (h : xH), d + v ≤ 5 → d < n → HR0 B z R0 R d → (∀ d', d' < d → Pp z (5 * d' + 6) (R d')) → b.length + v ≤ p → CS0 B z b p h → CR B z (wrp (-8) v (pNt (tk B z) (nx B z) (nv B z) R d p)) b h (f_Re_readNot_L2 R0 17 (nI (5 - (d + v))) n (nI v) h (fun v10 h11 => gd (hK h11 17 = 1) (Option.bind (f_Re_readCompared R0 17 (nI (5 - (d + v)) + v10) h11) (fun q12 => if q12.1 = 0 then some ((0 : Int32), q12.2) else f_Re_readNot_L43 R0 17 (nI (5 - (d + v))) v10 fu (0 : Int32) q12.2 (fun v18 h19 => some ((1 : Int32), h19)))))) := by
  have PL : ∀ (d v p : Nat) (b : List Int32) (h : xH), d + v ≤ 5 → HR0 B z R0 R d → (∀ d', d' < d → Pp z (5 * d' + 6) (R d')) → b.length + v ≤ p → CS0 B z b p h → CR B z (wrp (-8) v (pCm (tk B z) (nx B z) (nv B z) R d p)) b h (gd (hK h 17 = 1) (Option.bind (f_Re_readCompared R0 17 (nI (5 - (d + v)) + nI v) h) (fun q12 => if q12.1 = 0 then some ((0 : Int32), q12.2) else f_Re_readNot_L43 R0 17 (nI (5 - (d + v))) (nI v) fu (0 : Int32) q12.2 (fun v18 h19 => some ((1 : Int32), h19))))) := by
    intro d v p b h hd HR PR hl C
    have R1 := readCompared_c (by omega) HR PR (show b.length ≤ p by omega) C
    have Q := pCm_p (Tk_of B z) PR p C.2.2.1
    obtain ⟨h2, b1, b2, b3, b4, b5⟩ := R1
    rw [gd_t (by simp only [shp C.1.1]), nI_add, show 5 - (d + v) + v = 5 - d by omega, b1, bind_s]
    unfold wrp
    cases s : (pCm (tk B z) (nx B z) (nv B z) R d p).1 with
    | false =>
      rw [if_neg Bool.false_ne_true, if_pos (show b2i false = 0 from rfl)]
      exact ⟨h2, by rw [s]; rfl, b2, b3, b4, fun q => by rw [s] at q; cases q⟩
    | true =>
      rw [if_pos (rfl : true = true), if_neg (show ¬ b2i true = 0 by decide)]
      have C2 := b5 s
      obtain ⟨q1, q2, q3⟩ := Q.2 s
      have z160 := C.1.2.2.1
      have pz := C2.2.2.1
      obtain ⟨h3, e1, e2, e3⟩ := writes_c (L := f_Re_readNot_L43 R0 17 (nI (5 - (d + v))) (nI v)) (v := v) (c := -8) (fun n i h K hi' hb => by rw [f_Re_readNot_L43, if_pos (nI_le (by omega) hb)]) (fun n i h h' K hi' s w => by rw [f_Re_readNot_L43, if_neg (nI_ge hi' (by omega)), gd_t (by simp only [shp s]), w, bind_s, nI_1]) (fun v18 h19 => some ((1 : Int32), h19)) v fu 0 _ h2 (by omega) (by omega) (by show v < 2000; omega) (by rw [List.length_append]; omega) C2
      rw [List.append_assoc] at e2
      exact ⟨h3, e1, e2.1.1, b3.trans e3, e2.2.1.1, fun _ => e2⟩
  intro d
  induction d with
  | zero =>
    intro v n p b h hd hn HR PR hl C
    obtain ⟨n, rfl⟩ : ∃ q, n = q + 1 := ⟨n - 1, by omega⟩
    have X := PL 0 v p b h hd HR PR hl C
    refine CR_tr (Fr.refl h) X ?_
    rw [f_Re_readNot_L2, gd_t (by simp only [shp C.1.1]), nI_add, if_pos (show (5 : Int32) ≤ nI (5 - (0 + v) + v) from nI_le (a := 5) (by omega) (by omega))]
    split
    · rfl
    · rfl
  | succ d ih =>
    intro v n p b h hd hn HR PR hl C
    obtain ⟨n, rfl⟩ : ∃ q, n = q + 1 := ⟨n - 1, by omega⟩
    have ni := nx_i (B := B) C.2.2.1
    have si := sta_i (B := B) C.2.2.1
    unfold pNt
    by_cases c : tk B z p = 267
    · rw [if_pos c, wrp_s]
      have n3 := ni.2.2 (by omega)
      obtain ⟨h1, a1, a2, a3⟩ := advance_c C
      have X := ih (v + 1) n (nx B z p) b h1 (by omega) (by omega) (fun d' p' b' h' q => HR d' p' b' h' (by omega)) (fun d' q => PR d' (by omega)) (by omega) a2
      rw [show d + (v + 1) = d + 1 + v by omega] at X
      refine CR_tr a3 X ?_
      rw [f_Re_readNot_L2, gd_t (by simp only [shp C.1.1]), C.2.1.2.2.1, c, if_pos (show nI 267 = (267 : Int32) from rfl), nI_add, if_neg (show ¬ (5 : Int32) ≤ nI (5 - (d + 1 + v) + v) from nI_ge (b := 5) (by omega) (by decide)), a1, bind_s, nI_1]
    · rw [if_neg c]
      have X := PL (d + 1) v p b h hd HR PR hl C
      refine CR_tr (Fr.refl h) X ?_
      rw [f_Re_readNot_L2, gd_t (by simp only [shp C.1.1]), C.2.1.2.2.1, if_neg (show ¬ nI (tk B z p) = (267 : Int32) from nI_neq (y := 267) (CS0_tk C) (by decide) c)]
theorem readNotF_c (d5 : d ≤ 5) (HR : HR0 B z R0 R d) (PR : ∀ d', d' < d → Pp z (5 * d' + 6) (R d')) (hl : b.length ≤ p) (C : CS0 B z b p h) : CR B z (pNt (tk B z) (nx B z) (nv B z) R d p) b h (f_Re_readNot R0 17 (nI (5 - d)) h) := by
  have X := readNot_c d 0 fu p b h (by omega) (by show d < 2000; omega) HR PR (by omega) C
  rw [wrp_0] at X
  exact X
theorem readBoth_c (d5 : d ≤ 5) (HR : HR0 B z R0 R d) (PR : ∀ d', d' < d → Pp z (5 * d' + 6) (R d')) (hl : b.length ≤ p) (C : CS0 B z b p h) : CR B z (pBo (tk B z) (nx B z) (nv B z) R d p) b h (f_Re_readBoth R0 17 (nI (5 - d)) h) := by
  unfold f_Re_readBoth pBo
  rw [gd_t (by simp only [shp C.1.1])]
  refine seq_c (L := fun n i h => f_Re_readBoth_L12 R0 17 (nI (5 - d)) n i h (fun v21 h22 => some ((1 : Int32), h22))) (pNt_p (Tk_of B z) PR) (by decide) ?_ ?_ ?_ (fun p b h hl C => readNotF_c d5 HR PR hl C) hl C
  · intro n i p a h hi' C e
    have ne : tk B z p ≠ 266 := fun q => by rw [q] at e; cases e
    rw [f_Re_readBoth_L12, if_neg (show ¬ (160 : Int32) ≤ nI i from nI_ge (b := 160) hi' (by decide)), gd_t (by simp only [shp C.1.1]), C.2.1.2.2.1, if_neg (show ¬ nI (tk B z p) = (266 : Int32) from nI_neq (y := 266) (CS0_tk C) (by decide) ne)]
  · intro n i p a c h h1 h2 hi' C e a1 s1 f
    have ec : tk B z p = 266 ∧ c = -7 := by
      unfold opA at e
      split at e
      · rename_i q
        injection e with e
        exact ⟨q, e.symm⟩
      · cases e
    rw [f_Re_readBoth_L12, if_neg (show ¬ (160 : Int32) ≤ nI i from nI_ge (b := 160) hi' (by decide)), gd_t (by simp only [shp C.1.1]), C.2.1.2.2.1, ec.1, if_pos (show nI 266 = (266 : Int32) from rfl), a1, bind_s, gd_t (by simp only [shp s1]), f, bind_s, if_pos rfl]
  · intro n i p a c h h1 h2 h3 hi' C e a1 s1 f s2 w
    have ec : tk B z p = 266 ∧ c = -7 := by
      unfold opA at e
      split at e
      · rename_i q
        injection e with e
        exact ⟨q, e.symm⟩
      · cases e
    rw [ec.2] at w
    show f_Re_readBoth_L12 R0 17 (nI (5 - d)) (n + 1) (nI i) h _ = _
    rw [f_Re_readBoth_L12, if_neg (show ¬ (160 : Int32) ≤ nI i from nI_ge (b := 160) hi' (by decide)), gd_t (by simp only [shp C.1.1]), C.2.1.2.2.1, ec.1, if_pos (show nI 266 = (266 : Int32) from rfl), a1, bind_s, gd_t (by simp only [shp s1]), f, bind_s, if_neg (show ¬ (1 : Int32) = 0 by decide), gd_t (by simp only [shp s2]), w, bind_s, nI_1]
theorem readEither_c (d5 : d ≤ 5) (HR : HR0 B z R0 R d) (PR : ∀ d', d' < d → Pp z (5 * d' + 6) (R d')) (hl : b.length ≤ p) (C : CS0 B z b p h) : CR B z (pEi (tk B z) (nx B z) (nv B z) R d p) b h (fb_Re_readEither R0 17 (nI (5 - d)) h) := by
  unfold fb_Re_readEither pEi
  rw [gd_t (by simp only [shp C.1.1])]
  refine seq_c (L := fun n i h => f_Re_readEither_L12 R0 17 (nI (5 - d)) n i h (fun v21 h22 => some ((1 : Int32), h22))) (pBo_p (Tk_of B z) PR) (by decide) ?_ ?_ ?_ (fun p b h hl C => readBoth_c d5 HR PR hl C) hl C
  · intro n i p a h hi' C e
    have ne : tk B z p ≠ 265 := fun q => by rw [q] at e; cases e
    rw [f_Re_readEither_L12, if_neg (show ¬ (160 : Int32) ≤ nI i from nI_ge (b := 160) hi' (by decide)), gd_t (by simp only [shp C.1.1]), C.2.1.2.2.1, if_neg (show ¬ nI (tk B z p) = (265 : Int32) from nI_neq (y := 265) (CS0_tk C) (by decide) ne)]
  · intro n i p a c h h1 h2 hi' C e a1 s1 f
    have ec : tk B z p = 265 ∧ c = -6 := by
      unfold opO at e
      split at e
      · rename_i q
        injection e with e
        exact ⟨q, e.symm⟩
      · cases e
    rw [f_Re_readEither_L12, if_neg (show ¬ (160 : Int32) ≤ nI i from nI_ge (b := 160) hi' (by decide)), gd_t (by simp only [shp C.1.1]), C.2.1.2.2.1, ec.1, if_pos (show nI 265 = (265 : Int32) from rfl), a1, bind_s, gd_t (by simp only [shp s1]), f, bind_s, if_pos rfl]
  · intro n i p a c h h1 h2 h3 hi' C e a1 s1 f s2 w
    have ec : tk B z p = 265 ∧ c = -6 := by
      unfold opO at e
      split at e
      · rename_i q
        injection e with e
        exact ⟨q, e.symm⟩
      · cases e
    rw [ec.2] at w
    show f_Re_readEither_L12 R0 17 (nI (5 - d)) (n + 1) (nI i) h _ = _
    rw [f_Re_readEither_L12, if_neg (show ¬ (160 : Int32) ≤ nI i from nI_ge (b := 160) hi' (by decide)), gd_t (by simp only [shp C.1.1]), C.2.1.2.2.1, ec.1, if_pos (show nI 265 = (265 : Int32) from rfl), a1, bind_s, gd_t (by simp only [shp s1]), f, bind_s, if_neg (show ¬ (1 : Int32) = 0 by decide), gd_t (by simp only [shp s2]), w, bind_s, nI_1]
theorem G_Re_c : ∀ (g d p : Nat) (b : List Int32) (h : xH), d < g → d ≤ 5 → b.length ≤ p → CS0 B z b p h → CR B z (pG (tk B z) (nx B z) (nv B z) g d p) b h (G_Re g 17 (nI (5 - d)) h)
  | 0, _, _, _, _, q, _, _, _ => absurd q (Nat.not_lt_zero _)
  | g + 1, d, p, b, h, q, d5, hl, C => readEither_c d5 (fun d' p' b' h' q' hl' C' => G_Re_c g d' p' b' h' (by omega) (by omega) hl' C') (fun d' q' => pG_p (Tk_of B z) g d' (by omega)) hl C
end P69

/-! the reference's reading -/
def MSt (B : Nat → Nat) (t z : Nat) (nm : Nat → Int32) (d p : Nat) (h : xH) : Prop := MlB B t z h ∧ MlT B z p h ∧ p ≤ z ∧ hI h 36 26 = 0 ∧ hI h 36 25 = nI (5 - d) ∧ ∀ x, x < 6 → hI h 36 (13 + x) = nm x
def MFl (s : Nat) (h : xH) : Prop := Shp h ∧ 0 ≤ hN h ∧ hI h 36 26 = 1 ∧ hI h 36 27 = nI s
def MR (B : Nat → Nat) (t z : Nat) (nm : Nat → Int32) (r : Rs) (d : Nat) (h : xH) (o : Option (Int32 × xH)) : Prop := ∃ v h', o = some (v, h') ∧ Fs dPar h h' ∧ ((r.1 = true ∧ MSt B t z nm d r.2.1 h' ∧ ∀ st, runs nm r.2.2 st = v :: st) ∨ (r.1 = false ∧ MFl (sta B z r.2.1) h'))
section P71
variable {h : xH} {B : Nat → Nat} {t z p d : Nat} {nm : Nat → Int32}
theorem MR_tr {r : Rs} {h' : xH} {o o' : Option (Int32 × xH)} (x : Fs dPar h h') (C : MR B t z nm r d h' o) (e : o' = o) : MR B t z nm r d h o' := by
  obtain ⟨v, h2, a1, a2, a3⟩ := C
  exact ⟨v, h2, e.trans a1, x.trans a2, a3⟩
theorem jL0 (x : Int32) {c : Nat} : (jCmpL x.toInt64 (nI c).toInt64 = 0) = (x = nI c) := jC0 _ _
theorem tk_nw {c : Nat} (hc : sgB c = true) (k : kd B z p ≠ 3) : (tk B z p == c) = false := by
  have b := sg_b hc
  apply beq_eq_false_iff_ne.mpr
  rcases kd_c B z p with ⟨a1, a2⟩ | ⟨a1, a2, -⟩ | ⟨a1, a2⟩ | ⟨a1, a2⟩ | ⟨a1, a2⟩
  · omega
  · rcases wix_c (slc B (sta B z p) (nx B z p)) with e | ⟨w, hw, e⟩
    · omega
    · omega
  · omega
  · exact absurd a1 k
  · omega
theorem kd_lt : kd B z p < 5 := by
  rcases kd_c B z p with ⟨a1, a2⟩ | ⟨a1, a2, -⟩ | ⟨a1, a2⟩ | ⟨a1, a2⟩ | ⟨a1, a2⟩ <;> omega
theorem MSt_tk (M : MSt B t z nm d p h) : tk B z p < 268 := tk_lt (fun i hi => (M.1.2.2.2.2.2.2 i hi).2)
theorem isSign_e (M : MSt B t z nm d p h) {c : Nat} (hc : sgB c = true) : f_Mo_isSign 36 (nI c) h = some (b2i (tk B z p == c), h) := by
  have s := M.1.1
  have b := sg_b hc
  have kl := kd_lt (B := B) (z := z) (p := p)
  have tl := MSt_tk M
  unfold f_Mo_isSign
  rw [gd_t (by simp only [shp s]), M.2.2.2.1, M.2.1.2.2.1]
  simp only [jn]
  rw [if_pos trivial]
  by_cases k : kd B z p = 3
  · rw [k, if_pos (show nI 3 = (3 : Int32) from rfl), M.2.1.2.2.2.2 k]
    simp only [jL0]
    by_cases e : tk B z p = c
    · rw [if_pos (by rw [e]), e, beq_self_eq_true]
      rfl
    · rw [if_neg (fun q => e ((nI_eq (by omega) (by omega)).mp q)), beq_eq_false_iff_ne.mpr e]
      rfl
  · rw [if_neg (show ¬ nI (kd B z p) = (3 : Int32) from fun q => k ((nI_eq (b := 3) (by omega) (by decide)).mp q)), tk_nw hc k]
    rfl
theorem isSign_f (s : Shp h) (e : hI h 36 26 = 1) (c : Int32) : f_Mo_isSign 36 c h = some (0, h) := by
  unfold f_Mo_isSign
  rw [gd_t (by simp only [shp s]), e]
  rfl
theorem isLetter_e (M : MSt B t z nm d p h) (k1 : kd B z p = 1) {k c : Nat} (hk : k < 8) (hc : c < 256) : f_Mo_isLetter 36 (nI k) (nI c) h = some (b2i (if nx B z p ≤ sta B z p + k then c == 0 else B (sta B z p + k) == c), h) := by
  have s := M.1.1
  have z160 := M.1.2.2.1
  have ni := nx_i (B := B) M.2.2.1
  unfold f_Mo_isLetter
  rw [gd_t (by simp only [shp s]), M.2.1.1 (by omega), M.2.1.2.1, nI_add]
  simp only [jn]
  by_cases q : nx B z p ≤ sta B z p + k
  · rw [if_pos (nI_le q (by omega)), if_pos q]
    by_cases c0 : c = 0
    · rw [if_pos (by rw [c0]; rfl), c0]
      rfl
    · rw [if_neg (nI_ne0 (by omega) (by omega)), beq_eq_false_iff_ne.mpr c0]
      rfl
  · rw [if_neg (nI_ge (by omega) (by omega)), if_neg q, byteAt_e M.1 (by omega), bind_s, if_pos (show sta B z p + k < z by omega)]
    have hb := (M.1.2.2.2.2.2.2 (sta B z p + k) (by omega)).2
    by_cases e : B (sta B z p + k) = c
    · rw [if_pos (by rw [e]), e, beq_self_eq_true]
      rfl
    · rw [if_neg (fun q => e ((nI_eq (by omega) (by omega)).mp q)), beq_eq_false_iff_ne.mpr e]
      rfl
def wc (w k : Nat) : Nat := (wds.getD w []).getD k 0
theorem wc_i : ∀ w, w < 12 → (wds.getD w []).length ≤ 8 ∧ ∀ k, k < 8 → wc w k < 97 → (wc w k = 0 ∧ (wds.getD w []).length ≤ k) := by decide +kernel
theorem wc_b : ∀ w, w < 12 → ∀ k, k < 8 → wc w k < 256 := by decide +kernel
theorem wc_0 {w k : Nat} (h : (wds.getD w []).length ≤ k) : wc w k = 0 := by
  unfold wc
  simp [List.getD, List.getElem?_eq_none (show (wds[w]?.getD []).length ≤ k by simpa [List.getD] using h)]
theorem tk_w {w : Nat} (hw : w < 12) (k : kd B z p ≠ 1) : (tk B z p == 256 + w) = false := by
  apply beq_eq_false_iff_ne.mpr
  rcases kd_c B z p with ⟨a1, a2⟩ | ⟨a1, a2, -⟩ | ⟨a1, a2⟩ | ⟨a1, a2⟩ | ⟨a1, a2⟩
  · omega
  · exact absurd a1 k
  · omega
  · have := sg_b a2
    omega
  · omega
theorem word_m (hp : p ≤ z) (k1 : kd B z p = 1) {w : Nat} (hw : w < 12) : (tk B z p = 256 + w) ↔ (nx B z p ≤ sta B z p + 8 ∧ ∀ k, k < 8 → (if nx B z p ≤ sta B z p + k then wc w k == 0 else B (sta B z p + k) == wc w k) = true) := by
  have ni := nx_i (B := B) hp
  rcases kd_c B z p with ⟨a1, a2⟩ | ⟨a1, a2, a3⟩ | ⟨a1, a2⟩ | ⟨a1, a2⟩ | ⟨a1, a2⟩
  · omega
  · rw [a2, wix_e hw]
    have L := (scz_i (q := lB) (B := B) _ (sta B z p) (Nat.le_refl (z - sta B z p))).2.2
    rw [← a3] at L
    obtain ⟨l8, lz⟩ := wc_i w hw
    constructor
    · intro e
      obtain ⟨e1, e2⟩ := slc_eq.mp e.symm
      refine ⟨by omega, fun k hk => ?_⟩
      by_cases q : nx B z p ≤ sta B z p + k
      · rw [if_pos q, wc_0 (by omega)]
        rfl
      · rw [if_neg q, e2 k (by omega)]
        exact beq_self_eq_true _
    · rintro ⟨e8, e⟩
      refine (slc_eq.mpr ⟨?_, fun j hj => ?_⟩).symm
      · rcases Nat.lt_trichotomy (nx B z p - sta B z p) (wds.getD w []).length with q | q | q
        · have := e (nx B z p - sta B z p) (by omega)
          rw [if_pos (by omega), beq_iff_eq] at this
          have := (lz (nx B z p - sta B z p) (by omega) (by omega)).2
          omega
        · exact q
        · have := e (wds.getD w []).length (by omega)
          rw [if_neg (by omega), beq_iff_eq, wc_0 (Nat.le_refl _)] at this
          have b := lB_le (L (sta B z p + (wds.getD w []).length) (by omega) (by omega)).2
          omega
      · have := e j (by omega)
        by_cases q : nx B z p ≤ sta B z p + j
        · rw [if_pos q, beq_iff_eq] at this
          have := (lz j (by omega) (by omega)).2
          omega
        · rw [if_neg q, beq_iff_eq] at this
          exact this
  · omega
  · omega
  · omega
theorem isWord_e (M : MSt B t z nm d p h) {w : Nat} (hw : w < 12) : f_Mo_isWord 36 (nI (wc w 0)) (nI (wc w 1)) (nI (wc w 2)) (nI (wc w 3)) (nI (wc w 4)) (nI (wc w 5)) (nI (wc w 6)) (nI (wc w 7)) h = some (b2i (tk B z p == 256 + w), h) := by
  have s := M.1.1
  have kl := kd_lt (B := B) (z := z) (p := p)
  have z160 := M.1.2.2.1
  have ni := nx_i (B := B) M.2.2.1
  unfold f_Mo_isWord
  rw [gd_t (by simp only [shp s]), M.2.2.2.1, M.2.1.2.2.1]
  simp only [jn]
  rw [if_pos trivial]
  by_cases k : kd B z p = 1
  · rw [k, if_pos (show nI 1 = (1 : Int32) from rfl), M.2.1.1 (by omega), M.2.1.2.1, show nI (sta B z p) + (8 : Int32) = nI (sta B z p + 8) from nI_add _ _]
    have W := word_m (B := B) M.2.2.1 k hw
    by_cases q : nx B z p ≤ sta B z p + 8
    · rw [if_neg (nI_nlt q (by omega))]
      have L := fun (j : Nat) (hj : j < 8) => isLetter_e M k (k := j) (c := wc w j) hj (wc_b w hw j hj)
      rw [show (0 : Int32) = nI 0 from rfl, show (1 : Int32) = nI 1 from rfl, show (2 : Int32) = nI 2 from rfl, show (3 : Int32) = nI 3 from rfl, show (4 : Int32) = nI 4 from rfl, show (5 : Int32) = nI 5 from rfl, show (6 : Int32) = nI 6 from rfl, show (7 : Int32) = nI 7 from rfl]
      simp only [L 0 (by decide), L 1 (by decide), L 2 (by decide), L 3 (by decide), L 4 (by decide), L 5 (by decide), L 6 (by decide), L 7 (by decide), bind_s, gd, shp s, if_true]
      have E : ∀ x0 x1 x2 x3 x4 x5 x6 x7 : Bool, (if b2i x0 = nI 0 then some (nb (nI 0), h) else if b2i x1 = nI 0 then some (nb (nI 0), h) else if b2i x2 = nI 0 then some (nb (nI 0), h) else if b2i x3 = nI 0 then some (nb (nI 0), h) else if b2i x4 = nI 0 then some (nb (nI 0), h) else if b2i x5 = nI 0 then some (nb (nI 0), h) else if b2i x6 = nI 0 then some (nb (nI 0), h) else if b2i x7 = nI 0 then some (nb (nI 0), h) else some (nb (nI 1), h)) = some (b2i (x0 && (x1 && (x2 && (x3 && (x4 && (x5 && (x6 && x7))))))), h) := by
        intro x0 x1 x2 x3 x4 x5 x6 x7
        cases x0
        · rfl
        cases x1
        · rfl
        cases x2
        · rfl
        cases x3
        · rfl
        cases x4
        · rfl
        cases x5
        · rfl
        cases x6
        · rfl
        cases x7
        · rfl
        · rfl
      refine (E _ _ _ _ _ _ _ _).trans ?_
      congr 3
      rw [Bool.eq_iff_iff, beq_iff_eq, W]
      simp only [Bool.and_eq_true]
      constructor
      · rintro ⟨y0, y1, y2, y3, y4, y5, y6, y7⟩
        refine ⟨q, fun k hk => ?_⟩
        rcases (by omega : k = 0 ∨ k = 1 ∨ k = 2 ∨ k = 3 ∨ k = 4 ∨ k = 5 ∨ k = 6 ∨ k = 7) with rfl | rfl | rfl | rfl | rfl | rfl | rfl | rfl <;> assumption
      · rintro ⟨-, y⟩
        exact ⟨y 0 (by decide), y 1 (by decide), y 2 (by decide), y 3 (by decide), y 4 (by decide), y 5 (by decide), y 6 (by decide), y 7 (by decide)⟩
    · rw [if_pos (nI_lt (by omega) (by omega))]
      rw [beq_eq_false_iff_ne.mpr (fun e => q (W.mp e).1)]
      rfl
  · rw [if_neg (show ¬ nI (kd B z p) = (1 : Int32) from fun q => k ((nI_eq (b := 1) (by omega) (by decide)).mp q)), tk_w hw k]
    rfl
theorem isWord_f (s : Shp h) (e : hI h 36 26 = 1) (a b c d e' f g i : Int32) : f_Mo_isWord 36 a b c d e' f g i h = some (0, h) := by
  unfold f_Mo_isWord
  rw [gd_t (by simp only [shp s]), e]
  simp only [jn]
  rw [if_neg (show ¬ (1 : Int32) = 0 by decide)]
  rfl
theorem fail_e (M : MSt B t z nm d p h) : ∃ h', f_Mo_fail 36 h = some ((), h') ∧ MFl (sta B z p) h' ∧ Fs dPar h h' := by
  have s := M.1.1
  refine ⟨hIu (hIu h 36 26 (1 : Int32)) 36 27 (nI (sta B z p)), ?_, ⟨s, M.1.2.1, by rw [iI, if_neg (by omega), iI, if_pos ⟨rfl, rfl⟩], by rw [iI, if_pos ⟨rfl, rfl⟩]⟩, ((Fs.refl h).I rfl).I rfl⟩
  unfold f_Mo_fail
  rw [gd_t (by simp only [shp s]), M.2.2.2.1]
  simp only [jn]
  rw [if_pos trivial, iI, if_neg (by omega), M.2.1.2.1]
theorem fail_f (s : Shp h) (e : hI h 36 26 = 1) : f_Mo_fail 36 h = some ((), h) := by
  unfold f_Mo_fail
  rw [gd_t (by simp only [shp s]), e]
  rfl
theorem MSt_fr {D : Nat → Nat → Bool} {h' : xH} (M : MSt B t z nm d p h) (s : Shp h') (x : Fs D h h') (d1 : ∀ k, 13 ≤ k → k ≤ 24 → D 36 k = true) (d2 : ∀ k, D 37 k = true) {d' : Nat} (e1 : hI h' 36 26 = 0) (e2 : hI h' 36 25 = nI (5 - d')) : MSt B t z nm d' p h' := by
  have n := M.1.2.1
  have v : ∀ k, 13 ≤ k → k ≤ 24 → hI h' 36 k = hI h 36 k := fun k a b => x.v n k (by decide) (d1 k a b)
  exact ⟨MlB_fr M.1 s x (d1 19 (by omega) (by omega)) (d1 20 (by omega) (by omega)) d2, ⟨fun q => (v 21 (by omega) (by omega)).trans (M.2.1.1 q), (v 23 (by omega) (by omega)).trans M.2.1.2.1, (v 22 (by omega) (by omega)).trans M.2.1.2.2.1, fun q => (v 24 (by omega) (by omega)).trans (M.2.1.2.2.2.1 q), fun q => (v 24 (by omega) (by omega)).trans (M.2.1.2.2.2.2 q)⟩, M.2.2.1, e1, e2, fun y hy => (v (13 + y) (by omega) (by omega)).trans (M.2.2.2.2.2 y hy)⟩
theorem next_m (M : MSt B t z nm d p h) (k : kd B z p ≠ 4) : ∃ h', f_Mo_next 36 h = some ((), h') ∧ MSt B t z nm d (nx B z p) h' ∧ Fs dPar h h' := by
  have ni := nx_i (B := B) M.2.2.1
  have n := M.1.2.1
  obtain ⟨h', a1, a2, a3, a4⟩ := next_e M.1 (M.2.1.1 k) ni.2.1
  exact ⟨h', a1, ⟨MlB_fr M.1 a2 a3 rfl rfl (fun _ => rfl), a4, ni.2.1, (a3.v n 26 (by decide) rfl).trans M.2.2.2.1, (a3.v n 25 (by decide) rfl).trans M.2.2.2.2.1, fun y hy => (a3.v n (13 + y) (by decide) (by simp [dMx]; omega)).trans (M.2.2.2.2.2 y hy)⟩, a3.mono (fun p k => dPar_mx)⟩
theorem opens_e (M : MSt B t z nm (d + 1) p h) (hd : d + 1 ≤ 5) (k : kd B z p ≠ 4) : ∃ h', f_Mo_opens 36 h = some (1, h') ∧ MSt B t z nm d (nx B z p) h' ∧ Fs dPar h h' := by
  have s := M.1.1
  have X : Fs dPar h (hIu h 36 25 (nI (5 - d))) := (Fs.refl h).I rfl
  have M2 : MSt B t z nm d p (hIu h 36 25 (nI (5 - d))) := MSt_fr (D := fun p k => !(decide (p = 36) && decide (k = 25))) (h' := hIu h 36 25 (nI (5 - d))) (d' := d) M s ((Fs.refl h).I rfl) (fun k a b => by simp; omega) (fun k => rfl) (by rw [iI, if_neg (by omega)]; exact M.2.2.2.1) (by rw [iI, if_pos ⟨rfl, rfl⟩])
  obtain ⟨h', a1, a2, a3⟩ := next_m M2 k
  refine ⟨h', ?_, a2, X.trans a3⟩
  unfold f_Mo_opens
  rw [gd_t (by simp only [shp s]), M.2.2.2.2.1, if_neg (show ¬ nI (5 - (d + 1)) = (5 : Int32) from fun q => by have := (nI_eq (b := 5) (by omega) (by decide)).mp q; omega), nI_1, show 5 - (d + 1) + 1 = 5 - d by omega, a1, bind_s]
theorem opens_0 (M : MSt B t z nm 0 p h) : ∃ h', f_Mo_opens 36 h = some (0, h') ∧ MFl (sta B z p) h' ∧ Fs dPar h h' := by
  have s := M.1.1
  obtain ⟨h', a1, a2, a3⟩ := fail_e M
  refine ⟨h', ?_, a2, a3⟩
  unfold f_Mo_opens
  rw [gd_t (by simp only [shp s]), M.2.2.2.2.1, if_pos (show nI (5 - 0) = (5 : Int32) from rfl), a1, bind_s]
theorem runs_ap (a b : List Int32) (st : List Int32) : runs nm (a ++ b) st = runs nm b (runs nm a st) := List.foldl_append
theorem chain_m {L : Nat → Int32 → xH → Option (Int32 × xH)} {F : xH → Option (Int32 × xH)} {op : Nat → Option Int32} {sub : Nat → Rs} {k : Nat} (PQ : Pp z k sub) (o0 : op 0 = none) (o2 : op 2 = none)
    (SN : ∀ n p v h, MSt B t z nm d p h → op (tk B z p) = none → L (n + 1) v h = some (v, h))
    (SZ : ∀ n v h, Shp h → hI h 36 26 = 1 → L (n + 1) v h = some (v, h))
    (SS : ∀ n p v v2 c h h1 h2, MSt B t z nm d p h → op (tk B z p) = some c → f_Mo_next 36 h = some ((), h1) → Shp h1 → F h1 = some (v2, h2) → Shp h2 → ∃ v3, L (n + 1) v h = L n v3 h2 ∧ ∀ st, stp nm c (v2 :: v :: st) = v3 :: st)
    (SE : ∀ p h, MSt B t z nm d p h → MR B t z nm (sub p) d h (F h)) :
    ∀ m n i p a v h, m + i = 161 → m < n → i < p → MSt B t z nm d p h → (∀ st, runs nm a st = v :: st) → MR B t z nm (chn (tk B z) (nx B z) op sub m p a) d h (L n v h) := by
  intro m
  induction m with
  | zero =>
    intro n i p a v h hm hn hi' M e
    have := M.1.2.2.1
    have := M.2.2.1
    omega
  | succ m ih =>
    intro n i p a v h hm hn hi' M ea
    obtain ⟨n, rfl⟩ : ∃ q, n = q + 1 := ⟨n - 1, by omega⟩
    have pz := M.2.2.1
    unfold chn
    cases e : op (tk B z p) with
    | none => exact ⟨v, h, SN n p v h M e, Fs.refl h, Or.inl ⟨rfl, M, ea⟩⟩
    | some c =>
      have t0 : tk B z p ≠ 0 := fun q => by rw [q, o0] at e; cases e
      have t4 : kd B z p ≠ 4 := fun q => by
        rcases kd_c B z p with ⟨a1, a2⟩ | ⟨a1, a2, -⟩ | ⟨a1, a2⟩ | ⟨a1, a2⟩ | ⟨a1, a2⟩
        · omega
        · omega
        · omega
        · omega
        · rw [a2, o2] at e
          cases e
      have ni := nx_i (B := B) pz
      have si := sta_i (B := B) pz
      have n3 := ni.2.2 t0
      obtain ⟨h1, a1, a2, a3⟩ := next_m M t4
      obtain ⟨v2, h2, b1, b2, b3⟩ := SE (nx B z p) h1 a2
      simp only
      rcases b3 with ⟨r1, M2, ev⟩ | ⟨r1, F2⟩
      · rw [if_pos r1]
        obtain ⟨v3, w1, w2⟩ := SS n p v v2 c h h1 h2 M e a1 a2.1.1 b1 M2.1.1
        have Q := (PQ (nx B z p) ni.2.1).2 r1
        have r := ih n (i + 1) (sub (nx B z p)).2.1 (a ++ (sub (nx B z p)).2.2 ++ [c]) v3 h2 (by omega) (by omega) (by omega) M2 (fun st => by
          rw [runs_ap, runs_ap, ea, ev]
          exact w2 st)
        exact MR_tr (a3.trans b2) r w1
      · rw [if_neg (by rw [r1]; decide)]
        obtain ⟨v3, w1, w2⟩ := SS n p v v2 c h h1 h2 M e a1 a2.1.1 b1 F2.1
        obtain ⟨n, rfl⟩ : ∃ q, n = q + 1 := ⟨n - 1, by omega⟩
        exact ⟨v3, h2, w1.trans (SZ n v3 h2 F2.1 F2.2.2.1), a3.trans b2, Or.inr ⟨r1, F2⟩⟩
theorem seq_m {L : Nat → Int32 → xH → Option (Int32 × xH)} {F : xH → Option (Int32 × xH)} {op : Nat → Option Int32} {sub : Nat → Rs} {k : Nat} (PQ : Pp z k sub) (o0 : op 0 = none) (o2 : op 2 = none)
    (SN : ∀ n p v h, MSt B t z nm d p h → op (tk B z p) = none → L (n + 1) v h = some (v, h))
    (SZ : ∀ n v h, Shp h → hI h 36 26 = 1 → L (n + 1) v h = some (v, h))
    (SS : ∀ n p v v2 c h h1 h2, MSt B t z nm d p h → op (tk B z p) = some c → f_Mo_next 36 h = some ((), h1) → Shp h1 → F h1 = some (v2, h2) → Shp h2 → ∃ v3, L (n + 1) v h = L n v3 h2 ∧ ∀ st, stp nm c (v2 :: v :: st) = v3 :: st)
    (SE : ∀ p h, MSt B t z nm d p h → MR B t z nm (sub p) d h (F h)) (M : MSt B t z nm d p h) : MR B t z nm (sqn (tk B z) (nx B z) op sub p) d h (Option.bind (F h) (fun q9 => L fu q9.1 q9.2)) := by
  obtain ⟨v, h1, b1, b2, b3⟩ := SE p h M
  unfold sqn
  rw [b1, bind_s]
  rcases b3 with ⟨r1, M2, ev⟩ | ⟨r1, F2⟩
  · rw [if_pos r1]
    have Q := (PQ p M.2.2.1).2 r1
    exact MR_tr b2 (chain_m PQ o0 o2 SN SZ SS SE 161 fu 0 (sub p).2.1 (sub p).2.2 v h1 rfl (by decide) (by omega) M2 ev) rfl
  · rw [if_neg (by rw [r1]; decide)]
    exact ⟨v, h1, SZ 1999 v h1 F2.1 F2.2.2.1, b2, Or.inr ⟨r1, F2⟩⟩
end P71

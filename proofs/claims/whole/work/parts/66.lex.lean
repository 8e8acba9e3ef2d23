/-! the tokens of a tape -/
def lB (b : Nat) : Bool := decide (97 ≤ b) && decide (b ≤ 122)
def dB (b : Nat) : Bool := decide (48 ≤ b) && decide (b ≤ 57)
def wsB (b : Nat) : Bool := b == 32 || b == 10
def sgB (b : Nat) : Bool := (decide (40 ≤ b) && decide (b ≤ 43)) || (decide (59 ≤ b) && decide (b ≤ 61)) || b == 45
def scn (q : Nat → Bool) (B : Nat → Nat) (z : Nat) : Nat → Nat → Nat
  | 0, p => p
  | n + 1, p => if p < z ∧ q (B p) = true then scn q B z n (p + 1) else p
def scz (q : Nat → Bool) (B : Nat → Nat) (z p : Nat) : Nat := scn q B z (z - p) p
theorem scz_e (q : Nat → Bool) (B : Nat → Nat) (z p : Nat) : scz q B z p = if p < z ∧ q (B p) = true then scz q B z (p + 1) else p := by
  unfold scz
  by_cases h : p < z
  · obtain ⟨m, e⟩ : ∃ m, z - p = m + 1 := ⟨z - p - 1, by omega⟩
    have e2 : z - (p + 1) = m := by omega
    rw [e, e2]
    rfl
  · rw [show z - p = 0 by omega, if_neg (fun x => h x.1)]
    rfl
theorem scz_i {q : Nat → Bool} {B : Nat → Nat} {z : Nat} : ∀ (m p : Nat), z - p ≤ m → p ≤ scz q B z p ∧ (p ≤ z → scz q B z p ≤ z) ∧ (∀ i, p ≤ i → i < scz q B z p → i < z ∧ q (B i) = true) := by
  intro m
  induction m with
  | zero =>
    intro p hm
    rw [scz_e, if_neg (fun x => by omega)]
    exact ⟨Nat.le_refl _, id, fun i a b => absurd a (by omega)⟩
  | succ m ih =>
    intro p hm
    rw [scz_e]
    by_cases c : p < z ∧ q (B p) = true
    · rw [if_pos c]
      obtain ⟨a1, a2, a3⟩ := ih (p + 1) (by omega)
      exact ⟨by omega, fun _ => a2 (by omega), fun i x y => by
        by_cases e : i = p
        · rw [e]
          exact c
        · exact a3 i (by omega) y⟩
    · rw [if_neg c]
      exact ⟨Nat.le_refl _, id, fun i a b => absurd a (by omega)⟩
def wds : List (List Nat) := [[111, 110, 101], [111, 116, 104, 101, 114], [116, 104, 105, 114, 100], [107, 110, 111, 119], [115, 101, 101, 110], [109, 97, 110, 121], [99, 111, 117, 110, 116, 115], [99, 111, 115, 116, 115], [106, 111, 121], [111, 114], [97, 110, 100], [110, 111, 116]]
def slc (B : Nat → Nat) (s e : Nat) : List Nat := (List.range (e - s)).map (fun i => B (s + i))
theorem slc_eq {B : Nat → Nat} {s e : Nat} {w : List Nat} : slc B s e = w ↔ e - s = w.length ∧ ∀ j, j < w.length → B (s + j) = w.getD j 0 := by
  unfold slc
  constructor
  · rintro rfl
    refine ⟨by simp, fun j hj => ?_⟩
    simp at hj
    simp [List.getD, hj]
  · rintro ⟨a, b⟩
    refine List.ext_getElem (by simp [a]) (fun i h1 h2 => ?_)
    have := b i h2
    simp [List.getD, h2] at this
    simpa using this
def wix (l : List Nat) : Nat := if fa_first (fun j => wds.getD j [] == l) 12 < 12 then 256 + fa_first (fun j => wds.getD j [] == l) 12 else 2
theorem wds_inj : ∀ i, i < 12 → ∀ j, j < 12 → wds.getD i [] = wds.getD j [] → i = j := by decide +kernel
theorem wix_e {l : List Nat} {w : Nat} (hw : w < 12) : (wix l = 256 + w) ↔ wds.getD w [] = l := by
  unfold wix
  constructor
  · intro h
    by_cases c : fa_first (fun j => wds.getD j [] == l) 12 < 12
    · rw [if_pos c] at h
      have := fa_first_yes (fun j => wds.getD j [] == l) 12 c
      rw [show fa_first (fun j => wds.getD j [] == l) 12 = w by omega] at this
      exact beq_iff_eq.mp this
    · rw [if_neg c] at h
      omega
  · intro h
    have c : ¬ w < fa_first (fun j => wds.getD j [] == l) 12 := fun c => by
      have := fa_first_no (fun j => wds.getD j [] == l) 12 w c
      simp only [h] at this
      rw [beq_self_eq_true] at this
      cases this
    have c2 : fa_first (fun j => wds.getD j [] == l) 12 < 12 := by omega
    have := fa_first_yes (fun j => wds.getD j [] == l) 12 c2
    have := beq_iff_eq.mp this
    rw [if_pos c2, wds_inj _ c2 w hw (this.trans h.symm)]
theorem wix_c (l : List Nat) : wix l = 2 ∨ ∃ w, w < 12 ∧ wix l = 256 + w := by
  unfold wix
  by_cases c : fa_first (fun j => wds.getD j [] == l) 12 < 12
  · rw [if_pos c]
    exact Or.inr ⟨_, c, rfl⟩
  · rw [if_neg c]
    exact Or.inl rfl
/-- the value of that many digits -/
def nvp (B : Nat → Nat) (p : Nat) : Nat → Nat
  | 0 => 0
  | k + 1 => nvp B p k * 10 + (B (p + k) - 48)
def sta (B : Nat → Nat) (z p : Nat) : Nat := scz wsB B z p
def nx (B : Nat → Nat) (z p : Nat) : Nat := if z ≤ sta B z p then sta B z p else if lB (B (sta B z p)) = true then scz lB B z (sta B z p) else if dB (B (sta B z p)) = true then scz dB B z (sta B z p) else sta B z p + 1
def tk (B : Nat → Nat) (z p : Nat) : Nat := if z ≤ sta B z p then 0 else if lB (B (sta B z p)) = true then wix (slc B (sta B z p) (nx B z p)) else if dB (B (sta B z p)) = true then (if nx B z p - sta B z p ≤ 4 then 1 else 2) else if sgB (B (sta B z p)) = true then B (sta B z p) else 2
def nv (B : Nat → Nat) (z p : Nat) : Nat := nvp B (sta B z p) (nx B z p - sta B z p)
theorem sta_i {B : Nat → Nat} {z p : Nat} (h : p ≤ z) : p ≤ sta B z p ∧ sta B z p ≤ z := ⟨(scz_i _ p (Nat.le_refl _)).1, (scz_i _ p (Nat.le_refl _)).2.1 h⟩
theorem scz_s {q : Nat → Bool} {B : Nat → Nat} {z p : Nat} (h : p < z) (c : q (B p) = true) : p < scz q B z p := by
  rw [scz_e, if_pos ⟨h, c⟩]
  exact (scz_i _ (p + 1) (Nat.le_refl _)).1
theorem nx_i {B : Nat → Nat} {z p : Nat} (h : p ≤ z) : sta B z p ≤ nx B z p ∧ nx B z p ≤ z ∧ (tk B z p ≠ 0 → sta B z p < nx B z p) := by
  have s := sta_i (B := B) h
  unfold nx tk
  by_cases c : z ≤ sta B z p
  · rw [if_pos c, if_pos c]
    exact ⟨Nat.le_refl _, s.2, fun x => absurd rfl x⟩
  · rw [if_neg c, if_neg c]
    by_cases c1 : lB (B (sta B z p)) = true
    · rw [if_pos c1]
      have a := scz_i (q := lB) (B := B) _ (sta B z p) (Nat.le_refl (z - sta B z p))
      exact ⟨a.1, a.2.1 s.2, fun _ => scz_s (by omega) c1⟩
    · rw [if_neg c1]
      by_cases c2 : dB (B (sta B z p)) = true
      · rw [if_pos c2]
        have a := scz_i (q := dB) (B := B) _ (sta B z p) (Nat.le_refl (z - sta B z p))
        exact ⟨a.1, a.2.1 s.2, fun _ => scz_s (by omega) c2⟩
      · rw [if_neg c2]
        exact ⟨by omega, by omega, fun _ => by omega⟩
theorem nvp_le {B : Nat → Nat} {p : Nat} : ∀ k, (∀ i, i < k → B (p + i) ≤ 57) → nvp B p k < 10 ^ k
  | 0, _ => Nat.zero_lt_one
  | k + 1, h => by
    have := nvp_le k (fun i hi => h i (by omega))
    have := h k (by omega)
    show nvp B p k * 10 + (B (p + k) - 48) < 10 ^ (k + 1)
    rw [Nat.pow_succ]
    omega
theorem dB_le {b : Nat} (h : dB b = true) : 48 ≤ b ∧ b ≤ 57 := by
  unfold dB at h
  simp at h
  omega
theorem lB_le {b : Nat} (h : lB b = true) : 97 ≤ b ∧ b ≤ 122 := by
  unfold lB at h
  simp at h
  omega
theorem nv_le {B : Nat → Nat} {z p : Nat} (h : tk B z p = 1) : nv B z p < 10000 := by
  unfold tk at h
  by_cases c : z ≤ sta B z p
  · rw [if_pos c] at h
    cases h
  · rw [if_neg c] at h
    by_cases c1 : lB (B (sta B z p)) = true
    · rw [if_pos c1] at h
      rcases wix_c (slc B (sta B z p) (nx B z p)) with e | ⟨w, -, e⟩
      · omega
      · omega
    · rw [if_neg c1] at h
      by_cases c2 : dB (B (sta B z p)) = true
      · rw [if_pos c2] at h
        by_cases c3 : nx B z p - sta B z p ≤ 4
        · have e : nx B z p = scz dB B z (sta B z p) := by
            unfold nx
            rw [if_neg c, if_neg c1, if_pos c2]
          have a := scz_i (q := dB) (B := B) _ (sta B z p) (Nat.le_refl (z - sta B z p))
          have l := nvp_le (B := B) (p := sta B z p) (nx B z p - sta B z p) (fun i hi => (dB_le (a.2.2 (sta B z p + i) (by omega) (by omega)).2).2)
          have m : 10 ^ (nx B z p - sta B z p) ≤ 10 ^ 4 := Nat.pow_le_pow_right (by decide) c3
          unfold nv
          omega
        · rw [if_neg c3] at h
          cases h
      · rw [if_neg c2] at h
        by_cases c3 : sgB (B (sta B z p)) = true
        · rw [if_pos c3] at h
          rw [h] at c3
          cases c3
        · rw [if_neg c3] at h
          cases h
/-! the text's own reading of a token -/
def dLx (p k : Nat) : Bool := !(decide (p = 17) && (decide (2 ≤ k) && decide (k ≤ 5)))
def ClB (B : Nat → Nat) (z : Nat) (h : xH) : Prop := Shp h ∧ 51 ≤ hN h ∧ z ≤ 160 ∧ hI h 17 1 = nI z ∧ ∀ i, i < z → hI h 18 i = nI (B i) ∧ B i < 256
theorem ClB_fr {D : Nat → Nat → Bool} {B : Nat → Nat} {z : Nat} {h h' : xH} (C : ClB B z h) (s : Shp h') (x : Fr D h h') (d1 : D 17 1 = true) (d2 : ∀ k, D 18 k = true) : ClB B z h' := ⟨s, Nat.le_trans C.2.1 x.1, C.2.2.1, (x.v C.2.1 1 (by decide) d1).trans C.2.2.2.1, fun i hi => ⟨(x.v C.2.1 i (by decide) (d2 i)).trans (C.2.2.2.2 i hi).1, (C.2.2.2.2 i hi).2⟩⟩
section P66
variable {h : xH} {B : Nat → Nat} {z : Nat}
theorem Re_isLetter_e {b : Nat} (hb : b < 256) : f_Re_isLetter (nI b) h = some (b2i (lB b), h) := by
  unfold f_Re_isLetter lB
  simp only [jn]
  by_cases a : 97 ≤ b
  · rw [if_neg (show ¬ nI b < (97 : Int32) from nI_nlt (b := 97) a (by omega)), decide_eq_true a]
    by_cases c : b ≤ 122
    · rw [if_neg (show ¬ (122 : Int32) < nI b from nI_nlt (a := 122) c (by decide)), decide_eq_true c]
      rfl
    · rw [if_pos (show (122 : Int32) < nI b from nI_lt (a := 122) (by omega) (by omega)), decide_eq_false c]
      rfl
  · rw [if_pos (show nI b < (97 : Int32) from nI_lt (b := 97) (by omega) (by decide)), decide_eq_false a]
    rfl
theorem Re_isDigit_e {b : Nat} (hb : b < 256) : f_Re_isDigit (nI b) h = some (b2i (dB b), h) := by
  unfold f_Re_isDigit dB
  simp only [jn]
  by_cases a : 48 ≤ b
  · rw [if_neg (show ¬ nI b < (48 : Int32) from nI_nlt (b := 48) a (by omega)), decide_eq_true a]
    by_cases c : b ≤ 57
    · rw [if_neg (show ¬ (57 : Int32) < nI b from nI_nlt (a := 57) c (by decide)), decide_eq_true c]
      rfl
    · rw [if_pos (show (57 : Int32) < nI b from nI_lt (a := 57) (by omega) (by omega)), decide_eq_false c]
      rfl
  · rw [if_pos (show nI b < (48 : Int32) from nI_lt (b := 48) (by omega) (by decide)), decide_eq_false a]
    rfl
theorem Re_isSign_e : ∀ b, b < 256 → ∀ h, f_Re_isSign (nI b) h = some (b2i (sgB b), h) := by
  intro b hb h
  have e : ∀ b, b < 256 → (f_Re_isSign (nI b) x_h0).map (·.1) = some (b2i (sgB b)) := by decide +kernel
  have e2 := e b hb
  unfold f_Re_isSign at e2 ⊢
  simp only [jn] at e2 ⊢
  revert e2
  repeat' split
  all_goals
    intro e2
    injection e2 with e3
    rw [← e3]
theorem adv_ws : ∀ (m p n : Nat) (v : xH) (K : xH → Option (Unit × xH)), z - p ≤ m → p ≤ z → m < n → ClB B z v → hI v 17 3 = nI p → ∃ v', f_Re_advance_L0 17 n v K = K v' ∧ Shp v' ∧ Fr dLx v v' ∧ hI v' 17 3 = nI (sta B z p) := by
  intro m
  unfold sta
  induction m with
  | zero =>
    intro p n v K hm hp hn C e3
    obtain ⟨n, rfl⟩ : ∃ q, n = q + 1 := ⟨n - 1, by omega⟩
    have s := C.1
    have z160 := C.2.2.1
    refine ⟨v, ?_, s, Fr.refl v, by rw [scz_e, if_neg (fun x => by omega)]; exact e3⟩
    rw [f_Re_advance_L0, gd_t (by simp only [shp s]), C.2.2.2.1, e3, if_pos (nI_le (by omega) (by omega))]
  | succ m ih =>
    intro p n v K hm hp hn C e3
    obtain ⟨n, rfl⟩ : ∃ q, n = q + 1 := ⟨n - 1, by omega⟩
    have s := C.1
    have z160 := C.2.2.1
    rw [f_Re_advance_L0, gd_t (by simp only [shp s]), C.2.2.2.1, e3]
    by_cases c : p < z
    · obtain ⟨eb, hb⟩ := C.2.2.2.2 p c
      rw [if_neg (nI_ge (by omega) (by omega)), gd_t (by simp only [shp s]), gd_t (by simp only [shp s]; exact nI_in (show p < 160 by omega) (by decide)), show hR v 17 0 = 18 by simp only [shp s], nI_clamp (show p < 2 ^ 31 by omega), eb, nI_1]
      simp only [jn]
      have X : Fr dLx v (hIu v 17 3 (nI (p + 1))) := (Fr.refl v).I rfl
      obtain ⟨v', a1, a2, a3, a4⟩ := ih (p + 1) n (hIu v 17 3 (nI (p + 1))) K (by omega) (by omega) (by omega) (ClB_fr C s X rfl (fun _ => rfl)) (by rw [iI, if_pos ⟨rfl, rfl⟩])
      by_cases w : wsB (B p) = true
      · refine ⟨v', ?_, a2, X.trans a3, by rw [scz_e, if_pos ⟨c, w⟩]; exact a4⟩
        unfold wsB at w
        rw [Bool.or_eq_true, beq_iff_eq, beq_iff_eq] at w
        rcases w with w | w
        · rw [w, if_pos (show nI 32 = (32 : Int32) from rfl), a1]
        · rw [w, if_neg (show ¬ nI 10 = (32 : Int32) by decide), gd_t (by simp only [shp s]; exact nin (show p < 160 by omega) (by omega)), if_pos (show nI 10 = (10 : Int32) from rfl), a1]
      · refine ⟨v, ?_, s, Fr.refl v, by rw [scz_e, if_neg (fun x => w x.2)]; exact e3⟩
        unfold wsB at w
        rw [Bool.or_eq_true, beq_iff_eq, beq_iff_eq] at w
        rw [if_neg (show ¬ nI (B p) = (32 : Int32) from fun q => w (Or.inl ((nI_eq (b := 32) (by omega) (by decide)).mp q))), gd_t (by simp only [shp s]; exact nin (show p < 160 by omega) (by omega)), if_neg (show ¬ nI (B p) = (10 : Int32) from fun q => w (Or.inr ((nI_eq (b := 10) (by omega) (by decide)).mp q)))]
    · refine ⟨v, ?_, s, Fr.refl v, by rw [scz_e, if_neg (fun x => c x.1)]; exact e3⟩
      rw [if_pos (nI_le (by omega) (by omega))]
theorem adv_word : ∀ (m p n : Nat) (v : xH) (K : xH → Option (Int32 × xH)), z - p ≤ m → p ≤ z → m < n → ClB B z v → hI v 17 3 = nI p → ∃ v', f_Re_wordToken_L0 17 n v K = K v' ∧ Shp v' ∧ Fr dLx v v' ∧ hI v' 17 3 = nI (scz lB B z p) ∧ hI v' 17 2 = hI v 17 2 := by
  intro m
  induction m with
  | zero =>
    intro p n v K hm hp hn C e3
    obtain ⟨n, rfl⟩ : ∃ q, n = q + 1 := ⟨n - 1, by omega⟩
    have s := C.1
    have z160 := C.2.2.1
    refine ⟨v, ?_, s, Fr.refl v, by rw [scz_e, if_neg (fun x => by omega)]; exact e3, rfl⟩
    rw [f_Re_wordToken_L0, gd_t (by simp only [shp s]), C.2.2.2.1, e3, if_pos (nI_le (by omega) (by omega))]
  | succ m ih =>
    intro p n v K hm hp hn C e3
    obtain ⟨n, rfl⟩ : ∃ q, n = q + 1 := ⟨n - 1, by omega⟩
    have s := C.1
    have z160 := C.2.2.1
    rw [f_Re_wordToken_L0, gd_t (by simp only [shp s]), C.2.2.2.1, e3]
    by_cases c : p < z
    · obtain ⟨eb, hb⟩ := C.2.2.2.2 p c
      rw [if_neg (nI_ge (by omega) (by omega)), gd_t (by simp only [shp s]), gd_t (by simp only [shp s]; exact nI_in (show p < 160 by omega) (by decide)), show hR v 17 0 = 18 by simp only [shp s], nI_clamp (show p < 2 ^ 31 by omega), eb, Re_isLetter_e hb, bind_s]
      have X : Fr dLx v (hIu v 17 3 (nI (p + 1))) := (Fr.refl v).I rfl
      obtain ⟨v', a1, a2, a3, a4, a5⟩ := ih (p + 1) n (hIu v 17 3 (nI (p + 1))) K (by omega) (by omega) (by omega) (ClB_fr C s X rfl (fun _ => rfl)) (by rw [iI, if_pos ⟨rfl, rfl⟩])
      cases w : lB (B p) with
      | true =>
        refine ⟨v', ?_, a2, X.trans a3, by rw [scz_e, if_pos ⟨c, w⟩]; exact a4, a5⟩
        rw [if_neg (show ¬ b2i true = 0 by decide), gd_t (by simp only [shp s]), e3, nI_1, a1]
      | false =>
        refine ⟨v, ?_, s, Fr.refl v, by rw [scz_e, if_neg (fun x => by rw [w] at x; cases x.2)]; exact e3, rfl⟩
        rw [if_pos (show b2i false = 0 from rfl)]
    · refine ⟨v, ?_, s, Fr.refl v, by rw [scz_e, if_neg (fun x => c x.1)]; exact e3, rfl⟩
      rw [if_pos (nI_le (by omega) (by omega))]
theorem adv_num {p0 : Nat} : ∀ (m k n : Nat) (v : xH) (K : xH → Option (Int32 × xH)), z - (p0 + k) ≤ m → p0 + k ≤ z → m < n → ClB B z v → hI v 17 3 = nI (p0 + k) → hI v 17 5 = nI (nvp B p0 k) → ∃ v', f_Re_numberToken_L5 17 n v K = K v' ∧ Shp v' ∧ Fr dLx v v' ∧ hI v' 17 3 = nI (scz dB B z (p0 + k)) ∧ hI v' 17 2 = hI v 17 2 ∧ hI v' 17 5 = nI (nvp B p0 (scz dB B z (p0 + k) - p0)) := by
  intro m
  induction m with
  | zero =>
    intro k n v K hm hp hn C e3 e5
    obtain ⟨n, rfl⟩ : ∃ q, n = q + 1 := ⟨n - 1, by omega⟩
    have s := C.1
    have z160 := C.2.2.1
    have E : scz dB B z (p0 + k) = p0 + k := by rw [scz_e, if_neg (fun x => by omega)]
    refine ⟨v, ?_, s, Fr.refl v, by rw [E]; exact e3, rfl, by rw [E, Nat.add_sub_cancel_left]; exact e5⟩
    rw [f_Re_numberToken_L5, gd_t (by simp only [shp s]), C.2.2.2.1, e3, if_pos (nI_le (by omega) (by omega))]
  | succ m ih =>
    intro k n v K hm hp hn C e3 e5
    obtain ⟨n, rfl⟩ : ∃ q, n = q + 1 := ⟨n - 1, by omega⟩
    have s := C.1
    have z160 := C.2.2.1
    rw [f_Re_numberToken_L5, gd_t (by simp only [shp s]), C.2.2.2.1, e3]
    by_cases c : p0 + k < z
    · obtain ⟨eb, hb⟩ := C.2.2.2.2 (p0 + k) c
      have G : ¬ (nI (p0 + k) < 0 ∨ 160 ≤ p0 + k) := nin (by omega) (by omega)
      rw [if_neg (nI_ge (by omega) (by omega)), gd_t (by simp only [shp s]), nI_clamp (show p0 + k < 2 ^ 31 by omega), gd_t (by simp only [shp s]; exact G), show hR v 17 0 = 18 by simp only [shp s], eb, Re_isDigit_e hb, bind_s]
      cases w : dB (B (p0 + k)) with
      | true =>
        have X : Fr dLx v (hIu (hIu v 17 5 (nI (nvp B p0 (k + 1)))) 17 3 (nI (p0 + (k + 1)))) := ((Fr.refl v).I rfl).I rfl
        obtain ⟨v', a1, a2, a3, a4, a5, a6⟩ := ih (k + 1) n (hIu (hIu v 17 5 (nI (nvp B p0 (k + 1)))) 17 3 (nI (p0 + (k + 1)))) K (by omega) (by omega) (by omega) (ClB_fr C s X rfl (fun _ => rfl)) (by rw [iI, if_pos ⟨rfl, rfl⟩]) (by rw [iI, if_neg (by omega), iI, if_pos ⟨rfl, rfl⟩])
        have E : scz dB B z (p0 + k) = scz dB B z (p0 + (k + 1)) := by
          rw [scz_e, if_pos ⟨c, w⟩]
          rfl
        refine ⟨v', ?_, a2, X.trans a3, by rw [E]; exact a4, a5, by rw [E]; exact a6⟩
        have V : nI (nvp B p0 k) * (10 : Int32) + nI (B (p0 + k)) - (48 : Int32) = nI (nvp B p0 (k + 1)) := by
          show nI (nvp B p0 k) * nI 10 + nI (B (p0 + k)) - nI 48 = nI (nvp B p0 k * 10 + (B (p0 + k) - 48))
          have := dB_le w
          rw [li_mul, nI_add, li_sub (by omega)]
          congr 1
          omega
        rw [if_neg (show ¬ b2i true = 0 by decide), gd_t (by simp only [shp s]), gd_t (by simp only [shp s]), e3, nI_clamp (show p0 + k < 2 ^ 31 by omega), gd_t (by simp only [shp s]; exact G), e5, show hR v 17 0 = 18 by simp only [shp s], eb, V, iI, if_neg (by omega), e3, nI_1]
        exact a1
      | false =>
        have E : scz dB B z (p0 + k) = p0 + k := by rw [scz_e, if_neg (fun x => by rw [w] at x; cases x.2)]
        refine ⟨v, ?_, s, Fr.refl v, by rw [E]; exact e3, rfl, by rw [E, Nat.add_sub_cancel_left]; exact e5⟩
        rw [if_pos (show b2i false = 0 from rfl)]
    · have E : scz dB B z (p0 + k) = p0 + k := by rw [scz_e, if_neg (fun x => c x.1)]
      refine ⟨v, ?_, s, Fr.refl v, by rw [E]; exact e3, rfl, by rw [E, Nat.add_sub_cancel_left]; exact e5⟩
      rw [if_pos (nI_le (by omega) (by omega))]
theorem Sg_len : ∀ w, w < 12 → f_Sg_length (w + 1) h = some (nI (wds.getD w []).length, h) := by
  have e : ∀ w, w < 12 → (f_Sg_length (w + 1) x_h0).map (·.1) = some (nI (wds.getD w []).length) := by decide +kernel
  intro w hw
  have e2 := e w hw
  have ind : ∀ (w : Nat) (h2 : xH), f_Sg_length w h2 = (f_Sg_length w x_h0).map (fun q => (q.1, h2)) := by
    intro w h2
    unfold f_Sg_length f_Sg_coder
    simp only [jn, gd]
    repeat' split
    all_goals rfl
  rw [ind]
  cases c : f_Sg_length (w + 1) x_h0 with
  | none => rw [c] at e2; cases e2
  | some q =>
    rw [c] at e2
    injection e2 with e3
    show some (q.1, h) = _
    rw [← e3]
theorem Sg_chr : ∀ w, w < 12 → ∀ k, k < (wds.getD w []).length → f_Sg_charAt (w + 1) (nI k) h = some (nI ((wds.getD w []).getD k 0), h) := by
  have e : ∀ w, w < 12 → ∀ k, k < (wds.getD w []).length → (f_Sg_charAt (w + 1) (nI k) x_h0).map (·.1) = some (nI ((wds.getD w []).getD k 0)) := by decide +kernel
  intro w hw k hk
  have e2 := e w hw k hk
  have ind : ∀ (w : Nat) (i : Int32) (h2 : xH), f_Sg_charAt w i h2 = (f_Sg_charAt w i x_h0).map (fun q => (q.1, h2)) := by
    intro w i h2
    unfold f_Sg_charAt f_Sg_isLatin1 f_Sl_charAt f_Sg_checkIndex f_Pc_checkIndex
    simp only [jn, gd]
    repeat' split
    all_goals rfl
  rw [ind]
  cases c : f_Sg_charAt (w + 1) (nI k) x_h0 with
  | none => rw [c] at e2; cases e2
  | some q =>
    rw [c] at e2
    injection e2 with e3
    show some (q.1, h) = _
    rw [← e3]
theorem spells_e {p0 e w : Nat} (hw : w < 12) (C : ClB B z h) (e2 : hI h 17 2 = nI p0) (e3 : hI h 17 3 = nI e) (h1 : p0 ≤ e) (h2 : e ≤ z) : f_Re_spells 17 (w + 1) h = some (b2i (wds.getD w [] == slc B p0 e), h) := by
  have s := C.1
  have z160 := C.2.2.1
  have w8 : (wds.getD w []).length < 9 := by
    have : ∀ w, w < 12 → (wds.getD w []).length < 9 := by decide +kernel
    exact this w hw
  have hb : ∀ j, j < (wds.getD w []).length → (wds.getD w []).getD j 0 < 256 := by
    have : ∀ w, w < 12 → ∀ j, j < (wds.getD w []).length → (wds.getD w []).getD j 0 < 256 := by decide +kernel
    exact this w hw
  unfold f_Re_spells
  rw [gd_t (by omega), Sg_len w hw, bind_s, gd_t (by simp only [shp s]), e2, e3, li_sub h1]
  by_cases c : (wds.getD w []).length = e - p0
  · rw [if_pos (by rw [c])]
    refine lpf (fun n k (_ : Unit) => f_Re_spells_L20 17 (w + 1) n k h (fun v24 h25 => some ((1 : Int32), h25))) (fun o => o = some (b2i (wds.getD w [] == slc B p0 e), h)) (fun k _ => ∀ j, j < k → B (p0 + j) = (wds.getD w []).getD j 0) (wds.getD w []).length (i := 0) (s := ()) (Nat.zero_le _) (by omega) (fun j hj => absurd hj (Nat.not_lt_zero _)) ?_ ?_
    · intro n k _ hk P
      obtain ⟨eb, hbb⟩ := C.2.2.2.2 (p0 + k) (by omega)
      have E : f_Re_spells_L20 17 (w + 1) (n + 1) (nI k) h (fun v24 h25 => some ((1 : Int32), h25)) = (if nI (B (p0 + k)) = nI ((wds.getD w []).getD k 0) then f_Re_spells_L20 17 (w + 1) n (nI (k + 1)) h (fun v24 h25 => some ((1 : Int32), h25)) else some ((0 : Int32), h)) := by
        rw [f_Re_spells_L20, gd_t (by omega), Sg_len w hw, bind_s, if_neg (nI_ge hk (by omega)), gd_t (by simp only [shp s]), gd_t (by simp only [shp s]), e2, nI_add, nI_clamp (show p0 + k < 2 ^ 31 by omega), gd_t (by simp only [shp s]; exact nin (show p0 + k < 160 by omega) (by omega)), gd_t (by omega), Sg_chr w hw k hk, bind_s, show hR h 17 0 = 18 by simp only [shp s], eb, nI_1]
      by_cases q : B (p0 + k) = (wds.getD w []).getD k 0
      · refine Or.inr ⟨(), E.trans (if_pos (by rw [q])), fun j hj => ?_⟩
        rcases (by omega : j < k ∨ j = k) with u | u
        · exact P j u
        · rw [u]
          exact q
      · refine Or.inl ((E.trans (if_neg (fun z => q ((nI_eq (by omega) (by have := hb k hk; omega)).mp z)))).trans ?_)
        rw [show (wds.getD w [] == slc B p0 e) = false from beq_eq_false_iff_ne.mpr (fun z => q ((slc_eq.mp z.symm).2 k hk))]
        rfl
    · intro n _ P
      show f_Re_spells_L20 17 (w + 1) (n + 1) (nI (wds.getD w []).length) h _ = _
      rw [f_Re_spells_L20, gd_t (by omega), Sg_len w hw, bind_s, if_pos (nI_le (Nat.le_refl _) (by omega)), show (wds.getD w [] == slc B p0 e) = true from beq_iff_eq.mpr (slc_eq.mpr ⟨c.symm, P⟩).symm]
      rfl
  · rw [if_neg (fun q => c ((nI_eq (by omega) (by omega)).mp q)), show (wds.getD w [] == slc B p0 e) = false from beq_eq_false_iff_ne.mpr (fun z => c (slc_eq.mp z.symm).1.symm)]
    rfl
theorem wordOf_e {w : Nat} (hw : w < 12) : f_Re_wordOf (nI w) h = some (w + 1, h) := by
  rcases (by omega : w = 0 ∨ w = 1 ∨ w = 2 ∨ w = 3 ∨ w = 4 ∨ w = 5 ∨ w = 6 ∨ w = 7 ∨ w = 8 ∨ w = 9 ∨ w = 10 ∨ w = 11) with rfl | rfl | rfl | rfl | rfl | rfl | rfl | rfl | rfl | rfl | rfl | rfl <;> rfl
theorem wordToken_e {p0 : Nat} (C : ClB B z h) (e2 : hI h 17 2 = nI p0) (e3 : hI h 17 3 = nI p0) (hp : p0 ≤ z) : ∃ h', f_Re_wordToken 17 h = some (nI (wix (slc B p0 (scz lB B z p0))), h') ∧ Shp h' ∧ Fr dLx h h' ∧ hI h' 17 2 = nI p0 ∧ hI h' 17 3 = nI (scz lB B z p0) := by
  have z160 := C.2.2.1
  have si := scz_i (q := lB) (B := B) _ p0 (Nat.le_refl (z - p0))
  unfold f_Re_wordToken
  obtain ⟨v, a1, a2, a3, a4, a5⟩ := adv_word z p0 fu h (fun h16 => f_Re_wordToken_L41 17 fu (0 : Int32) h16 (fun v22 h23 => some ((2 : Int32), h23))) (by omega) hp (by show z < 2000; omega) C e3
  rw [a1]
  rw [e2] at a5
  have C2 : ClB B z v := ClB_fr C a2 a3 rfl (fun _ => rfl)
  refine ⟨v, ?_, a2, a3, a5, a4⟩
  refine lpf (fun n k (_ : Unit) => f_Re_wordToken_L41 17 n k v (fun v22 h23 => some ((2 : Int32), h23))) (fun o => o = some (nI (wix (slc B p0 (scz lB B z p0))), v)) (fun k _ => ∀ j, j < k → ¬ wds.getD j [] = slc B p0 (scz lB B z p0)) 12 (i := 0) (s := ()) (Nat.zero_le _) (by omega) (fun j hj => absurd hj (Nat.not_lt_zero _)) ?_ ?_
  · intro n k _ hk P
    have E : f_Re_wordToken_L41 17 (n + 1) (nI k) v (fun v22 h23 => some ((2 : Int32), h23)) = (if b2i (wds.getD k [] == slc B p0 (scz lB B z p0)) = 0 then f_Re_wordToken_L41 17 n (nI (k + 1)) v (fun v22 h23 => some ((2 : Int32), h23)) else some ((256 : Int32) + nI k, v)) := by
      rw [f_Re_wordToken_L41, if_neg (show ¬ (12 : Int32) ≤ nI k from nI_ge (b := 12) hk (by decide)), wordOf_e hk, bind_s, gd_t (by simp only [shp a2]), spells_e hk C2 a5 a4 si.1 (si.2.1 hp), bind_s, nI_1]
    by_cases q : wds.getD k [] = slc B p0 (scz lB B z p0)
    · refine Or.inl (E.trans ?_)
      rw [(wix_e hk).mpr q, if_neg (by rw [beq_iff_eq.mpr q]; decide), show (256 : Int32) = nI 256 from rfl, nI_add]
    · refine Or.inr ⟨(), E.trans (if_pos (by rw [beq_eq_false_iff_ne.mpr q]; rfl)), fun j hj => ?_⟩
      rcases (by omega : j < k ∨ j = k) with u | u
      · exact P j u
      · rw [u]
        exact q
  · intro n _ P
    show f_Re_wordToken_L41 17 (n + 1) (nI 12) v _ = _
    rw [f_Re_wordToken_L41, if_pos (show (12 : Int32) ≤ nI 12 by decide)]
    rcases wix_c (slc B p0 (scz lB B z p0)) with e | ⟨w, hw, e⟩
    · rw [e]
      rfl
    · exact absurd ((wix_e hw).mp e) (P w hw)
/-- a token that was read -/
def ClT (B : Nat → Nat) (z p : Nat) (h : xH) : Prop := hI h 17 2 = nI (sta B z p) ∧ hI h 17 3 = nI (nx B z p) ∧ hI h 17 4 = nI (tk B z p) ∧ (tk B z p = 1 → hI h 17 5 = nI (nv B z p))
theorem advance_e {p : Nat} (C : ClB B z h) (e3 : hI h 17 3 = nI p) (hp : p ≤ z) : ∃ h', f_Re_advance 17 h = some ((), h') ∧ Shp h' ∧ Fr dLx h h' ∧ ClT B z p h' := by
  have z160 := C.2.2.1
  have si := sta_i (B := B) hp
  unfold f_Re_advance
  obtain ⟨v, a1, a2, a3, a4⟩ := adv_ws z p fu h (fun h35 => gd (hK h35 17 = 1) (jn (fun (x37 : xH) => some ((), x37)) (fun k38 => if (hI (hIu h35 17 2 (hI h35 17 3)) 17 2) < (hI (hIu h35 17 2 (hI h35 17 3)) 17 1) then gd (hK h35 (hR h35 17 0) = 12) (gd (¬ ((hI (hIu h35 17 2 (hI h35 17 3)) 17 2) < 0 ∨ hL h35 (hR h35 17 0) ≤ (hI (hIu h35 17 2 (hI h35 17 3)) 17 2).toNatClampNeg)) (Option.bind (f_Re_isLetter (hI (hIu h35 17 2 (hI h35 17 3)) (hR h35 17 0) (hI (hIu h35 17 2 (hI h35 17 3)) 17 2).toNatClampNeg) (hIu h35 17 2 (hI h35 17 3))) (fun q42 => if q42.1 = 0 then gd (hK q42.2 17 = 1) (gd (hK q42.2 (hR q42.2 17 0) = 12) (gd (¬ ((hI q42.2 17 2) < 0 ∨ hL q42.2 (hR q42.2 17 0) ≤ (hI q42.2 17 2).toNatClampNeg)) (Option.bind (f_Re_isDigit (hI q42.2 (hR q42.2 17 0) (hI q42.2 17 2).toNatClampNeg) q42.2) (fun q47 => if q47.1 = 0 then gd (hK q47.2 17 = 1) (gd (hK q47.2 (hR q47.2 17 0) = 12) (gd (¬ ((hI (hIu q47.2 17 3 ((hI q47.2 17 2) + (1 : Int32))) 17 2) < 0 ∨ hL q47.2 (hR q47.2 17 0) ≤ (hI (hIu q47.2 17 3 ((hI q47.2 17 2) + (1 : Int32))) 17 2).toNatClampNeg)) (Option.bind (f_Re_isSign (hI (hIu q47.2 17 3 ((hI q47.2 17 2) + (1 : Int32))) (hR q47.2 17 0) (hI (hIu q47.2 17 3 ((hI q47.2 17 2) + (1 : Int32))) 17 2).toNatClampNeg) (hIu q47.2 17 3 ((hI q47.2 17 2) + (1 : Int32)))) (fun q52 => jn (fun (x53 : Int32) => gd (hK q52.2 17 = 1) (k38 (hIu q52.2 17 4 x53))) (fun k54 => if q52.1 = 0 then k54 (2 : Int32) else gd (hK q52.2 17 = 1) (gd (hK q52.2 (hR q52.2 17 0) = 12) (gd (¬ ((hI q52.2 17 2) < 0 ∨ hL q52.2 (hR q52.2 17 0) ≤ (hI q52.2 17 2).toNatClampNeg)) (k54 (hI q52.2 (hR q52.2 17 0) (hI q52.2 17 2).toNatClampNeg))))))))) else gd (hK q47.2 17 = 1) (Option.bind (f_Re_numberToken 17 q47.2) (fun q60 => gd (hK q60.2 17 = 1) (k38 (hIu q60.2 17 4 q60.1)))))))) else gd (hK q42.2 17 = 1) (Option.bind (f_Re_wordToken 17 q42.2) (fun q63 => gd (hK q63.2 17 = 1) (k38 (hIu q63.2 17 4 q63.1))))))) else k38 (hIu (hIu h35 17 2 (hI h35 17 3)) 17 4 (0 : Int32))))) (by omega) hp (by show z < 2000; omega) C e3
  rw [a1]
  have C1 : ClB B z v := ClB_fr C a2 a3 rfl (fun _ => rfl)
  have X2 : Fr dLx v (hIu v 17 2 (nI (sta B z p))) := (Fr.refl v).I rfl
  have C2 : ClB B z (hIu v 17 2 (nI (sta B z p))) := ClB_fr C1 a2 X2 rfl (fun _ => rfl)
  have f2 : hI (hIu v 17 2 (nI (sta B z p))) 17 2 = nI (sta B z p) := by rw [iI, if_pos ⟨rfl, rfl⟩]
  have f3 : hI (hIu v 17 2 (nI (sta B z p))) 17 3 = nI (sta B z p) := by rw [iI, if_neg (by omega)]; exact a4
  rw [gd_t (by simp only [shp a2]), a4]
  simp only [jn]
  have F2 := a3.trans X2
  have s2 : Shp (hIu v 17 2 (nI (sta B z p))) := a2
  rw [f2, C2.2.2.2.1, show hR v 17 0 = 18 by simp only [shp a2], show hL v 18 = 160 by simp only [shp a2]]
  generalize hIu v 17 2 (nI (sta B z p)) = u at *
  by_cases c : sta B z p < z
  · obtain ⟨eb, hb⟩ := C2.2.2.2.2 _ c
    have G : ¬ (nI (sta B z p) < 0 ∨ 160 ≤ sta B z p) := nin (by omega) (by omega)
    rw [if_pos (nI_lt c (by omega)), gd_t (by simp only [shp a2]), nI_clamp (show sta B z p < 2 ^ 31 by omega), gd_t G, eb, Re_isLetter_e hb, bind_s]
    cases c1 : lB (B (sta B z p)) with
    | true =>
      obtain ⟨h', b1, b2, b3, b4, b5⟩ := wordToken_e C2 f2 f3 si.2
      have en : nx B z p = scz lB B z (sta B z p) := by
        unfold nx
        rw [if_neg (by omega), if_pos c1]
      rw [if_neg (show ¬ b2i true = 0 by decide), gd_t (by simp only [shp s2]), b1, bind_s, gd_t (by simp only [shp b2])]
      have et : tk B z p = wix (slc B (sta B z p) (scz lB B z (sta B z p))) := by
        unfold tk
        rw [if_neg (by omega), if_pos c1, en]
      refine ⟨_, rfl, b2, (F2.trans b3).I rfl, by rw [iI, if_neg (by omega)]; exact b4, by rw [iI, if_neg (by omega), en]; exact b5, by rw [iI, if_pos ⟨rfl, rfl⟩, et], fun q => ?_⟩
      exfalso
      rw [et] at q
      rcases wix_c (slc B (sta B z p) (scz lB B z (sta B z p))) with e | ⟨w, -, e⟩
      · omega
      · omega
    | false =>
      rw [if_pos (show b2i false = 0 from rfl), gd_t (by simp only [shp s2]), f2, show hR u 17 0 = 18 by simp only [shp s2], gd_t (by simp only [shp s2]), nI_clamp (show sta B z p < 2 ^ 31 by omega), gd_t (by simp only [shp s2]; exact G), eb, Re_isDigit_e hb, bind_s]
      cases c2 : dB (B (sta B z p)) with
      | true =>
        have en : nx B z p = scz dB B z (sta B z p) := by
          unfold nx
          rw [if_neg (by omega), if_neg (by rw [c1]; decide), if_pos c2]
        have et : tk B z p = (if nx B z p - sta B z p ≤ 4 then 1 else 2) := by
          unfold tk
          rw [if_neg (by omega), if_neg (by rw [c1]; decide), if_pos c2]
        have X5 : Fr dLx u (hIu u 17 5 (0 : Int32)) := (Fr.refl u).I rfl
        obtain ⟨h', b1, b2, b3, b4, b5, b6⟩ := adv_num (B := B) (z := z) (p0 := sta B z p) z 0 fu (hIu u 17 5 (0 : Int32)) (fun h21 => gd (hK h21 17 = 1) (some ((if ((hI h21 17 3) - (hI h21 17 2)) ≤ (4 : Int32) then (1 : Int32) else (2 : Int32)), h21))) (by omega) (by omega) (by show z < 2000; omega) (ClB_fr C2 s2 X5 rfl (fun _ => rfl)) (by rw [iI, if_neg (by omega)]; exact f3) (by rw [iI, if_pos ⟨rfl, rfl⟩]; rfl)
        rw [Nat.add_zero] at b4 b6
        rw [← en] at b4 b6
        have b5 : hI h' 17 2 = nI (sta B z p) := b5.trans (by rw [iI, if_neg (by omega)]; exact f2)
        have ni := nx_i (B := B) hp
        have A : f_Re_numberToken 17 u = some (nI (tk B z p), h') := by
          unfold f_Re_numberToken
          rw [gd_t (by simp only [shp s2]), b1, gd_t (by simp only [shp b2]), b4, b5, li_sub ni.1, et]
          by_cases q : nx B z p - sta B z p ≤ 4
          · rw [if_pos (show nI (nx B z p - sta B z p) ≤ (4 : Int32) from nI_le (b := 4) q (by decide)), if_pos q]
            rfl
          · rw [if_neg (show ¬ nI (nx B z p - sta B z p) ≤ (4 : Int32) from nI_ge (a := 4) (by omega) (by omega)), if_neg q]
            rfl
        rw [if_neg (show ¬ b2i true = 0 by decide), gd_t (by simp only [shp s2]), A, bind_s, gd_t (by simp only [shp b2])]
        exact ⟨_, rfl, b2, ((F2.trans X5).trans b3).I rfl, by rw [iI, if_neg (by omega)]; exact b5, by rw [iI, if_neg (by omega)]; exact b4, by rw [iI, if_pos ⟨rfl, rfl⟩], fun _ => by rw [iI, if_neg (by omega)]; exact b6⟩
      | false =>
        have en : nx B z p = sta B z p + 1 := by
          unfold nx
          rw [if_neg (by omega), if_neg (by rw [c1]; decide), if_neg (by rw [c2]; decide)]
        have et : tk B z p = (if sgB (B (sta B z p)) = true then B (sta B z p) else 2) := by
          unfold tk
          rw [if_neg (by omega), if_neg (by rw [c1]; decide), if_neg (by rw [c2]; decide)]
        have s3 : Shp (hIu u 17 3 (nI (sta B z p + 1))) := s2
        have g2 : hI (hIu u 17 3 (nI (sta B z p + 1))) 17 2 = nI (sta B z p) := by rw [iI, if_neg (by omega)]; exact f2
        have gb : hI (hIu u 17 3 (nI (sta B z p + 1))) 18 (sta B z p) = nI (B (sta B z p)) := by rw [iI, if_neg (by omega)]; exact eb
        have n1 : ¬ tk B z p = 1 := fun q => by
          rw [et] at q
          cases c3 : sgB (B (sta B z p)) with
          | true =>
            rw [c3, if_pos rfl] at q
            rw [q] at c3
            cases c3
          | false =>
            rw [c3, if_neg (by decide)] at q
            cases q
        have FIN : ∀ x : Int32, x = nI (tk B z p) → ∃ h', some ((), hIu (hIu u 17 3 (nI (sta B z p + 1))) 17 4 x) = some ((), h') ∧ Shp h' ∧ Fr dLx h h' ∧ ClT B z p h' := by
          rintro x rfl
          exact ⟨_, rfl, s2, (F2.I rfl).I rfl, by rw [iI, if_neg (by omega), iI, if_neg (by omega)]; exact f2, by rw [iI, if_neg (by omega), iI, if_pos ⟨rfl, rfl⟩, en], by rw [iI, if_pos ⟨rfl, rfl⟩], fun q => absurd q n1⟩
        rw [if_pos (show b2i false = 0 from rfl), gd_t (by simp only [shp s2]), f2, nI_1, g2, show hR u 17 0 = 18 by simp only [shp s2], gd_t (by simp only [shp s2]), nI_clamp (show sta B z p < 2 ^ 31 by omega), gd_t (by simp only [shp s2]; exact G), gb, Re_isSign_e _ hb, bind_s]
        cases c3 : sgB (B (sta B z p)) with
        | true =>
          rw [if_neg (show ¬ b2i true = 0 by decide), gd_t (by simp only [shp s3]), g2, show hR (hIu u 17 3 (nI (sta B z p + 1))) 17 0 = 18 by simp only [shp s3], gd_t (by simp only [shp s3]), nI_clamp (show sta B z p < 2 ^ 31 by omega), gd_t (by simp only [shp s3]; exact G), gb, gd_t (by simp only [shp s3])]
          exact FIN _ (by rw [et, c3, if_pos rfl])
        | false =>
          rw [if_pos (show b2i false = 0 from rfl), gd_t (by simp only [shp s3])]
          exact FIN _ (by rw [et, c3, if_neg (by decide)]; rfl)
  · rw [if_neg (nI_nlt (by omega) (by omega))]
    have en : nx B z p = sta B z p := by
      unfold nx
      rw [if_pos (by omega)]
    have et : tk B z p = 0 := by
      unfold tk
      rw [if_pos (by omega)]
    exact ⟨_, rfl, s2, F2.I rfl, by rw [iI, if_neg (by omega)]; exact f2, by rw [iI, if_neg (by omega), en]; exact f3, by rw [iI, if_pos ⟨rfl, rfl⟩, et]; rfl, fun q => by rw [et] at q; cases q⟩
end P66

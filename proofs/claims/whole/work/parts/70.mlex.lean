/-! the reference's reading of a token -/
theorem w64 (n : Nat) (h : n < 2147483648) : (nI n).toInt64 = Int64.ofNat n := by
  apply Int64.toInt_inj.mp
  rw [Int32.toInt_toInt64, Int64.toInt_ofNat_of_lt (by omega)]
  exact Int32.toInt_ofNat_of_lt (by omega)
theorem w64b (v b : Nat) (hv : v < 100000) (hb : b < 256) (h48 : 48 ≤ b) : (10 : Int64) * (nI v).toInt64 + (nI b).toInt64 - (48 : Int64) = (nI (v * 10 + (b - 48))).toInt64 := by
  rw [w64 v (by omega), w64 b (by omega), w64 _ (by omega)]
  show Int64.ofNat 10 * Int64.ofNat v + Int64.ofNat b - Int64.ofNat 48 = _
  rw [← Int64.ofNat_mul, ← Int64.ofNat_add, ← Int64.ofNat_sub _ _ (by omega), show 10 * v + b - 48 = v * 10 + (b - 48) by omega]
theorem jC0 (x y : Int32) : (jCmpL x.toInt64 y.toInt64 = 0) = (x = y) := propext ((lg_cmp_eq _ _).trans (fa_wide_eq x y))
def kd (B : Nat → Nat) (z p : Nat) : Nat := if z ≤ sta B z p then 0 else if lB (B (sta B z p)) = true then 1 else if dB (B (sta B z p)) = true then (if nx B z p - sta B z p ≤ 4 then 2 else 4) else if sgB (B (sta B z p)) = true then 3 else 4
theorem sg_b {c : Nat} (h : sgB c = true) : 40 ≤ c ∧ c ≤ 61 := by
  unfold sgB at h
  simp at h
  omega
theorem kd_c (B : Nat → Nat) (z p : Nat) : (kd B z p = 0 ∧ tk B z p = 0) ∨ (kd B z p = 1 ∧ tk B z p = wix (slc B (sta B z p) (nx B z p)) ∧ nx B z p = scz lB B z (sta B z p)) ∨ (kd B z p = 2 ∧ tk B z p = 1) ∨ (kd B z p = 3 ∧ sgB (tk B z p) = true) ∨ (kd B z p = 4 ∧ tk B z p = 2) := by
  unfold kd tk
  by_cases c : z ≤ sta B z p
  · simp only [if_pos c]
    exact Or.inl ⟨trivial, trivial⟩
  · simp only [if_neg c]
    by_cases c1 : lB (B (sta B z p)) = true
    · simp only [if_pos c1]
      refine Or.inr (Or.inl ⟨trivial, trivial, ?_⟩)
      unfold nx
      rw [if_neg c, if_pos c1]
    · simp only [if_neg c1]
      by_cases c2 : dB (B (sta B z p)) = true
      · simp only [if_pos c2]
        by_cases c3 : nx B z p - sta B z p ≤ 4
        · simp only [if_pos c3]
          exact Or.inr (Or.inr (Or.inl ⟨trivial, trivial⟩))
        · simp only [if_neg c3]
          exact Or.inr (Or.inr (Or.inr (Or.inr ⟨trivial, trivial⟩)))
      · simp only [if_neg c2]
        by_cases c3 : sgB (B (sta B z p)) = true
        · simp only [if_pos c3]
          exact Or.inr (Or.inr (Or.inr (Or.inl ⟨trivial, c3⟩)))
        · simp only [if_neg c3]
          exact Or.inr (Or.inr (Or.inr (Or.inr ⟨trivial, trivial⟩)))
def dMx (p k : Nat) : Bool := !(decide (p = 36) && (decide (21 ≤ k) && decide (k ≤ 24)))
theorem dPar_mx {p k : Nat} (h : dPar p k = true) : dMx p k = true := by
  cases e : dMx p k with
  | true => rfl
  | false =>
    have e2 : p = 36 ∧ 21 ≤ k ∧ k ≤ 24 := by
      simp [dMx] at e
      omega
    obtain ⟨rfl, q1, q2⟩ := e2
    rcases (by omega : k = 21 ∨ k = 22 ∨ k = 23 ∨ k = 24) with rfl | rfl | rfl | rfl <;> cases h
/-- what is the same, wherever it lies -/
def Fs (D : Nat → Nat → Bool) (h h' : xH) : Prop := hN h ≤ hN h' ∧ ∀ p, hK h' p = hK h p ∧ hL h' p = hL h p ∧ ∀ k, D p k = true → hI h' p k = hI h p k ∧ hR h' p k = hR h p k
theorem Fs.refl {D : Nat → Nat → Bool} (h : xH) : Fs D h h := ⟨Nat.le_refl _, fun _ => ⟨rfl, rfl, fun _ _ => ⟨rfl, rfl⟩⟩⟩
theorem Fs.trans {D : Nat → Nat → Bool} {a b c : xH} (x : Fs D a b) (y : Fs D b c) : Fs D a c := ⟨Nat.le_trans x.1 y.1, fun p => ⟨(y.2 p).1.trans (x.2 p).1, (y.2 p).2.1.trans (x.2 p).2.1, fun k hk => ⟨((y.2 p).2.2 k hk).1.trans ((x.2 p).2.2 k hk).1, ((y.2 p).2.2 k hk).2.trans ((x.2 p).2.2 k hk).2⟩⟩⟩
theorem Fs.mono {D E : Nat → Nat → Bool} {a b : xH} (h : ∀ p k, E p k = true → D p k = true) (x : Fs D a b) : Fs E a b := ⟨x.1, fun p => ⟨(x.2 p).1, (x.2 p).2.1, fun k hk => (x.2 p).2.2 k (h p k hk)⟩⟩
theorem Fs.I {D : Nat → Nat → Bool} {a b : xH} (x : Fs D a b) {p k : Nat} {v : Int32} (h : D p k = false) : Fs D a (hIu b p k v) := ⟨x.1, fun q => ⟨(x.2 q).1, (x.2 q).2.1, fun j hj => ⟨by
  rw [iI, if_neg (by rintro ⟨rfl, rfl⟩; rw [h] at hj; cases hj)]
  exact ((x.2 q).2.2 j hj).1, ((x.2 q).2.2 j hj).2⟩⟩⟩
theorem Fs.v {D : Nat → Nat → Bool} {h h' : xH} (x : Fs D h h') (_ : 0 ≤ hN h) {p : Nat} (k : Nat) (_ : p < 51) (d : D p k = true) : hI h' p k = hI h p k := ((x.2 p).2.2 k d).1
theorem Fs.fr {D : Nat → Nat → Bool} {h h' : xH} (x : Fs D h h') : Fr D h h' := ⟨x.1, fun p _ => x.2 p⟩
def MlB (B : Nat → Nat) (t z : Nat) (h : xH) : Prop := Shp h ∧ 0 ≤ hN h ∧ z ≤ 160 ∧ t < 6 ∧ hI h 36 19 = nI (160 * t) ∧ hI h 36 20 = nI z ∧ ∀ i, i < z → hI h 37 (160 * t + i) = nI (B i) ∧ B i < 256
theorem MlB_fr {D : Nat → Nat → Bool} {B : Nat → Nat} {t z : Nat} {h h' : xH} (C : MlB B t z h) (s : Shp h') (x : Fs D h h') (d1 : D 36 19 = true) (d2 : D 36 20 = true) (d3 : ∀ k, D 37 k = true) : MlB B t z h' := ⟨s, Nat.le_trans C.2.1 x.1, C.2.2.1, C.2.2.2.1, (x.v C.2.1 19 (by decide) d1).trans C.2.2.2.2.1, (x.v C.2.1 20 (by decide) d2).trans C.2.2.2.2.2.1, fun i hi => ⟨(x.v C.2.1 _ (by decide) (d3 _)).trans (C.2.2.2.2.2.2 i hi).1, (C.2.2.2.2.2.2 i hi).2⟩⟩
section P70
variable {h : xH} {B : Nat → Nat} {t z p : Nat}
theorem byteAt_e (C : MlB B t z h) (hp : p < 2000) : f_Mo_byteAt 36 (nI p) h = some (if p < z then nI (B p) else -1, h) := by
  have s := C.1
  have z160 := C.2.2.1
  have t6 := C.2.2.2.1
  unfold f_Mo_byteAt
  rw [gd_t (by simp only [shp s]), C.2.2.2.2.2.1]
  simp only [jn]
  by_cases c : p < z
  · rw [if_neg (nI_ge c (by omega)), C.2.2.2.2.1, nI_add, nI_clamp (show 160 * t + p < 2 ^ 31 by omega), gd_t (by simp only [shp s]), gd_t (by simp only [shp s]; exact nin (show 160 * t + p < 960 by omega) (by omega)), show hR h 36 1 = 37 by simp only [shp s], (C.2.2.2.2.2.2 p c).1, if_pos c]
  · rw [if_pos (nI_le (by omega) (by omega)), if_neg c]
theorem in_lB {b : Nat} (hb : b < 256) : f_Mo_in (nI b).toInt64 (97 : Int64) (122 : Int64) h = some (b2i (lB b), h) := by
  rw [show (97 : Int64) = (nI 97).toInt64 by decide, show (122 : Int64) = (nI 122).toInt64 by decide, Mo_in_c]
  have e : ∀ b, b < 256 → (if nI b < nI 97 then nI 0 else if nI 122 < nI b then nI 0 else nI 1) = b2i (lB b) := by decide +kernel
  rw [e b hb]
theorem in_dB {b : Nat} (hb : b < 256) : f_Mo_in (nI b).toInt64 (48 : Int64) (57 : Int64) h = some (b2i (dB b), h) := by
  rw [show (48 : Int64) = (nI 48).toInt64 by decide, show (57 : Int64) = (nI 57).toInt64 by decide, Mo_in_c]
  have e : ∀ b, b < 256 → (if nI b < nI 48 then nI 0 else if nI 57 < nI b then nI 0 else nI 1) = b2i (dB b) := by decide +kernel
  rw [e b hb]
theorem in_lB1 : f_Mo_in (-1 : Int32).toInt64 (97 : Int64) (122 : Int64) h = some (b2i false, h) := by
  rw [show (97 : Int64) = (nI 97).toInt64 by decide, show (122 : Int64) = (nI 122).toInt64 by decide, Mo_in_c, if_pos (by decide)]
  rfl
theorem in_dB1 : f_Mo_in (-1 : Int32).toInt64 (48 : Int64) (57 : Int64) h = some (b2i false, h) := by
  rw [show (48 : Int64) = (nI 48).toInt64 by decide, show (57 : Int64) = (nI 57).toInt64 by decide, Mo_in_c, if_pos (by decide)]
  rfl
theorem nxt_ws : ∀ (m p n : Nat) (v : xH) (K : xH → Option (Unit × xH)), z - p ≤ m → p ≤ z → m < n → MlB B t z v → hI v 36 21 = nI p → ∃ v', f_Mo_next_L0 36 n v K = K v' ∧ Shp v' ∧ Fs dMx v v' ∧ hI v' 36 21 = nI (sta B z p) := by
  intro m
  unfold sta
  induction m with
  | zero =>
    intro p n v K hm hp hn C e3
    obtain ⟨n, rfl⟩ : ∃ q, n = q + 1 := ⟨n - 1, by omega⟩
    have s := C.1
    have z160 := C.2.2.1
    refine ⟨v, ?_, s, Fs.refl v, by rw [scz_e, if_neg (fun x => by omega)]; exact e3⟩
    have np : ¬ p < z := by omega
    rw [f_Mo_next_L0, gd_t (by simp only [shp s]), e3, byteAt_e C (by omega), bind_s, if_neg np]
    simp only [jn]
    rw [if_neg (show ¬ (-1 : Int32) = 32 by decide), gd_t (by simp only [shp s]), e3, byteAt_e C (by omega), bind_s, if_neg np, if_neg (show ¬ (-1 : Int32) = 10 by decide)]
  | succ m ih =>
    intro p n v K hm hp hn C e3
    obtain ⟨n, rfl⟩ : ∃ q, n = q + 1 := ⟨n - 1, by omega⟩
    have s := C.1
    have z160 := C.2.2.1
    rw [f_Mo_next_L0, gd_t (by simp only [shp s]), e3, byteAt_e C (by omega), bind_s]
    simp only [jn]
    rw [gd_t (by simp only [shp s]), gd_t (by simp only [shp s]), e3, byteAt_e C (by omega), bind_s, nI_1]
    by_cases c : p < z
    · obtain ⟨eb, hb⟩ := C.2.2.2.2.2.2 p c
      simp only [if_pos c]
      have X : Fs dMx v (hIu v 36 21 (nI (p + 1))) := (Fs.refl v).I rfl
      obtain ⟨v', a1, a2, a3, a4⟩ := ih (p + 1) n (hIu v 36 21 (nI (p + 1))) K (by omega) (by omega) (by omega) (MlB_fr C s X rfl rfl (fun _ => rfl)) (by rw [iI, if_pos ⟨rfl, rfl⟩])
      by_cases w : wsB (B p) = true
      · refine ⟨v', ?_, a2, X.trans a3, by rw [scz_e, if_pos ⟨c, w⟩]; exact a4⟩
        unfold wsB at w
        rw [Bool.or_eq_true, beq_iff_eq, beq_iff_eq] at w
        rcases w with w | w
        · rw [w, if_pos (show nI 32 = (32 : Int32) from rfl), a1]
        · rw [w, if_neg (show ¬ nI 10 = (32 : Int32) by decide), if_pos (show nI 10 = (10 : Int32) from rfl), gd_t (by simp only [shp s]), e3, nI_1, a1]
      · refine ⟨v, ?_, s, Fs.refl v, by rw [scz_e, if_neg (fun x => w x.2)]; exact e3⟩
        unfold wsB at w
        rw [Bool.or_eq_true, beq_iff_eq, beq_iff_eq] at w
        rw [if_neg (show ¬ nI (B p) = (32 : Int32) from fun q => w (Or.inl ((nI_eq (b := 32) (by omega) (by decide)).mp q))), if_neg (show ¬ nI (B p) = (10 : Int32) from fun q => w (Or.inr ((nI_eq (b := 10) (by omega) (by decide)).mp q)))]
    · refine ⟨v, ?_, s, Fs.refl v, by rw [scz_e, if_neg (fun x => c x.1)]; exact e3⟩
      simp only [if_neg c]
      rw [if_neg (show ¬ (-1 : Int32) = 32 by decide), if_neg (show ¬ (-1 : Int32) = 10 by decide)]
theorem nxt_word {a1 : Int32} : ∀ (m p n : Nat) (v : xH) (K : xH → Option (Unit × xH)), z - p ≤ m → p ≤ z → m < n → MlB B t z v → hI v 36 21 = nI p → ∃ v', f_Mo_next_L100 36 a1 n v K = K v' ∧ Shp v' ∧ Fs dMx v v' ∧ hI v' 36 21 = nI (scz lB B z p) ∧ hI v' 36 22 = hI v 36 22 ∧ hI v' 36 23 = hI v 36 23 := by
  intro m
  induction m with
  | zero =>
    intro p n v K hm hp hn C e3
    obtain ⟨n, rfl⟩ : ∃ q, n = q + 1 := ⟨n - 1, by omega⟩
    have s := C.1
    have z160 := C.2.2.1
    refine ⟨v, ?_, s, Fs.refl v, by rw [scz_e, if_neg (fun x => by omega)]; exact e3, rfl, rfl⟩
    rw [f_Mo_next_L100, gd_t (by simp only [shp s]), e3, byteAt_e C (by omega), bind_s, if_neg (by omega), in_lB1, bind_s, if_pos (show b2i false = 0 from rfl)]
  | succ m ih =>
    intro p n v K hm hp hn C e3
    obtain ⟨n, rfl⟩ : ∃ q, n = q + 1 := ⟨n - 1, by omega⟩
    have s := C.1
    have z160 := C.2.2.1
    rw [f_Mo_next_L100, gd_t (by simp only [shp s]), e3, byteAt_e C (by omega), bind_s]
    by_cases c : p < z
    · obtain ⟨eb, hb⟩ := C.2.2.2.2.2.2 p c
      rw [if_pos c, in_lB hb, bind_s]
      have X : Fs dMx v (hIu v 36 21 (nI (p + 1))) := (Fs.refl v).I rfl
      obtain ⟨v', a1, a2, a3, a4, a5, a6⟩ := ih (p + 1) n (hIu v 36 21 (nI (p + 1))) K (by omega) (by omega) (by omega) (MlB_fr C s X rfl rfl (fun _ => rfl)) (by rw [iI, if_pos ⟨rfl, rfl⟩])
      cases w : lB (B p) with
      | true =>
        refine ⟨v', ?_, a2, X.trans a3, by rw [scz_e, if_pos ⟨c, w⟩]; exact a4, a5, a6⟩
        rw [if_neg (show ¬ b2i true = 0 by decide), gd_t (by simp only [shp s]), e3, nI_1, a1]
      | false =>
        refine ⟨v, ?_, s, Fs.refl v, by rw [scz_e, if_neg (fun x => by rw [w] at x; cases x.2)]; exact e3, rfl, rfl⟩
        rw [if_pos (show b2i false = 0 from rfl)]
    · refine ⟨v, ?_, s, Fs.refl v, by rw [scz_e, if_neg (fun x => c x.1)]; exact e3, rfl, rfl⟩
      rw [if_neg c, in_lB1, bind_s, if_pos (show b2i false = 0 from rfl)]
theorem nvp_lt {p0 k : Nat} (hd : ∀ i, i < k → dB (B (p0 + i)) = true) : nvp B p0 (min k 4) < 10000 := by
  have := nvp_le (B := B) (p := p0) (min k 4) (fun i hi => (dB_le (hd i (by omega))).2)
  have m : 10 ^ (min k 4) ≤ 10 ^ 4 := Nat.pow_le_pow_right (by decide) (by omega)
  omega
theorem nxt_num {ax : Int32} {p0 : Nat} : ∀ (m k n : Nat) (v : xH) (K : Int32 → xH → Option (Unit × xH)), z - (p0 + k) ≤ m → p0 + k ≤ z → m < n → (∀ i, i < k → dB (B (p0 + i)) = true) → MlB B t z v → hI v 36 21 = nI (p0 + k) → hI v 36 24 = nI (nvp B p0 (min k 4)) → ∃ v', f_Mo_next_L160 36 ax n (nI k) v K = K (nI (scz dB B z (p0 + k) - p0)) v' ∧ Shp v' ∧ Fs dMx v v' ∧ hI v' 36 21 = nI (scz dB B z (p0 + k)) ∧ hI v' 36 22 = hI v 36 22 ∧ hI v' 36 23 = hI v 36 23 ∧ hI v' 36 24 = nI (nvp B p0 (min (scz dB B z (p0 + k) - p0) 4)) := by
  intro m
  induction m with
  | zero =>
    intro k n v K hm hp hn hd C e3 e4
    obtain ⟨n, rfl⟩ : ∃ q, n = q + 1 := ⟨n - 1, by omega⟩
    have s := C.1
    have z160 := C.2.2.1
    have E : scz dB B z (p0 + k) = p0 + k := by rw [scz_e, if_neg (fun x => by omega)]
    refine ⟨v, ?_, s, Fs.refl v, by rw [E]; exact e3, rfl, rfl, by rw [E, Nat.add_sub_cancel_left]; exact e4⟩
    rw [f_Mo_next_L160, gd_t (by simp only [shp s]), e3, byteAt_e C (by omega), bind_s, if_neg (by omega), in_dB1, bind_s, if_pos (show b2i false = 0 from rfl), E, Nat.add_sub_cancel_left]
  | succ m ih =>
    intro k n v K hm hp hn hd C e3 e4
    obtain ⟨n, rfl⟩ : ∃ q, n = q + 1 := ⟨n - 1, by omega⟩
    have s := C.1
    have z160 := C.2.2.1
    rw [f_Mo_next_L160, gd_t (by simp only [shp s]), e3, byteAt_e C (by omega), bind_s]
    by_cases c : p0 + k < z
    · obtain ⟨eb, hb⟩ := C.2.2.2.2.2.2 (p0 + k) c
      rw [if_pos c, in_dB hb, bind_s]
      cases w : dB (B (p0 + k)) with
      | true =>
        have hd2 : ∀ i, i < k + 1 → dB (B (p0 + i)) = true := fun i hi => by
          rcases (by omega : i < k ∨ i = k) with u | u
          · exact hd i u
          · rw [u]
            exact w
        have vlt := nvp_lt (B := B) (p0 := p0) (k := k) hd
        have vlt2 := nvp_lt (B := B) (p0 := p0) (k := k + 1) hd2
        have X : Fs dMx v (hIu (hIu v 36 24 (nI (nvp B p0 (min (k + 1) 4)))) 36 21 (nI (p0 + (k + 1)))) := ((Fs.refl v).I rfl).I rfl
        obtain ⟨v', a1, a2, a3, a4, a5, a6, a7⟩ := ih (k + 1) n (hIu (hIu v 36 24 (nI (nvp B p0 (min (k + 1) 4)))) 36 21 (nI (p0 + (k + 1)))) K (by omega) (by omega) (by omega) hd2 (MlB_fr C s X rfl rfl (fun _ => rfl)) (by rw [iI, if_pos ⟨rfl, rfl⟩]) (by rw [iI, if_neg (by omega), iI, if_pos ⟨rfl, rfl⟩])
        have E : scz dB B z (p0 + k) = scz dB B z (p0 + (k + 1)) := by
          rw [scz_e, if_pos ⟨c, w⟩]
          rfl
        rw [E]
        refine ⟨v', ?_, a2, X.trans a3, a4, a5, a6, a7⟩
        have V : ∀ x : Int64, x = (nI (nvp B p0 (min (k + 1) 4))).toInt64 → gd (x.toInt32.toInt64 = x) (f_Mo_next_L160 36 ax n (nI k + 1) (hIu (hIu v 36 24 x.toInt32) 36 21 ((hI (hIu v 36 24 x.toInt32) 36 21) + (1 : Int32))) K) = K (nI (scz dB B z (p0 + (k + 1)) - p0)) v' := by
          rintro x rfl
          rw [Int32.toInt32_toInt64, gd_t rfl, iI, if_neg (by omega), e3, nI_1, nI_1]
          exact a1
        rw [if_neg (show ¬ b2i true = 0 by decide)]
        simp only [jn]
        by_cases k4 : 4 ≤ k
        · rw [if_pos (show (4 : Int32) ≤ nI k from nI_le (a := 4) k4 (by omega)), gd_t (by simp only [shp s]), gd_t (by simp only [shp s]), e4]
          exact V _ (by rw [show min (k + 1) 4 = min k 4 by omega])
        · rw [if_neg (show ¬ (4 : Int32) ≤ nI k from nI_ge (b := 4) (by omega) (by decide)), gd_t (by simp only [shp s]), e3, byteAt_e C (by omega), bind_s, if_pos c, gd_t (by simp only [shp s]), e4]
          have d8 := dB_le w
          refine V _ ?_
          rw [w64b _ _ (by omega) hb d8.1, show min (k + 1) 4 = k + 1 by omega, show min k 4 = k by omega]
          rfl
      | false =>
        have E : scz dB B z (p0 + k) = p0 + k := by rw [scz_e, if_neg (fun x => by rw [w] at x; cases x.2)]
        refine ⟨v, ?_, s, Fs.refl v, by rw [E]; exact e3, rfl, rfl, by rw [E, Nat.add_sub_cancel_left]; exact e4⟩
        rw [if_pos (show b2i false = 0 from rfl), E, Nat.add_sub_cancel_left]
    · have E : scz dB B z (p0 + k) = p0 + k := by rw [scz_e, if_neg (fun x => c x.1)]
      refine ⟨v, ?_, s, Fs.refl v, by rw [E]; exact e3, rfl, rfl, by rw [E, Nat.add_sub_cancel_left]; exact e4⟩
      rw [if_neg c, in_dB1, bind_s, if_pos (show b2i false = 0 from rfl), E, Nat.add_sub_cancel_left]
def MlT (B : Nat → Nat) (z p : Nat) (h : xH) : Prop := (kd B z p ≠ 4 → hI h 36 21 = nI (nx B z p)) ∧ hI h 36 23 = nI (sta B z p) ∧ hI h 36 22 = nI (kd B z p) ∧ (kd B z p = 2 → hI h 36 24 = nI (nv B z p)) ∧ (kd B z p = 3 → hI h 36 24 = nI (tk B z p))
theorem next_e (C : MlB B t z h) (e3 : hI h 36 21 = nI p) (hp0 : p ≤ z) : ∃ h', f_Mo_next 36 h = some ((), h') ∧ Shp h' ∧ Fs dMx h h' ∧ MlT B z p h' := by
  have z160 := C.2.2.1
  have si := sta_i (B := B) hp0
  have ni := nx_i (B := B) hp0
  unfold f_Mo_next
  generalize hK : (fun h35 => _ : xH → Option (Unit × xH)) = K
  obtain ⟨v, a1, a2, a3, a4⟩ := nxt_ws z p fu h K (by omega) hp0 (by show z < 2000; omega) C e3
  rw [a1, ← hK]
  clear hK a1
  have C1 : MlB B t z v := MlB_fr C a2 a3 rfl rfl (fun _ => rfl)
  have X2 : Fs dMx v (hIu v 36 23 (nI (sta B z p))) := (Fs.refl v).I rfl
  have C2 : MlB B t z (hIu v 36 23 (nI (sta B z p))) := MlB_fr C1 a2 X2 rfl rfl (fun _ => rfl)
  have f1 : hI (hIu v 36 23 (nI (sta B z p))) 36 21 = nI (sta B z p) := by rw [iI, if_neg (by omega)]; exact a4
  have f3 : hI (hIu v 36 23 (nI (sta B z p))) 36 23 = nI (sta B z p) := by rw [iI, if_pos ⟨rfl, rfl⟩]
  have F2 := a3.trans X2
  have s2 : Shp (hIu v 36 23 (nI (sta B z p))) := a2
  simp only [jn]
  rw [gd_t (by simp only [shp a2]), a4, f1]
  generalize hIu v 36 23 (nI (sta B z p)) = u at *
  rw [byteAt_e C2 (by omega), bind_s, gd_t (by simp only [shp s2])]
  by_cases c : sta B z p < z
  · obtain ⟨eb, hb⟩ := C2.2.2.2.2.2.2 _ c
    simp only [if_pos c]
    have s4 : Shp (hIu u 36 22 (4 : Int32)) := s2
    rw [if_pos (show (0 : Int32) ≤ nI (B (sta B z p)) from nI_le (a := 0) (Nat.zero_le _) (by omega)), in_lB hb, bind_s]
    cases c1 : lB (B (sta B z p)) with
    | true =>
      have en : nx B z p = scz lB B z (sta B z p) := by
        unfold nx
        rw [if_neg (by omega), if_pos c1]
      have ek : kd B z p = 1 := by
        unfold kd
        rw [if_neg (by omega), if_pos c1]
      have X5 : Fs dMx u (hIu (hIu u 36 22 (4 : Int32)) 36 22 (1 : Int32)) := ((Fs.refl u).I rfl).I rfl
      obtain ⟨h', b1, b2, b3, b4, b5, b6⟩ := nxt_word (B := B) (a1 := nI (B (sta B z p))) z (sta B z p) fu (hIu (hIu u 36 22 (4 : Int32)) 36 22 (1 : Int32)) (fun h85 => some ((), h85)) (by omega) si.2 (by show z < 2000; omega) (MlB_fr C2 s2 X5 rfl rfl (fun _ => rfl)) (by rw [iI, if_neg (by omega), iI, if_neg (by omega)]; exact f1)
      rw [if_neg (show ¬ b2i true = 0 by decide), gd_t (by simp only [kI, shp s2]), b1]
      exact ⟨h', rfl, b2, (F2.trans X5).trans b3, fun _ => by rw [b4, en], b6.trans (by rw [iI, if_neg (by omega), iI, if_neg (by omega)]; exact f3), b5.trans (by rw [iI, if_pos ⟨rfl, rfl⟩, ek]; rfl), (fun q => by rw [ek] at q; cases q), (fun q => by rw [ek] at q; cases q)⟩
    | false =>
      rw [if_pos (show b2i false = 0 from rfl), in_dB hb, bind_s]
      cases c2 : dB (B (sta B z p)) with
      | true =>
        have en : nx B z p = scz dB B z (sta B z p) := by
          unfold nx
          rw [if_neg (by omega), if_neg (by rw [c1]; decide), if_pos c2]
        have ek : kd B z p = (if nx B z p - sta B z p ≤ 4 then 2 else 4) := by
          unfold kd
          rw [if_neg (by omega), if_neg (by rw [c1]; decide), if_pos c2]
        have X5 : Fs dMx u (hIu (hIu (hIu u 36 22 (4 : Int32)) 36 22 (2 : Int32)) 36 24 ((0 : Int64).toInt32)) := (((Fs.refl u).I rfl).I rfl).I rfl
        obtain ⟨h', b1, b2, b3, b4, b5, b6, b7⟩ := nxt_num (B := B) (ax := nI (B (sta B z p))) (p0 := sta B z p) z 0 fu (hIu (hIu (hIu u 36 22 (4 : Int32)) 36 22 (2 : Int32)) 36 24 ((0 : Int64).toInt32)) (fun v74 h75 => gd (hK h75 36 = 11) (some ((), (hIu h75 36 22 (if v74 ≤ (4 : Int32) then (2 : Int32) else (4 : Int32)))))) (by omega) (by omega) (by show z < 2000; omega) (fun i hi => absurd hi (Nat.not_lt_zero _)) (MlB_fr C2 s2 X5 rfl rfl (fun _ => rfl)) (by rw [iI, if_neg (by omega), iI, if_neg (by omega), iI, if_neg (by omega)]; exact f1) (by rw [iI, if_pos ⟨rfl, rfl⟩]; rfl)
        rw [Nat.add_zero] at b1 b4 b7
        rw [← en] at b1 b4 b7
        rw [if_neg (show ¬ b2i true = 0 by decide), gd_t (by simp only [kI, shp s2]), gd_t (by decide)]
        refine ⟨hIu h' 36 22 (nI (kd B z p)), ?_, b2, ((F2.trans X5).trans b3).I rfl, fun _ => by rw [iI, if_neg (by omega)]; exact b4, by rw [iI, if_neg (by omega)]; exact b6.trans (by rw [iI, if_neg (by omega), iI, if_neg (by omega), iI, if_neg (by omega)]; exact f3), by rw [iI, if_pos ⟨rfl, rfl⟩], fun q => ?_, fun q => ?_⟩
        · refine Eq.trans b1 ?_
          rw [gd_t (by simp only [shp b2]), ek]
          by_cases q : nx B z p - sta B z p ≤ 4
          · rw [if_pos (show nI (nx B z p - sta B z p) ≤ (4 : Int32) from nI_le (b := 4) q (by decide)), if_pos q]
            rfl
          · rw [if_neg (show ¬ nI (nx B z p - sta B z p) ≤ (4 : Int32) from nI_ge (a := 4) (by omega) (by omega)), if_neg q]
            rfl
        · rw [iI, if_neg (by omega), b7]
          by_cases q4 : nx B z p - sta B z p ≤ 4
          · rw [show min (nx B z p - sta B z p) 4 = nx B z p - sta B z p by omega]
            rfl
          · rw [ek, if_neg q4] at q
            cases q
        · rw [ek] at q
          split at q
          · cases q
          · cases q
      | false =>
        have en : nx B z p = sta B z p + 1 := by
          unfold nx
          rw [if_neg (by omega), if_neg (by rw [c1]; decide), if_neg (by rw [c2]; decide)]
        rw [if_pos (show b2i false = 0 from rfl)]
        have SG : ∀ b, b < 256 → ∀ (a c : Option (Unit × xH)), (if nI b = (40 : Int32) then a else if nI b = (41 : Int32) then a else if nI b = (59 : Int32) then a else if nI b = (43 : Int32) then a else if nI b = (45 : Int32) then a else if nI b = (42 : Int32) then a else if nI b = (60 : Int32) then a else if nI b = (61 : Int32) then a else c) = if sgB b = true then a else c := by
          intro b hb a c
          by_cases x : sgB b = true
          · rw [if_pos x]
            have : b = 40 ∨ b = 41 ∨ b = 42 ∨ b = 43 ∨ b = 45 ∨ b = 59 ∨ b = 60 ∨ b = 61 := by
              unfold sgB at x
              simp at x
              omega
            rcases this with rfl | rfl | rfl | rfl | rfl | rfl | rfl | rfl <;> rfl
          · rw [if_neg x]
            have N : ∀ k, k < 256 → sgB k = true → ¬ nI b = nI k := fun k hk hs q => x (by rw [(nI_eq (by omega) (by omega)).mp q]; exact hs)
            rw [if_neg (show ¬ nI b = (40 : Int32) from N 40 (by decide) (by decide)), if_neg (show ¬ nI b = (41 : Int32) from N 41 (by decide) (by decide)), if_neg (show ¬ nI b = (59 : Int32) from N 59 (by decide) (by decide)), if_neg (show ¬ nI b = (43 : Int32) from N 43 (by decide) (by decide)), if_neg (show ¬ nI b = (45 : Int32) from N 45 (by decide) (by decide)), if_neg (show ¬ nI b = (42 : Int32) from N 42 (by decide) (by decide)), if_neg (show ¬ nI b = (60 : Int32) from N 60 (by decide) (by decide)), if_neg (show ¬ nI b = (61 : Int32) from N 61 (by decide) (by decide))]
        rw [SG _ hb]
        cases c3 : sgB (B (sta B z p)) with
        | true =>
          have ek : kd B z p = 3 := by
            unfold kd
            rw [if_neg (by omega), if_neg (by rw [c1]; decide), if_neg (by rw [c2]; decide), if_pos c3]
          have et : tk B z p = B (sta B z p) := by
            unfold tk
            rw [if_neg (by omega), if_neg (by rw [c1]; decide), if_neg (by rw [c2]; decide), if_pos c3]
          rw [if_pos (rfl : true = true), gd_t (by simp only [kI, shp s2]), gd_t (by rw [Int32.toInt32_toInt64])]
          simp only [hp]
          rw [Int32.toInt32_toInt64]
          refine ⟨_, rfl, s2, (((F2.I rfl).I rfl).I rfl).I rfl, fun _ => ?_, ?_, ?_, (fun q => by rw [ek] at q; cases q), fun _ => ?_⟩
          · rw [iI, if_pos ⟨rfl, rfl⟩, iI, if_neg (by omega), iI, if_neg (by omega), iI, if_neg (by omega), f1, nI_1, en]
          · rw [iI, if_neg (by omega), iI, if_neg (by omega), iI, if_neg (by omega), iI, if_neg (by omega)]
            exact f3
          · rw [iI, if_neg (by omega), iI, if_neg (by omega), iI, if_pos ⟨rfl, rfl⟩, ek]
            rfl
          · rw [iI, if_neg (by omega), iI, if_pos ⟨rfl, rfl⟩, et]
        | false =>
          have ek : kd B z p = 4 := by
            unfold kd
            rw [if_neg (by omega), if_neg (by rw [c1]; decide), if_neg (by rw [c2]; decide), if_neg (by rw [c3]; decide)]
          rw [if_neg Bool.false_ne_true]
          refine ⟨_, rfl, s2, F2.I rfl, fun q => absurd ek q, ?_, ?_, (fun q => by rw [ek] at q; cases q), (fun q => by rw [ek] at q; cases q)⟩
          · rw [iI, if_neg (by omega)]
            exact f3
          · rw [iI, if_pos ⟨rfl, rfl⟩, ek]
            rfl
  · have ek : kd B z p = 0 := by
      unfold kd
      rw [if_pos (by omega)]
    have en : nx B z p = sta B z p := by
      unfold nx
      rw [if_pos (by omega)]
    simp only [if_neg c]
    rw [if_neg (show ¬ (0 : Int32) ≤ -1 by decide)]
    refine ⟨_, rfl, s2, ((F2.I rfl).I rfl).I rfl, fun _ => ?_, ?_, ?_, (fun q => by rw [ek] at q; cases q), (fun q => by rw [ek] at q; cases q)⟩
    · rw [iI, if_neg (by omega), iI, if_neg (by omega), iI, if_neg (by omega), f1, en]
    · rw [iI, if_pos ⟨rfl, rfl⟩, iI, if_neg (by omega), iI, if_neg (by omega), C2.2.2.2.2.2.1, show sta B z p = z by omega]
    · rw [iI, if_neg (by omega), iI, if_pos ⟨rfl, rfl⟩, ek]
      rfl
end P70

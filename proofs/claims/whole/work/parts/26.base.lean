/-! loops with a rising index -/
theorem lpx {β σ : Type} (L : Nat → Int32 → σ → Option β) (R : Option β → Prop) (P : Nat → σ → Prop) (b : Nat) (step : ∀ n i s, i < b → P i s → R (L (n + 1) (nI i) s) ∨ ∃ s', L (n + 1) (nI i) s = L n (nI (i + 1)) s' ∧ P (i + 1) s') (done : ∀ n s, P b s → R (L (n + 1) (nI b) s)) : ∀ m i s n, i + m = b → m < n → P i s → R (L n (nI i) s)
  | 0, i, s, n, e, h, p => by
    obtain ⟨n, rfl⟩ : ∃ k, n = k + 1 := ⟨n - 1, by omega⟩
    have : i = b := by omega
    subst this
    exact done n s p
  | m + 1, i, s, n, e, h, p => by
    obtain ⟨n, rfl⟩ : ∃ k, n = k + 1 := ⟨n - 1, by omega⟩
    rcases step n i s (by omega) p with r | ⟨s', e', p'⟩
    · exact r
    · rw [e']
      exact lpx L R P b step done m (i + 1) s' n (by omega) (by omega) p'
theorem lpf {β σ : Type} (L : Nat → Int32 → σ → Option β) (R : Option β → Prop) (P : Nat → σ → Prop) (b : Nat) {i : Nat} {s : σ} (hi : i ≤ b) (hb : b < i + 2000) (p : P i s) (step : ∀ n i s, i < b → P i s → R (L (n + 1) (nI i) s) ∨ ∃ s', L (n + 1) (nI i) s = L n (nI (i + 1)) s' ∧ P (i + 1) s') (done : ∀ n s, P b s → R (L (n + 1) (nI b) s)) : R (L fu (nI i) s) := lpx L R P b step done (b - i) i s 2000 (by omega) (by omega) p
/-- the same, from two on in steps of two -/
theorem lp2x {β σ : Type} (L : Nat → Int32 → σ → Option β) (R : Option β → Prop) (P : Nat → σ → Prop) (b : Nat) (step : ∀ n i s, i < b → P i s → R (L (n + 1) (nI (2 * i + 1)) s) ∨ ∃ s', L (n + 1) (nI (2 * i + 1)) s = L n (nI (2 * (i + 1) + 1)) s' ∧ P (i + 1) s') (done : ∀ n s, P b s → R (L (n + 1) (nI (2 * b + 1)) s)) : ∀ m i s n, i + m = b → m < n → P i s → R (L n (nI (2 * i + 1)) s)
  | 0, i, s, n, e, h, p => by
    obtain ⟨n, rfl⟩ : ∃ k, n = k + 1 := ⟨n - 1, by omega⟩
    have : i = b := by omega
    subst this
    exact done n s p
  | m + 1, i, s, n, e, h, p => by
    obtain ⟨n, rfl⟩ : ∃ k, n = k + 1 := ⟨n - 1, by omega⟩
    rcases step n i s (by omega) p with r | ⟨s', e', p'⟩
    · exact r
    · rw [e']
      exact lp2x L R P b step done m (i + 1) s' n (by omega) (by omega) p'
/-! comparisons of small numbers with literals -/
theorem li_le {a b : Nat} (ha : a < 2 ^ 31) (hb : b < 2 ^ 31) : (nI a ≤ nI b) = (a ≤ b) := propext (nI_leI ha hb)
theorem li_lt {a b : Nat} (ha : a < 2 ^ 31) (hb : b < 2 ^ 31) : (nI a < nI b) = (a < b) := propext (nI_ltI ha hb)
theorem li_eq {a b : Nat} (ha : a < 2 ^ 31) (hb : b < 2 ^ 31) : (nI a = nI b) = (a = b) := propext (nI_eq ha hb)
theorem li_lt0 {a : Nat} (ha : a < 2 ^ 31) : (nI a < 0) = False := eq_false (nI_pos ha)
theorem li_le0 {a : Nat} (ha : a < 2 ^ 31) : (0 ≤ nI a) = True := eq_true (nI_pos' ha)
theorem li_eq0 {a : Nat} (ha : a < 2 ^ 31) : (nI a = 0) = (a = 0) := propext (nI_eq ha (by decide))
theorem li_cl {a : Nat} (ha : a < 2 ^ 31) : (nI a).toNatClampNeg = a := nI_clamp ha
theorem li_sub {a b : Nat} (h : b ≤ a) : nI a - nI b = nI (a - b) := by
  have e : nI a = nI (a - b) + nI b := by rw [nI_add]; congr 1; omega
  rw [e]
  apply Int32.toBitVec_inj.mp
  simp
theorem li_mul (a b : Nat) : nI a * nI b = nI (a * b) := (Int32.ofNat_mul a b).symm
theorem li_m1 : (-1 : Int32) < 0 := by decide
/-! bits counted -/
def pcn : Nat → Nat → Nat
  | 0, _ => 0
  | n + 1, x => x % 2 + pcn n (x / 2)
theorem pcn_0 : ∀ n, pcn n 0 = 0
  | 0 => rfl
  | n + 1 => by
    show 0 % 2 + pcn n (0 / 2) = 0
    rw [show 0 / 2 = 0 from rfl, pcn_0 n]
theorem and_2 (a b c d : Nat) (hc : c < 2) (hd : d < 2) : (2 * a + c) &&& (2 * b + d) = 2 * (a &&& b) + (c &&& d) := by
  apply Nat.eq_of_testBit_eq
  intro i
  cases i with
  | zero =>
    rw [Nat.testBit_and]
    simp only [Nat.testBit_zero]
    rcases (by omega : c = 0 ∨ c = 1) with h | h <;> rcases (by omega : d = 0 ∨ d = 1) with h2 | h2 <;> subst h <;> subst h2 <;> simp <;> omega
  | succ i =>
    rw [Nat.testBit_and]
    simp only [Nat.testBit_succ]
    rw [show (2 * a + c) / 2 = a by omega, show (2 * b + d) / 2 = b by omega]
    have : (2 * (a &&& b) + (c &&& d)) / 2 = a &&& b := by
      have : c &&& d < 2 := Nat.and_lt_two_pow (n := 1) c hd
      omega
    rw [this, Nat.testBit_and]
theorem pcn_less : ∀ n x, x < 2 ^ n → x ≠ 0 → pcn n (x &&& (x - 1)) + 1 = pcn n x ∧ (x &&& (x - 1)) < x
  | 0, x, h, h0 => absurd h (by omega)
  | n + 1, x, h, h0 => by
    have h2 : x / 2 < 2 ^ n := by rw [Nat.pow_succ] at h; omega
    rcases (by omega : x % 2 = 1 ∨ x % 2 = 0) with e | e
    · have e1 : x &&& (x - 1) = 2 * (x / 2) := by
        have := and_2 (x / 2) (x / 2) 1 0 (by omega) (by omega)
        rw [show 2 * (x / 2) + 1 = x by omega, show 2 * (x / 2) + 0 = x - 1 by omega, Nat.and_self] at this
        rw [this]
        rfl
      rw [e1]
      refine ⟨?_, by omega⟩
      show 2 * (x / 2) % 2 + pcn n (2 * (x / 2) / 2) + 1 = x % 2 + pcn n (x / 2)
      rw [show 2 * (x / 2) / 2 = x / 2 by omega]
      omega
    · have h3 : x / 2 ≠ 0 := by omega
      obtain ⟨i1, i2⟩ := pcn_less n (x / 2) h2 h3
      have e1 : x &&& (x - 1) = 2 * (x / 2 &&& (x / 2 - 1)) := by
        have := and_2 (x / 2) (x / 2 - 1) 0 1 (by omega) (by omega)
        rw [show 2 * (x / 2) + 0 = x by omega, show 2 * (x / 2 - 1) + 1 = x - 1 by omega] at this
        rw [this]
        rfl
      rw [e1]
      refine ⟨?_, by omega⟩
      show 2 * (x / 2 &&& (x / 2 - 1)) % 2 + pcn n (2 * (x / 2 &&& (x / 2 - 1)) / 2) + 1 = x % 2 + pcn n (x / 2)
      rw [show 2 * (x / 2 &&& (x / 2 - 1)) / 2 = x / 2 &&& (x / 2 - 1) by omega]
      omega
theorem pcn_le : ∀ n x, pcn n x ≤ n
  | 0, _ => Nat.le_refl 0
  | n + 1, x => by
    show x % 2 + pcn n (x / 2) ≤ n + 1
    have := pcn_le n (x / 2)
    omega
theorem Mo_bitsOf_L {a0 : Int32} {h : xH} {K : Int32 → Int32 → xH → Option (Int32 × xH)} : ∀ (n x c m : Nat), x < 2 ^ 31 → pcn 31 x = n → n < m → f_Mo_bitsOf_L4 a0 m (nI c) (nI x) h K = K (nI (c + n)) 0 h := by
  intro n
  induction n with
  | zero =>
    intro x c m hx e hm
    obtain ⟨m, rfl⟩ : ∃ k, m = k + 1 := ⟨m - 1, by omega⟩
    have : x = 0 := by
      rcases Nat.eq_zero_or_pos x with h | h
      · exact h
      · have := (pcn_less 31 x hx (by omega)).1
        omega
    subst this
    show (if nI 0 = 0 then K (nI c) (nI 0) h else _) = _
    rw [if_pos nI_0, nI_0]
    rfl
  | succ n ih =>
    intro x c m hx e hm
    obtain ⟨m, rfl⟩ : ∃ k, m = k + 1 := ⟨m - 1, by omega⟩
    have h0 : x ≠ 0 := by
      intro h
      subst h
      rw [pcn_0] at e
      omega
    obtain ⟨p1, p2⟩ := pcn_less 31 x hx h0
    show (if nI x = 0 then K (nI c) (nI x) h else f_Mo_bitsOf_L4 a0 m (nI c + 1) (nI x &&& (nI x - nI 1)) h K) = _
    rw [if_neg (nI_ne0 (by omega) hx), li_sub (by omega), fa_and, nI_1, ih (x &&& (x - 1)) (c + 1) m (by omega) (by omega) (by omega)]
    rw [show c + 1 + n = c + (n + 1) by omega]
theorem Mo_bitsOf_e {h : xH} {x : Nat} (hx : x < 2 ^ 31) : f_Mo_bitsOf (nI x) h = some (nI (pcn 31 x), h) := by
  unfold f_Mo_bitsOf
  have := Mo_bitsOf_L (a0 := nI x) (h := h) (K := fun v2 v3 h4 => some (v2, h4)) (pcn 31 x) x 0 fu hx rfl (by have := pcn_le 31 x; show _ < 2000; omega)
  rw [Nat.zero_add] at this
  exact this

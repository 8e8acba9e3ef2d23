/-! bits of whole numbers -/
theorem bn (n : Nat) {i : Nat} (h : i < 32) : bt (nI n) i = n.testBit i := by
  show (BitVec.ofNat 32 n).getLsbD i = _
  rw [BitVec.getLsbD_ofNat, decide_eq_true h, Bool.true_and]
theorem sj {f p : Nat} (hf : f < 2 ^ 31) (hp : p < 32) : jShr (nI f) (nI p) = nI (f >>> p) := by
  apply b_ext
  intro i hi
  unfold jShr
  rw [b_sshr p hp _ hi, bn _ hi, Nat.testBit_shiftRight]
  split
  · rename_i h
    rw [bn _ h]
  · rename_i h
    rw [bn _ (by decide), Nat.testBit_lt_two_pow hf, Nat.testBit_lt_two_pow (Nat.lt_of_lt_of_le hf (Nat.pow_le_pow_right (by decide) (by omega)))]
theorem su {f p : Nat} (hf : f < 2 ^ 32) (hp : p < 32) : jUshr (nI f) (nI p) = nI (f >>> p) := by
  apply b_ext
  intro i hi
  unfold jUshr
  rw [b_ushr p hp, bn _ hi, Nat.testBit_shiftRight]
  rcases Nat.lt_or_ge (p + i) 32 with h | h
  · rw [bn _ h]
  · rw [b_big h, Nat.testBit_lt_two_pow (Nat.lt_of_lt_of_le hf (Nat.pow_le_pow_right (by decide) h))]
theorem ss : ∀ p, p < 31 → jShl (1 : Int32) (nI p) = nI (2 ^ p) := by decide +kernel
theorem ss0 : ∀ p, p < 31 → jShl (0 : Int32) (nI p) = 0 := by decide +kernel
/-- the bit test of both programs -/
theorem tb {f p : Nat} (hf : f < 2 ^ 31) (hp : p < 31) : jShr (nI f) (nI p) &&& (1 : Int32) = b2i (f.testBit p) := by
  rw [sj hf (by omega), show (1 : Int32) = nI 1 from rfl, fa_and, Nat.and_one_is_mod, Nat.shiftRight_eq_div_pow, Nat.testBit_eq_decide_div_mod_eq]
  rcases Nat.mod_two_eq_zero_or_one (f / 2 ^ p) with h | h <;> rw [h] <;> rfl
theorem b2i_1 {b : Bool} : (b2i b = (1 : Int32)) = (b = true) := by cases b <;> decide
theorem b2i_0 {b : Bool} : (b2i b = (0 : Int32)) = (b = false) := by cases b <;> decide
def an (x y : Nat) : Nat := x ^^^ (x &&& y)
theorem an_bit (x y i : Nat) : (an x y).testBit i = (x.testBit i && !y.testBit i) := by
  unfold an
  rw [Nat.testBit_xor, Nat.testBit_and]
  cases x.testBit i <;> cases y.testBit i <;> rfl
theorem an_I (x y : Nat) : nI x &&& (nI y ^^^ (-1 : Int32)) = nI (an x y) := by
  apply b_ext
  intro i hi
  rw [b_and, b_xor, b_m1 i hi, bn _ hi, bn _ hi, bn _ hi, an_bit]
  cases x.testBit i <;> cases y.testBit i <;> rfl
theorem bit_lt {x n : Nat} (h : ∀ i, x.testBit i = true → i < n) : x < 2 ^ n := Nat.lt_pow_two_of_testBit x (fun i hi => by
  cases e : x.testBit i with
  | false => rfl
  | true => have := h i e; omega)
theorem lt_bit {x n i : Nat} (h : x < 2 ^ n) (e : x.testBit i = true) : i < n := by
  rcases Nat.lt_or_ge i n with g | g
  · exact g
  · rw [Nat.testBit_lt_two_pow (Nat.lt_of_lt_of_le h (Nat.pow_le_pow_right (by decide) g))] at e
    cases e
theorem an_lt {x y n : Nat} (h : x < 2 ^ n) : an x y < 2 ^ n := bit_lt fun i hi => lt_bit h (by
  rw [an_bit] at hi
  cases e : x.testBit i with
  | true => rfl
  | false => rw [e] at hi; cases hi)
theorem and_nil {x y : Nat} : x &&& y = 0 ↔ ∀ i, ¬ (x.testBit i = true ∧ y.testBit i = true) := by
  constructor
  · intro h i ⟨a, b⟩
    have := congrArg (fun z => z.testBit i) h
    simp only [Nat.testBit_and, a, b, Nat.zero_testBit] at this
    cases this
  · intro h
    apply Nat.eq_of_testBit_eq
    intro i
    have := h i
    rw [Nat.testBit_and, Nat.zero_testBit]
    cases e : x.testBit i <;> cases e2 : y.testBit i <;> simp [e, e2] at this ⊢
theorem and_full {x y : Nat} : x &&& y = y ↔ ∀ i, y.testBit i = true → x.testBit i = true := by
  constructor
  · intro h i hi
    have := congrArg (fun z => z.testBit i) h
    simp only [Nat.testBit_and, hi, Bool.and_true] at this
    exact this
  · intro h
    apply Nat.eq_of_testBit_eq
    intro i
    have := h i
    rw [Nat.testBit_and]
    cases e : x.testBit i <;> cases e2 : y.testBit i <;> simp [e, e2] at this ⊢
/-! the count of bits by the JDK's way -/
theorem and_split (c b M m : Nat) (hb : b < 256) (hm : m < 256) : (256 * c + b) &&& (256 * M + m) = 256 * (c &&& M) + (b &&& m) := by
  apply Nat.eq_of_testBit_eq
  intro i
  rw [Nat.testBit_and, show (256 : Nat) = 2 ^ 8 from rfl, Nat.testBit_two_pow_mul_add _ hb, Nat.testBit_two_pow_mul_add _ hm, Nat.testBit_two_pow_mul_add _ (Nat.and_lt_two_pow (n := 8) _ hm)]
  split <;> rw [Nat.testBit_and]
def bw1 (M x : Nat) : Nat := x - ((x / 2) &&& M)
def bw2 (M y : Nat) : Nat := (y &&& M) + ((y / 4) &&& M)
def bw3 (M z : Nat) : Nat := (z + z / 16) &&& M
theorem bw1_b : ∀ b, b < 256 → ∀ e, e < 2 → (b / 2 + 128 * e) &&& 85 = (b / 2) &&& 85 ∧ (b / 2) &&& 85 ≤ b := by decide +kernel
theorem bw1_s (M c b : Nat) (hb : b < 256) : bw1 (256 * M + 85) (256 * c + b) = 256 * bw1 M c + bw1 85 b := by
  unfold bw1
  have e : (256 * c + b) / 2 = 256 * (c / 2) + (b / 2 + 128 * (c % 2)) := by omega
  obtain ⟨h1, h2⟩ := bw1_b b hb (c % 2) (Nat.mod_lt _ (by decide))
  have h3 : c / 2 &&& M ≤ c / 2 := Nat.and_le_left
  rw [e, and_split _ _ _ _ (by omega) (by decide), h1]
  omega
theorem bw2_b : ∀ b, b < 256 → ∀ e, e < 4 → (b / 4 + 64 * e) &&& 51 = (b / 4) &&& 51 := by decide +kernel
theorem bw2_s (M c b : Nat) (hb : b < 256) : bw2 (256 * M + 51) (256 * c + b) = 256 * bw2 M c + bw2 51 b := by
  unfold bw2
  have e : (256 * c + b) / 4 = 256 * (c / 4) + (b / 4 + 64 * (c % 4)) := by omega
  rw [e, and_split _ _ _ _ hb (by decide), and_split _ _ _ _ (by omega) (by decide), bw2_b b hb (c % 4) (Nat.mod_lt _ (by decide))]
  omega
theorem bw3_s (M c b : Nat) (hb : b % 16 ≤ 4) (hb2 : b / 16 ≤ 4) (hc : c % 16 ≤ 4) : bw3 (256 * M + 15) (256 * c + b) = 256 * bw3 M c + bw3 15 b := by
  unfold bw3
  have e : (256 * c + b) + (256 * c + b) / 16 = 256 * (c + c / 16) + (b + b / 16 + 16 * (c % 16)) := by omega
  rw [e, and_split _ _ _ _ (by omega) (by decide)]
  congr 1
  rw [show (15 : Nat) = 2 ^ 4 - 1 from rfl, Nat.and_two_pow_sub_one_eq_mod, Nat.and_two_pow_sub_one_eq_mod]
  omega
theorem bw_b : ∀ b, b < 256 → bw3 15 (bw2 51 (bw1 85 b)) = pcn 8 b ∧ bw2 51 (bw1 85 b) % 16 ≤ 4 ∧ bw2 51 (bw1 85 b) / 16 ≤ 4 ∧ bw1 85 b < 256 ∧ pcn 8 b ≤ 8 := by decide +kernel
theorem pcn_add : ∀ k n b c, b < 2 ^ k → pcn (k + n) (2 ^ k * c + b) = pcn k b + pcn n c
  | 0, n, b, c, h => by
    have : b = 0 := by omega
    subst this
    rw [show 2 ^ 0 * c + 0 = c by omega, Nat.zero_add]
    show _ = 0 + _
    omega
  | k + 1, n, b, c, h => by
    rw [show k + 1 + n = (k + n) + 1 by omega]
    show (2 ^ (k + 1) * c + b) % 2 + pcn (k + n) ((2 ^ (k + 1) * c + b) / 2) = b % 2 + pcn k (b / 2) + pcn n c
    have e : 2 ^ (k + 1) * c + b = 2 * (2 ^ k * c + b / 2) + b % 2 := by
      rw [Nat.pow_succ, Nat.mul_comm (2 ^ k) 2, Nat.mul_assoc]
      omega
    have h2 : b / 2 < 2 ^ k := by rw [Nat.pow_succ] at h; omega
    rw [show (2 ^ (k + 1) * c + b) / 2 = 2 ^ k * c + b / 2 by rw [e]; omega, pcn_add k n (b / 2) c h2, show (2 ^ (k + 1) * c + b) % 2 = b % 2 by rw [e]; omega]
    omega
theorem bc_nat (x : Nat) (hx : x < 2 ^ 24) : bw3 252645135 (bw2 858993459 (bw1 1431655765 x)) = 65536 * pcn 8 (x / 65536) + 256 * pcn 8 (x / 256 % 256) + pcn 8 (x % 256) ∧ pcn 31 x = pcn 8 (x / 65536) + pcn 8 (x / 256 % 256) + pcn 8 (x % 256) ∧ bw1 1431655765 x < 2 ^ 24 ∧ bw2 858993459 (bw1 1431655765 x) < 2 ^ 24 := by
  have e : x = 256 * (256 * (x / 65536) + x / 256 % 256) + x % 256 := by omega
  have hb0 : x % 256 < 256 := Nat.mod_lt _ (by decide)
  have hb1 : x / 256 % 256 < 256 := Nat.mod_lt _ (by decide)
  have hb2 : x / 65536 < 256 := by omega
  generalize x % 256 = b0 at *
  generalize x / 256 % 256 = b1 at *
  generalize x / 65536 = b2 at *
  subst e
  obtain ⟨p0, q0, r0, t0, u0⟩ := bw_b b0 hb0
  obtain ⟨p1, q1, r1, t1, u1⟩ := bw_b b1 hb1
  obtain ⟨p2, q2, r2, t2, u2⟩ := bw_b b2 hb2
  have z : ∀ n, bw1 n 0 = 0 ∧ bw2 n 0 = 0 ∧ bw3 n 0 = 0 := fun n => ⟨by unfold bw1; rw [Nat.zero_div, Nat.zero_and], by unfold bw2; rw [Nat.zero_div, Nat.zero_and], by unfold bw3; rw [Nat.zero_div, Nat.zero_add, Nat.zero_and]⟩
  have a2 : bw1 (256 * 85 + 85) (256 * 0 + b2) = bw1 85 b2 := by rw [bw1_s _ _ _ hb2, (z _).1]; omega
  have a1 : bw1 1431655765 (256 * (256 * b2 + b1) + b0) = 256 * (256 * bw1 85 b2 + bw1 85 b1) + bw1 85 b0 := by
    rw [show (1431655765 : Nat) = 256 * (256 * (256 * 85 + 85) + 85) + 85 from rfl, bw1_s _ _ _ hb0, bw1_s _ _ _ hb1]
    rw [Nat.mul_zero, Nat.zero_add] at a2
    rw [a2]
  have c2' : bw2 (256 * 51 + 51) (256 * 0 + bw1 85 b2) = bw2 51 (bw1 85 b2) := by rw [bw2_s _ _ _ t2, (z _).2.1]; omega
  have c1 : bw2 858993459 (256 * (256 * bw1 85 b2 + bw1 85 b1) + bw1 85 b0) = 256 * (256 * bw2 51 (bw1 85 b2) + bw2 51 (bw1 85 b1)) + bw2 51 (bw1 85 b0) := by
    rw [show (858993459 : Nat) = 256 * (256 * (256 * 51 + 51) + 51) + 51 from rfl, bw2_s _ _ _ t0, bw2_s _ _ _ t1]
    rw [Nat.mul_zero, Nat.zero_add] at c2'
    rw [c2']
  have d2 : bw3 (256 * 15 + 15) (256 * 0 + bw2 51 (bw1 85 b2)) = bw3 15 (bw2 51 (bw1 85 b2)) := by rw [bw3_s _ _ _ q2 r2 (by decide), (z _).2.2]; omega
  rw [a1, c1]
  refine ⟨?_, ?_, by omega, by omega⟩
  · rw [show (252645135 : Nat) = 256 * (256 * (256 * 15 + 15) + 15) + 15 from rfl, bw3_s _ _ _ q0 r0 (by omega), bw3_s _ _ _ q1 r1 (by omega)]
    rw [Nat.mul_zero, Nat.zero_add] at d2
    rw [d2, p0, p1, p2]
    omega
  · have f1 := pcn_add 8 23 b0 (256 * b2 + b1) hb0
    have f2 := pcn_add 8 15 b1 b2 hb1
    have f3 := pcn_add 8 7 b2 0 hb2
    rw [pcn_0, Nat.mul_zero, Nat.zero_add] at f3
    rw [show (8 + 23 : Nat) = 31 from rfl, show (2 ^ 8 : Nat) = 256 from rfl] at f1
    rw [show (8 + 15 : Nat) = 23 from rfl, show (2 ^ 8 : Nat) = 256 from rfl] at f2
    rw [show (8 + 7 : Nat) = 15 from rfl] at f3
    rw [f1, f2, f3]
    omega
theorem In_bitCount_e {h : xH} {x : Nat} (hx : x < 2 ^ 24) : f_In_bitCount (nI x) h = some (nI (pcn 31 x), h) := by
  obtain ⟨e1, e2, e3, e4⟩ := bc_nat x hx
  have u := fun (b : Nat) (hb : b < 256) => (bw_b b hb).2.2.2.2
  have u0 := u (x % 256) (Nat.mod_lt _ (by decide))
  have u1 := u (x / 256 % 256) (Nat.mod_lt _ (by decide))
  have u2 := u (x / 65536) (by omega)
  unfold f_In_bitCount
  have s1 : nI x - ((jUshr (nI x) (1 : Int32)) &&& (1431655765 : Int32)) = nI (bw1 1431655765 x) := by
    rw [show (1 : Int32) = nI 1 from rfl, su (by omega) (by decide), show (1431655765 : Int32) = nI 1431655765 from rfl, fa_and, Nat.shiftRight_eq_div_pow, show (2 ^ 1 : Nat) = 2 from rfl]
    exact li_sub (Nat.le_trans Nat.and_le_left (by omega))
  rw [s1]
  generalize bw1 1431655765 x = y at *
  have s2 : (nI y &&& (858993459 : Int32)) + ((jUshr (nI y) (2 : Int32)) &&& (858993459 : Int32)) = nI (bw2 858993459 y) := by
    rw [show (2 : Int32) = nI 2 from rfl, su (by omega) (by decide), show (858993459 : Int32) = nI 858993459 from rfl, fa_and, fa_and, Nat.shiftRight_eq_div_pow, show (2 ^ 2 : Nat) = 4 from rfl, nI_add]
    rfl
  rw [s2]
  generalize bw2 858993459 y = z at *
  have s3 : (nI z + jUshr (nI z) (4 : Int32)) &&& (252645135 : Int32) = nI (bw3 252645135 z) := by
    rw [show (4 : Int32) = nI 4 from rfl, su (by omega) (by decide), show (252645135 : Int32) = nI 252645135 from rfl, Nat.shiftRight_eq_div_pow, show (2 ^ 4 : Nat) = 16 from rfl, nI_add, fa_and]
    rfl
  rw [s3, e1]
  generalize pcn 8 (x % 256) = p0 at *
  generalize pcn 8 (x / 256 % 256) = p1 at *
  generalize pcn 8 (x / 65536) = p2 at *
  rw [show (8 : Int32) = nI 8 from rfl, su (by omega) (by decide), Nat.shiftRight_eq_div_pow, nI_add, show (2 ^ 8 : Nat) = 256 from rfl, show (16 : Int32) = nI 16 from rfl, su (by omega) (by decide), Nat.shiftRight_eq_div_pow, nI_add, show (63 : Int32) = nI 63 from rfl, fa_and, show (63 : Nat) = 2 ^ 6 - 1 from rfl, Nat.and_two_pow_sub_one_eq_mod]
  clear e1 s1 s2 s3
  have q1 : (65536 * p2 + 256 * p1 + p0) / 256 = 256 * p2 + p1 := by omega
  rw [q1]
  have q2 : (65536 * p2 + 256 * p1 + p0 + (256 * p2 + p1)) / 2 ^ 16 = p2 := by
    rw [show (2 ^ 16 : Nat) = 65536 from rfl]
    omega
  rw [q2, e2]
  have q3 : (65536 * p2 + 256 * p1 + p0 + (256 * p2 + p1) + p2) % 2 ^ 6 = p2 + p1 + p0 := by
    rw [show (2 ^ 6 : Nat) = 64 from rfl]
    omega
  rw [q3]

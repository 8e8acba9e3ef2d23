/-! rings of four: each met at both pairs that face one another -/
def Eg (f i k : Nat) : Bool := k != i && f.testBit (prs i k)
def Rq (f p q : Nat) : Bool := (Eg f (lo p) (lo q) && Eg f (hi p) (lo q)) && (Eg f (lo p) (hi q) && Eg f (hi p) (hi q))
theorem prs_c (i k : Nat) (n : i ≠ k) : prs i k = prs k i := by
  unfold prs
  by_cases c : i < k
  · rw [if_pos c, if_neg (by omega)]
  · rw [if_neg c, if_pos (by omega)]
theorem Eg_c (f i k : Nat) : Eg f i k = Eg f k i := by
  unfold Eg
  by_cases c : i = k
  · rw [c]
  · rw [prs_c i k c, show (k != i) = true from bne_iff_ne.mpr (fun q => c q.symm), show (i != k) = true from bne_iff_ne.mpr c]
theorem Eg_0 (f i : Nat) : Eg f i i = false := by
  unfold Eg
  simp
theorem Rq_c (f p q : Nat) : Rq f p q = Rq f q p := by
  unfold Rq
  rw [Eg_c f (lo q) (lo p), Eg_c f (hi q) (lo p), Eg_c f (lo q) (hi p), Eg_c f (hi q) (hi p)]
  cases Eg f (lo p) (lo q) <;> cases Eg f (hi p) (lo q) <;> cases Eg f (lo p) (hi q) <;> rfl
theorem Rq_0 (f p : Nat) : Rq f p p = false := by
  unfold Rq
  rw [Eg_0]
  rfl
theorem ct_pairs (P : Nat → Bool) : ∀ k, k ≤ 7 → c2 (fb_ct P k) = fb_ct (fun q => P (lo q) && P (hi q)) (c2 k)
  | 0, _ => by
    have e : c2 0 = 0 := by decide
    rw [e]
    exact e
  | k + 1, h => by
    have ih := ct_pairs P k (by omega)
    have le := fb_ct_le P k
    rw [← c2_succ k (by omega), fb_ct_split (fun q => P (lo q) && P (hi q)) (c2 k) k, ← ih]
    have e : fb_ct (fun i => P (lo (c2 k + i)) && P (hi (c2 k + i))) k = fb_ct (fun i => P i && P k) k := fb_ct_cong (fun i hi' => by
      obtain ⟨p1, p2, p3, p4, p5⟩ := prs_c2 k (by omega) i hi'
      rw [p2, p3])
    rw [e, fb_ct_succ]
    cases c : P k with
    | true =>
      rw [if_pos rfl, ← c2_succ _ (by omega)]
      congr 1
      exact fb_ct_cong (fun i _ => (Bool.and_true _).symm)
    | false =>
      rw [if_neg (by decide), Nat.add_zero, fb_ct_zero.mpr (fun i _ => Bool.and_false _), Nat.add_zero]
theorem cob_pairs {g f : Nat} (g7 : g ≤ 7) (p : Nat) : c2 (cob g f (lo p) (hi p)) = fb_ct (fun q => Rq f p q) (c2 g) := ct_pairs _ g g7
theorem sm_ct (P : Nat → Bool) : ∀ n, fb_sm (fun p => if P p = true then 1 else 0) n = fb_ct P n
  | 0 => rfl
  | n + 1 => by rw [fb_sm_succ, fb_ct_succ, sm_ct P n]
theorem twice_sum {R : Nat → Nat → Bool} (rc : ∀ p q, R p q = R q p) (r0 : ∀ p, R p p = false) : ∀ n, fb_sm (fun p => fb_ct (fun q => R p q) n) n = 2 * fb_sm (fun q => fb_ct (fun p => R p q) q) n
  | 0 => rfl
  | n + 1 => by
    have ih := twice_sum rc r0 n
    rw [fb_sm_succ, fb_sm_succ]
    have e1 : fb_sm (fun p => fb_ct (fun q => R p q) (n + 1)) n = fb_sm (fun p => fb_ct (fun q => R p q) n) n + fb_ct (fun p => R p n) n := by
      rw [← sm_ct, ← fb_sm_add]
      exact fb_sm_cong (fun p _ => fb_ct_succ _ _)
    have e2 : fb_ct (fun q => R n q) (n + 1) = fb_ct (fun p => R p n) n := by
      rw [fb_ct_succ, r0, if_neg (by decide), Nat.add_zero]
      exact fb_ct_cong (fun p _ => rc n p)
    rw [e1, e2, ih]
    omega
theorem ct_range (P : Nat → Bool) : ∀ n, fb_ct P n = (List.range n).countP P
  | 0 => rfl
  | n + 1 => by
    rw [List.range_succ, List.countP_append, ← ct_range P n, fb_ct_succ]
    congr 1
    simp [List.countP_cons]
theorem cp_fm {α : Type} (P : α → Bool) (F : Nat → List α) : ∀ n, ((List.range n).flatMap F).countP P = fb_sm (fun a => (F a).countP P) n
  | 0 => rfl
  | n + 1 => by
    rw [List.range_succ, List.flatMap_append, List.countP_append, cp_fm P F n, fb_sm_succ]
    congr 1
    simp
def LPq (n : Nat) : List (Nat × Nat) := (List.range n).flatMap (fun q => (List.range q).map (fun p => (p, q)))
def dsj (x : Nat × Nat) : Bool := (lo x.1 != lo x.2) && ((lo x.1 != hi x.2) && ((hi x.1 != lo x.2) && (hi x.1 != hi x.2)))
def t3l (a b c d : Nat) : List (Nat × Nat) := [(pr a c, pr b d), (pr b c, pr a d), (pr a b, pr c d)]
def lq3 (g a b c : Nat) : List (Nat × Nat) := (List.range g).flatMap (fun d => if c < d then t3l a b c d else [])
def lq2 (g a b : Nat) : List (Nat × Nat) := (List.range g).flatMap (fun c => if b < c then lq3 g a b c else [])
def lq1 (g a : Nat) : List (Nat × Nat) := (List.range g).flatMap (fun b => if a < b then lq2 g a b else [])
def TLq (g : Nat) : List (Nat × Nat) := (List.range g).flatMap (fun a => lq1 g a)
theorem TL_perm : ∀ g, g ≤ 7 → ((TLq g).isPerm ((LPq (c2 g)).filter dsj)) = true := by decide +kernel
theorem LP_sum (R : Nat → Nat → Bool) (n : Nat) : fb_sm (fun q => fb_ct (fun p => R p q) q) n = (LPq n).countP (fun x => R x.1 x.2) := by
  unfold LPq
  rw [cp_fm]
  refine fb_sm_cong (fun q _ => ?_)
  rw [ct_range, List.countP_map]
  rfl
theorem Rq_dsj {f : Nat} {x : Nat × Nat} (h : Rq f x.1 x.2 = true) : dsj x = true := by
  unfold Rq at h
  unfold dsj
  have ne : ∀ a b, Eg f a b = true → (a != b) = true := fun a b e => by
    rw [bne_iff_ne]
    intro q
    rw [q, Eg_0] at e
    cases e
  rw [Bool.and_eq_true, Bool.and_eq_true, Bool.and_eq_true] at h
  rw [ne _ _ h.1.1, ne _ _ h.2.1, ne _ _ h.1.2, ne _ _ h.2.2]
  rfl
theorem TL_sum {g f : Nat} (g7 : g ≤ 7) : fb_sm (fun q => fb_ct (fun p => Rq f p q) q) (c2 g) = (TLq g).countP (fun x => Rq f x.1 x.2) := by
  rw [LP_sum (Rq f), List.Perm.countP_eq _ (List.isPerm_iff.mp (TL_perm g g7)), List.countP_filter]
  apply List.countP_congr
  intro x _
  constructor
  · intro h
    rw [Bool.and_eq_true]
    exact ⟨h, Rq_dsj h⟩
  · intro h
    rw [Bool.and_eq_true] at h
    exact h.1
def Fq3 (f a b c d : Nat) : Nat := (if c < d then t3l a b c d else []).countP (fun x => Rq f x.1 x.2)
def Fq2 (f g a b c : Nat) : Nat := (if b < c then lq3 g a b c else []).countP (fun x => Rq f x.1 x.2)
def Fq1 (f g a b : Nat) : Nat := (if a < b then lq2 g a b else []).countP (fun x => Rq f x.1 x.2)
def Fq0 (f g a : Nat) : Nat := (lq1 g a).countP (fun x => Rq f x.1 x.2)
theorem F2_y {f g a b c : Nat} (h : b < c) : Fq2 f g a b c = fb_sm (Fq3 f a b c) g := by
  unfold Fq2
  rw [if_pos h]
  exact cp_fm _ _ g
theorem F1_y {f g a b : Nat} (h : a < b) : Fq1 f g a b = fb_sm (Fq2 f g a b) g := by
  unfold Fq1
  rw [if_pos h]
  exact cp_fm _ _ g
theorem F0_y {f g a : Nat} : Fq0 f g a = fb_sm (Fq1 f g a) g := cp_fm _ _ g
theorem TL_y {f g : Nat} : (TLq g).countP (fun x => Rq f x.1 x.2) = fb_sm (Fq0 f g) g := cp_fm _ _ g
theorem F3_n {f a b c d : Nat} (h : d ≤ c) : Fq3 f a b c d = 0 := by
  unfold Fq3
  rw [if_neg (by omega)]
  rfl
theorem F2_n {f g a b c : Nat} (h : c ≤ b) : Fq2 f g a b c = 0 := by
  unfold Fq2
  rw [if_neg (by omega)]
  rfl
theorem F1_n {f g a b : Nat} (h : b ≤ a) : Fq1 f g a b = 0 := by
  unfold Fq1
  rw [if_neg (by omega)]
  rfl
theorem sm_0 {F : Nat → Nat} : ∀ n, (∀ k, k < n → F k = 0) → fb_sm F n = 0
  | 0, _ => rfl
  | n + 1, h => by rw [fb_sm_succ, sm_0 n (fun k hk => h k (by omega)), h n (by omega)]
theorem lohi_pr : ∀ c, c < 7 → ∀ a, a < c → lo (pr a c) = a ∧ hi (pr a c) = c := by decide +kernel
def xb (f a b : Nat) : Bool := f.testBit (prs a b)
theorem Eg_x {f a b : Nat} (h : a < b) : Eg f a b = xb f a b ∧ Eg f b a = xb f a b := by
  unfold Eg xb
  rw [show (b != a) = true from bne_iff_ne.mpr (by omega), show (a != b) = true from bne_iff_ne.mpr (by omega), prs_c b a (by omega)]
  exact ⟨rfl, rfl⟩
def b2n (b : Bool) : Nat := if b = true then 1 else 0
theorem F3_y {f a b c d : Nat} (hd : d < 7) (hc : c < d) (hb : b < c) (ha : a < b) : Fq3 f a b c d = b2n (xb f a b && (xb f b c && (xb f c d && xb f a d))) + b2n (xb f a b && (xb f b d && (xb f c d && xb f a c))) + b2n (xb f a c && (xb f b c && (xb f b d && xb f a d))) := by
  have e1 : Rq f (pr a c) (pr b d) = (xb f a b && (xb f b c && (xb f c d && xb f a d))) := by
    unfold Rq
    rw [(lohi_pr c (by omega) a (by omega)).1, (lohi_pr c (by omega) a (by omega)).2, (lohi_pr d hd b (by omega)).1, (lohi_pr d hd b (by omega)).2, (Eg_x ha).1, (Eg_x hb).2, (Eg_x (show a < d by omega)).1, (Eg_x hc).1]
    cases xb f a b <;> cases xb f b c <;> cases xb f a d <;> cases xb f c d <;> rfl
  have e2 : Rq f (pr b c) (pr a d) = (xb f a b && (xb f b d && (xb f c d && xb f a c))) := by
    unfold Rq
    rw [(lohi_pr c (by omega) b (by omega)).1, (lohi_pr c (by omega) b (by omega)).2, (lohi_pr d hd a (by omega)).1, (lohi_pr d hd a (by omega)).2, (Eg_x ha).2, (Eg_x (show a < c by omega)).2, (Eg_x (show b < d by omega)).1, (Eg_x hc).1]
    cases xb f a b <;> cases xb f a c <;> cases xb f b d <;> cases xb f c d <;> rfl
  have e3 : Rq f (pr a b) (pr c d) = (xb f a c && (xb f b c && (xb f b d && xb f a d))) := by
    unfold Rq
    rw [(lohi_pr b (by omega) a (by omega)).1, (lohi_pr b (by omega) a (by omega)).2, (lohi_pr d hd c (by omega)).1, (lohi_pr d hd c (by omega)).2, (Eg_x (show a < c by omega)).1, (Eg_x hb).1, (Eg_x (show a < d by omega)).1, (Eg_x (show b < d by omega)).1]
    cases xb f a c <;> cases xb f b c <;> cases xb f a d <;> cases xb f b d <;> rfl
  unfold Fq3
  rw [if_pos hc]
  unfold t3l b2n
  simp only [List.countP_cons, List.countP_nil, e1, e2, e3]
  omega
theorem F3_le (f a b c d : Nat) : Fq3 f a b c d ≤ 3 := by
  unfold Fq3
  split
  · exact List.countP_le_length
  · exact Nat.zero_le _
section P55
variable {h : xH} {g f : Nat}
theorem ring_e (s : Shp h) (hf : f < 2 ^ 31) (m2 : hI h 36 8 = nI f) {a b c d : Nat} (ha : a < 7) (hb : b < 7) (hc : c < 7) (hd : d < 7) (n1 : a ≠ b) (n2 : b ≠ c) (n3 : c ≠ d) (n4 : d ≠ a) : f_Mo_ring 36 (nI a) (nI b) (nI c) (nI d) h = some (nI (b2n (xb f a b && (xb f b c && (xb f c d && xb f d a)))), h) := by
  have K1 := Mo_know_n s hf m2 ha hb (prs7 ha hb n1)
  have K2 := Mo_know_n s hf m2 hb hc (prs7 hb hc n2)
  have K3 := Mo_know_n s hf m2 hc hd (prs7 hc hd n3)
  have K4 := Mo_know_n s hf m2 hd ha (prs7 hd ha n4)
  unfold xb
  generalize f.testBit (prs a b) = x1 at *
  generalize f.testBit (prs b c) = x2 at *
  generalize f.testBit (prs c d) = x3 at *
  generalize f.testBit (prs d a) = x4 at *
  simp only [f_Mo_ring, jn, gd, bind_s, shp s, if_true, K1, K2, K3, K4]
  cases x1
  · rfl
  · cases x2
    · rfl
    · cases x3
      · rfl
      · cases x4
        · rfl
        · rfl
end P55

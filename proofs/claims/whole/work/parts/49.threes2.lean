/-! threes counted on both sides -/
theorem dAll_ev {p k : Nat} (h : dAll p k = true) : dEv p k = true := by
  cases e : dEv p k with
  | true => rfl
  | false =>
    unfold dEv at e
    have e2 : p = 9 ∨ p = 10 ∨ (p = 8 ∧ k = 4) := by
      simp at e
      omega
    rcases e2 with rfl | rfl | ⟨rfl, rfl⟩
    · cases h
    · cases h
    · cases h
theorem dAll_36 {k : Nat} (h : (13 ≤ k ∧ k ≤ 27) ∨ k = 32) : dAll 36 k = false := by
  rcases (by omega : k = 13 ∨ k = 14 ∨ k = 15 ∨ k = 16 ∨ k = 17 ∨ k = 18 ∨ k = 19 ∨ k = 20 ∨ k = 21 ∨ k = 22 ∨ k = 23 ∨ k = 24 ∨ k = 25 ∨ k = 26 ∨ k = 27 ∨ k = 32) with rfl | rfl | rfl | rfl | rfl | rfl | rfl | rfl | rfl | rfl | rfl | rfl | rfl | rfl | rfl | rfl <;> rfl
theorem dAll_42 {p k : Nat} (h : 42 ≤ p) (h2 : p ≤ 46) : dAll p k = false := by
  rcases (by omega : p = 42 ∨ p = 43 ∨ p = 44 ∨ p = 45 ∨ p = 46) with rfl | rfl | rfl | rfl | rfl
  all_goals simp [dAll]
theorem dAll_ga {p k : Nat} (h : dAll p k = true) : dGa p k = true := by
  cases e : dGa p k with
  | true => rfl
  | false =>
    have e2 : (p = 36 ∧ ((13 ≤ k ∧ k ≤ 27) ∨ k = 32)) ∨ (42 ≤ p ∧ p ≤ 45) := by
      simp [dGa] at e
      omega
    rcases e2 with ⟨rfl, q⟩ | ⟨q1, q2⟩
    · rw [dAll_36 q] at h
      cases h
    · rw [dAll_42 q1 (by omega)] at h
      cases h
theorem dAll_sy {p k : Nat} (h : dAll p k = true) : dSy p k = true := dGa_sy (dAll_ga h)
section P49
variable {h : xH} {g f t n r : Nat} {T : Nat → Nat → (Nat → Int32) → Int32}
theorem J_C (j : J g f t n r T h) : RdC g r T h := by
  obtain ⟨sh, hn, z, ⟨⟨g1, g7, hf, ht, hd⟩, e1, e2, e3, m1, m2, m3⟩, jk, jw, jp, js, jst, ⟨x1, x2, x3, x4, x5, x6⟩, jr⟩ := j
  exact ⟨sh, hn, z, ⟨g7, e1⟩, x5, (x6 r jr.1).1, jr.2.2.2⟩
theorem J_M (j : J g f t n r T h) : RdM g r T h := by
  obtain ⟨sh, hn, z, ⟨⟨g1, g7, hf, ht, hd⟩, e1, e2, e3, m1, m2, m3⟩, jk, jw, jp, js, jst, ⟨x1, x2, x3, x4, x5, x6⟩, jr⟩ := j
  exact ⟨sh, hn, ⟨g7, m1⟩, x5, (x6 r jr.1).2, Nat.lt_of_lt_of_le jr.1 x2, jr.2.2.1⟩
theorem J_ev {h' : xH} (j : J g f t n r T h) (s : Shp h') (x : Fr dEv h h') : J g f t n r T h' := J_all s (x.mono (fun p k => dAll_ev)) j
theorem J_ga {h' : xH} (j : J g f t n r T h) (s : Shp h') (x : Fr dGa h h') : J g f t n r T h' := J_all s (x.mono (fun p k => dAll_ga)) j
theorem J_sy {h' : xH} (j : J g f t n r T h) (s : Shp h') (x : Fr dSy h h') : J g f t n r T h' := J_all s (x.mono (fun p k => dAll_sy)) j
end P49
def frN (c : Nat → Int32) (x f : Nat) : Bool := f &&& wi x == wi x && c x != nI 0
theorem sdn_fr (c d : Nat → Int32) (x f s : Nat) : sdn c d x f s = (frN c x f || frN d x s) := rfl
theorem fr_ex {c d : Nat → Int32} {x f t : Nat} (hx : wi x ≠ 0) (dj : f &&& t = 0) : ¬ (frN c x f = true ∧ frN d x t = true) := by
  rintro ⟨a, b⟩
  unfold frN at a b
  rw [Bool.and_eq_true, beq_iff_eq] at a b
  apply hx
  apply Nat.eq_of_testBit_eq
  intro i
  rw [Nat.zero_testBit]
  cases e : (wi x).testBit i with
  | false => rfl
  | true => exact absurd ⟨and_full.mp a.1 i e, and_full.mp b.1 i e⟩ (and_nil.mp dj i)
theorem fr_0 {c : Nat → Int32} {x : Nat} (hx : wi x ≠ 0) : frN c x 0 = false := by
  unfold frN
  rw [Nat.zero_and, beq_eq_false_iff_ne.mpr (fun e => hx e.symm)]
  rfl
theorem sov_v {m o t : Nat} {a b : Int32} (hm : m ≠ 0) (d : o &&& t = 0) : sov m o (o ||| t) a b = if (o &&& m == m && a != nI 0) = true then nI 1 else if (t &&& m == m && b != nI 0) = true then nI 0 else -1 := by
  unfold sov
  have e : (o &&& m == 0 && ((o ||| t) &&& m == m)) = (t &&& m == m) := by
    by_cases y : t &&& m = m
    · have y1 : o &&& m = 0 := and_nil.mpr fun i ⟨p, q⟩ => and_nil.mp d i ⟨p, and_full.mp y i q⟩
      have y2 : (o ||| t) &&& m = m := and_full.mpr fun i q => by rw [Nat.testBit_or, and_full.mp y i q, Bool.or_true]
      simp [y, y1, y2]
    · by_cases y1 : o &&& m = 0
      · have y2 : ¬ (o ||| t) &&& m = m := fun z => y (and_full.mpr fun i q => by
          have := and_full.mp z i q
          rw [Nat.testBit_or] at this
          cases u : o.testBit i with
          | true => exact absurd ⟨u, q⟩ (and_nil.mp y1 i)
          | false =>
            rw [u] at this
            exact this)
        rw [beq_eq_false_iff_ne.mpr y, beq_eq_false_iff_ne.mpr y2, Bool.and_false]
      · rw [beq_eq_false_iff_ne.mpr y, beq_eq_false_iff_ne.mpr y1, Bool.false_and]
  rw [e]
theorem first_eq {p : Nat → Bool} {m n : Nat} (h1 : p m = true) (h2 : ∀ k, k < m → p k = false) (h3 : m < n) : fa_first p n = m := by
  rcases Nat.lt_trichotomy (fa_first p n) m with q | q | q
  · have := fa_first_yes p n (by omega)
    rw [h2 _ q] at this
    cases this
  · exact q
  · have := fa_first_no p n m q
    rw [h1] at this
    cases this
theorem first_none {p : Nat → Bool} {n : Nat} (h2 : ∀ k, k < n → p k = false) : fa_first p n = n := by
  rcases Nat.lt_or_ge (fa_first p n) n with q | q
  · have := fa_first_yes p n q
    rw [h2 _ q] at this
    cases this
  · exact Nat.le_antisymm (fa_first_le p n) q
section P49
variable {h : xH} {g : Nat}
theorem hm_e (s : Shp h) (z : Jseat h) (g7 : g ≤ 7) (e : hI h 11 3 = nI (c3 g)) {F U : Nat} (hF : F < 2 ^ 31) (hU : U < 2 ^ 31) : f_St_howMany 11 (nI F) (nI U) h = some (nI (hmt (hI h 12) (hI h 13) g F U), h) := by
  rw [St_howMany_e s z (c3_le g g7) e hF hU, hmy_t g7]
theorem hmt_le (c d : Nat → Int32) (g f s : Nat) : hmt c d g f s ≤ c3 g := fb_ct_le _ _
/-- what the reference's sort says of a three, over gathered rows -/
theorem sort_e (s : Shp h) (g7 : g ≤ 7) (j : Jga g h) {k o u : Nat} (hk : k < c3 g) (ho : o < 2 ^ 31) (hu : u < 2 ^ 31) (d : o &&& u = 0) : f_Mo_sortOf 36 (nI k) (nI o) (nI (o ||| u)) h = some (if frN (hI h 12) (st3 (tmn g k)) o = true then nI 1 else if frN (hI h 13) (st3 (tmn g k)) u = true then nI 0 else -1, h) := by
  have hc := c3_le g g7
  obtain ⟨w1, w2, w3, w4⟩ := wi_tm g7 hk
  obtain ⟨a1, a2, a3, a4⟩ := j.2 k hk
  rw [Mo_sortOf_e s (by omega) a1 (by omega) ho (Nat.or_lt_two_pow ho hu), sov_v w4 d, a3, a4]
  unfold frN
  rw [w1]
theorem Mo_degree_e (s : Shp h) (g7 : g ≤ 7) (m1 : hI h 36 7 = nI g) {f : Nat} (hf : f < 2 ^ 31) (m2 : hI h 36 8 = nI f) {i : Nat} (hi : i < 7) : f_Mo_degree 36 (nI i) h = some (nI (deg g f i), h) := by
  unfold f_Mo_degree deg
  refine lpf (fun n k (v : Int32) => f_Mo_degree_L4 36 (nI i) n v k h (fun v12 v13 h14 => some (v12, h14))) (fun o => o = some (nI (fb_ct (fun j => j != i && f.testBit (prs i j)) g), h)) (fun k v => v = nI (fb_ct (fun j => j != i && f.testBit (prs i j)) k)) g (i := 0) (Nat.zero_le _) (by omega) rfl ?_ ?_
  · intro n k v hk e
    subst e
    refine Or.inr ⟨_, ?_, rfl⟩
    simp only [f_Mo_degree_L4, jn, gd, shp s, if_true, m1]
    rw [if_neg (nI_ge hk (by omega)), fb_ct_succ]
    by_cases e : k = i
    · rw [if_pos (by rw [e]), e]
      simp [nI_1]
    · have hp : prs i k < 31 := by
        have := prs_lt 7 (by decide) i hi k (by omega) (fun x => e x.symm)
        have := c2_le 7 (by decide)
        omega
      rw [if_neg (by rw [nI_eq (by omega) (by omega)]; exact e), Mo_know_n s hf m2 hi (by omega) hp]
      simp only [bind_s, show (k != i) = true from bne_iff_ne.mpr e, Bool.true_and]
      cases f.testBit (prs i k)
      · simp [b2i_f, nI_1]
      · simp only [b2i_t, i10, if_false, if_true]
        rw [k1, nI_add, nI_add]
  · intro n v e
    subst e
    simp only [f_Mo_degree_L4, gd, shp s, if_true, m1]
    rw [if_pos (nI_le (Nat.le_refl _) (by omega))]
theorem Ma_deg_e (s : Shp h) (g7 : g ≤ 7) (e1 : hI h 7 1 = nI g) {f : Nat} (hf : f < 2 ^ 31) (e2 : hI h 7 2 = nI f) {i : Nat} (hi : i < 7) : ∃ x, f_Ta_knownBy 7 (nI i) h = some (nI x, h) ∧ f_In_bitCount (nI x) h = some (nI (deg g f i), h) := by
  have kl := kb_lt f i g
  refine ⟨kb f i g, Ta_knownBy_e s g7 e1 hf e2 hi, ?_⟩
  rw [pcI (Nat.lt_of_lt_of_le kl (Nat.pow_le_pow_right (by decide) (by omega))), kb_deg g7]
end P49
/-! threes -/
def fst3 (p : Nat → Bool) (g m : Nat) : Int32 := if fa_first p m < m then nI (wh3 (tmn g (fa_first p m))) else -1
theorem fst3_y {p : Nat → Bool} {g m : Nat} (h : p m = true) (h2 : ∀ k, k < m → p k = false) {n : Nat} (hn : m < n) : fst3 p g n = nI (wh3 (tmn g m)) := by
  unfold fst3
  rw [first_eq h h2 hn, if_pos hn]
theorem fst3_n {p : Nat → Bool} {g n : Nat} (h2 : ∀ k, k < n → p k = false) : fst3 p g n = -1 := by
  unfold fst3
  rw [first_none h2, if_neg (by omega)]
/-- the first three so far -/
def FSt (p : Nat → Bool) (g n : Nat) (v : Int32) : Prop := ((∀ k, k < n → p k = false) ∧ v = -1) ∨ ∃ m, m < n ∧ p m = true ∧ (∀ k, k < m → p k = false) ∧ v = nI (wh3 (tmn g m))
theorem FSt_e {p : Nat → Bool} {g n : Nat} {v : Int32} (h : FSt p g n v) : v = fst3 p g n := by
  rcases h with ⟨a, b⟩ | ⟨m, a, b, c, d⟩
  · rw [fst3_n a, b]
  · rw [fst3_y b c a, d]
theorem wh_lt {g t : Nat} (g7 : g ≤ 7) (ht : t < c3 g) : wh3 (tmn g t) < 700 := by
  obtain ⟨a, b, c⟩ := tm_in g g7 t ht
  unfold wh3
  omega
theorem FSt_s {p : Nat → Bool} {g n : Nat} {v : Int32} (g7 : g ≤ 7) (hn : n < c3 g) (h : FSt p g n v) : FSt p g (n + 1) (if p n = true then (if v = -1 then nI (wh3 (tmn g n)) else v) else v) := by
  cases e : p n with
  | false =>
    rw [if_neg (by decide)]
    rcases h with ⟨a, b⟩ | ⟨m, a, b, c, d⟩
    · refine Or.inl ⟨fun k hk => ?_, b⟩
      rcases (by omega : k < n ∨ k = n) with q | q
      · exact a k q
      · rw [q, e]
    · exact Or.inr ⟨m, by omega, b, c, d⟩
  | true =>
    rw [if_pos rfl]
    rcases h with ⟨a, b⟩ | ⟨m, a, b, c, d⟩
    · rw [if_pos b]
      exact Or.inr ⟨n, by omega, e, a, rfl⟩
    · have : ¬ v = -1 := by
        rw [d]
        intro q
        have := wh_lt g7 (show m < c3 g by omega)
        exact nI_pos (n := wh3 (tmn g m)) (by omega) (by rw [q]; decide)
      rw [if_neg this]
      exact Or.inr ⟨m, by omega, b, c, d⟩
section P49
variable {h : xH} {g f t : Nat}
theorem firstThree_e (s : Shp h) (z : Jseat h) (g7 : g ≤ 7) (e1 : hI h 7 1 = nI g) (e2 : hI h 7 2 = nI f) (e3 : hI h 7 3 = nI t) (hf : f < 2 ^ 31) (ht : t < 2 ^ 31) : f_Ma_firstThree 1 h = some (fst3 (fun k => sdn (hI h 12) (hI h 13) (st3 (tmn g k)) f t) g (c3 g), h) := by
  generalize hp' : (fun k => sdn (hI h 12) (hI h 13) (st3 (tmn g k)) f t) = p
  have hp : ∀ k, p k = sdn (hI h 12) (hI h 13) (st3 (tmn g k)) f t := fun k => by rw [← hp']
  have L3 : ∀ i j K, i < j → j < g → (∀ q, q < pos g i j (j + 1) → p q = false) → (f_Ma_firstThree_L32 1 (nI i) (nI j) fu (nI (j + 1)) h K = some (fst3 p g (c3 g), h)) ∨ (f_Ma_firstThree_L32 1 (nI i) (nI j) fu (nI (j + 1)) h K = K (nI g) h ∧ ∀ q, q < pos g i (j + 1) (j + 2) → p q = false) := by
    intro i j K hi hj P
    refine lpf (fun n k (v : Unit) => f_Ma_firstThree_L32 1 (nI i) (nI j) n k h K) (fun o => o = some (fst3 p g (c3 g), h) ∨ (o = K (nI g) h ∧ ∀ q, q < pos g i (j + 1) (j + 2) → p q = false)) (fun k v => j < k ∧ ∀ q, q < pos g i j k → p q = false) g (i := j + 1) (s := ()) (by omega) (by omega) ⟨by omega, P⟩ ?_ ?_
    · intro n k v hk ⟨hjk, P⟩
      obtain ⟨p1, p2, p3⟩ := pos_1 g (by omega) k hk j hjk i hi
      have st := wi_st k (by omega) j hjk i hi
      have E : f_Ma_firstThree_L32 1 (nI i) (nI j) (n + 1) (nI k) h K = if p (pos g i j k) = true then some (nI (wh3 (i, j, k)), h) else f_Ma_firstThree_L32 1 (nI i) (nI j) n (nI (k + 1)) h K := by
        rw [f_Ma_firstThree_L32]
        simp only [gd, shp s, if_true, e1, e2, e3]
        rw [if_neg (nI_ge hk (by omega)), set3 k (by omega) j hjk i hi, St_stands_e s z st.2.1 hf ht, hp, p1]
        simp only [bind_s, who3, nI_1]
        cases sdn (hI h 12) (hI h 13) (st3 (i, j, k)) f t
        · rfl
        · rfl
      cases c : p (pos g i j k) with
      | true =>
        rw [c, if_pos rfl] at E
        left
        left
        rw [E, fst3_y c P p3, p1]
      | false =>
        rw [c, if_neg (by decide)] at E
        refine Or.inr ⟨(), E, by omega, fun q hq => ?_⟩
        rw [p2] at hq
        rcases (by omega : q < pos g i j k ∨ q = pos g i j k) with u | u
        · exact P q u
        · rw [u, c]
    · intro n v ⟨hjk, P⟩
      right
      refine ⟨?_, ?_⟩
      · simp only [f_Ma_firstThree_L32, gd, shp s, if_true, e1]
        rw [if_pos (nI_le (Nat.le_refl _) (by omega))]
      · rw [← pos_2 g (by omega) j hj i hi]
        exact P
  have L2 : ∀ i K, i < g → (∀ q, q < pos g i (i + 1) (i + 2) → p q = false) → (f_Ma_firstThree_L17 1 (nI i) fu (nI (i + 1)) h K = some (fst3 p g (c3 g), h)) ∨ (f_Ma_firstThree_L17 1 (nI i) fu (nI (i + 1)) h K = K (nI g) h ∧ ∀ q, q < pos g (i + 1) (i + 2) (i + 3) → p q = false) := by
    intro i K hi P
    refine lpf (fun n k (v : Unit) => f_Ma_firstThree_L17 1 (nI i) n k h K) (fun o => o = some (fst3 p g (c3 g), h) ∨ (o = K (nI g) h ∧ ∀ q, q < pos g (i + 1) (i + 2) (i + 3) → p q = false)) (fun k v => i < k ∧ ∀ q, q < pos g i k (k + 1) → p q = false) g (i := i + 1) (s := ()) (by omega) (by omega) ⟨by omega, P⟩ ?_ ?_
    · intro n k v hk ⟨hik, P⟩
      have E : f_Ma_firstThree_L17 1 (nI i) (n + 1) (nI k) h K = f_Ma_firstThree_L32 1 (nI i) (nI k) fu (nI (k + 1)) h (fun v17 h18 => f_Ma_firstThree_L17 1 (nI i) n (nI (k + 1)) h18 K) := by
        rw [f_Ma_firstThree_L17]
        simp only [gd, shp s, if_true, e1]
        rw [if_neg (nI_ge hk (by omega)), nI_1]
      rcases L3 i k (fun v17 h18 => f_Ma_firstThree_L17 1 (nI i) n (nI (k + 1)) h18 K) hik hk P with q | ⟨q1, q2⟩
      · exact Or.inl (Or.inl (E.trans q))
      · exact Or.inr ⟨(), E.trans q1, by omega, q2⟩
    · intro n v ⟨hik, P⟩
      right
      refine ⟨?_, ?_⟩
      · simp only [f_Ma_firstThree_L17, gd, shp s, if_true, e1]
        rw [if_pos (nI_le (Nat.le_refl _) (by omega))]
      · rw [← pos_3 g (by omega) i hi]
        exact P
  unfold f_Ma_firstThree
  refine lpf (fun n k (v : Unit) => f_Ma_firstThree_L2 1 n k h (fun v21 h22 => some ((-1 : Int32), h22))) (fun o => o = some (fst3 p g (c3 g), h)) (fun k v => ∀ q, q < pos g k (k + 1) (k + 2) → p q = false) g (i := 0) (s := ()) (by omega) (by omega) (fun q hq => by rw [(pos_4 g (by omega)).1] at hq; omega) ?_ ?_
  · intro n k v hk P
    have E : f_Ma_firstThree_L2 1 (n + 1) (nI k) h (fun v21 h22 => some ((-1 : Int32), h22)) = f_Ma_firstThree_L17 1 (nI k) fu (nI (k + 1)) h (fun v19 h20 => f_Ma_firstThree_L2 1 n (nI (k + 1)) h20 (fun v21 h22 => some ((-1 : Int32), h22))) := by
      rw [f_Ma_firstThree_L2]
      simp only [gd, shp s, if_true, e1]
      rw [if_neg (nI_ge hk (by omega)), nI_1]
    rcases L2 k (fun v19 h20 => f_Ma_firstThree_L2 1 n (nI (k + 1)) h20 (fun v21 h22 => some ((-1 : Int32), h22))) hk P with q | ⟨q1, q2⟩
    · exact Or.inl (E.trans q)
    · exact Or.inr ⟨(), E.trans q1, q2⟩
  · intro n v P
    rw [(pos_4 g (by omega)).2] at P
    rw [fst3_n P]
    simp only [f_Ma_firstThree_L2, gd, shp s, if_true, e1]
    rw [if_pos (nI_le (Nat.le_refl _) (by omega))]
/-- the reference's walk over its threes -/
def PTh (c d : Nat → Int32) (g f t i : Nat) (v : Int32 × Int32 × Int32) : Prop := v.1 = nI (fb_ct (fun k => frN c (st3 (tmn g k)) f) i) ∧ v.2.1 = nI (fb_ct (fun k => frN d (st3 (tmn g k)) t) i) ∧ FSt (fun k => sdn c d (st3 (tmn g k)) f t) g i v.2.2
theorem Mo_threes_L {a1 : Int32} (s : Shp h) (g7 : g ≤ 7) (j : Jga g h) (hf : f < 2 ^ 31) (ht : t < 2 ^ 31) (dj : f &&& t = 0) (m2 : hI h 36 8 = nI f) (m3 : hI h 36 9 = nI (f ||| t)) (K : Int32 → Int32 → Int32 → Int32 → xH → Option (Int32 × xH)) : ∃ v, f_Mo_threes_L99 36 a1 fu (0 : Int32) (0 : Int32) (-1 : Int32) (0 : Int32) h K = K v.1 v.2.1 v.2.2 (nI (c3 g)) h ∧ PTh (hI h 12) (hI h 13) g f t (c3 g) v := by
  have hc := c3_le g g7
  refine lpf (fun n i (v : Int32 × Int32 × Int32) => f_Mo_threes_L99 36 a1 n v.1 v.2.1 v.2.2 i h K) (fun o => ∃ v, o = K v.1 v.2.1 v.2.2 (nI (c3 g)) h ∧ PTh (hI h 12) (hI h 13) g f t (c3 g) v) (fun i v => PTh (hI h 12) (hI h 13) g f t i v) (c3 g) (i := 0) (s := (0, 0, -1)) (Nat.zero_le _) (by omega) ⟨rfl, rfl, Or.inl ⟨fun k hk => by omega, rfl⟩⟩ ?_ ?_
  · intro n i v hi ⟨P1, P2, P3⟩
    have w0 : wi (st3 (tmn g i)) ≠ 0 := by rw [(wi_tm g7 hi).1]; exact (wi_tm g7 hi).2.2.2
    have ex := fr_ex (c := hI h 12) (d := hI h 13) w0 dj
    have FS := FSt_s g7 hi P3
    have hin : ¬ (nI i < 0 ∨ 35 ≤ i) := nin (by omega) (by omega)
    refine Or.inr ⟨(nI (fb_ct (fun k => frN (hI h 12) (st3 (tmn g k)) f) (i + 1)), nI (fb_ct (fun k => frN (hI h 13) (st3 (tmn g k)) t) (i + 1)), _), ?_, rfl, rfl, FS⟩
    rw [f_Mo_threes_L99]
    simp only [jn, gd, shp s, if_true, j.1, m2, m3, sort_e s g7 j hi hf ht dj, bind_s, P1, P2]
    rw [if_neg (nI_ge hi (by omega)), fb_ct_succ, fb_ct_succ]
    simp only [sdn_fr]
    cases a : frN (hI h 12) (st3 (tmn g i)) f with
    | true =>
      cases b : frN (hI h 13) (st3 (tmn g i)) t with
      | true => exact absurd ⟨a, b⟩ ex
      | false =>
        simp only [if_true, Bool.true_or, Bool.false_eq_true, if_false, if_pos (show nI 1 = (1 : Int32) from rfl), if_neg (show ¬ nI 1 = (0 : Int32) by decide), if_neg (show ¬ nI 1 = (-1 : Int32) by decide), nI_1, nI_clamp (show i < 2 ^ 31 by omega), if_pos hin, (j.2 i hi).2.1]
        rw [k0, nI_add]
        split
        · rfl
        · rfl
    | false =>
      cases b : frN (hI h 13) (st3 (tmn g i)) t with
      | true =>
        simp only [if_true, Bool.false_or, Bool.false_eq_true, if_false, if_neg (show ¬ nI 0 = (1 : Int32) by decide), if_pos (show nI 0 = (0 : Int32) from rfl), if_neg (show ¬ nI 0 = (-1 : Int32) by decide), nI_1, nI_clamp (show i < 2 ^ 31 by omega), if_pos hin, (j.2 i hi).2.1]
        rw [k0, nI_add]
        split
        · rfl
        · rfl
      | false =>
        simp only [Bool.false_or, Bool.false_eq_true, if_false, if_neg (show ¬ (-1 : Int32) = (1 : Int32) by decide), if_neg (show ¬ (-1 : Int32) = (0 : Int32) by decide), if_true, nI_1]
        rw [k0, nI_add, nI_add]
        rfl
  · intro n v P
    refine ⟨v, ?_, P⟩
    simp only [f_Mo_threes_L99, gd, shp s, if_true, j.1]
    rw [if_pos (nI_le (Nat.le_refl _) (by omega))]
def dgs (g f i : Nat) : Int32 := nI (deg g f i) * ((nI g - (1 : Int32)) - nI (deg g f i))
theorem Ma_byDegrees_e (s : Shp h) (g7 : g ≤ 7) (e1 : hI h 7 1 = nI g) (e2 : hI h 7 2 = nI f) (hf : f < 2 ^ 31) : f_Ma_byDegrees 1 h = some (nI (c3 g) - isum (dgs g f) g / (2 : Int32), h) := by
  unfold f_Ma_byDegrees
  refine lpf (fun n i (v : Int32) => f_Ma_byDegrees_L4 1 n v i h _) (fun o => o = _) (fun i v => v = isum (dgs g f) i) g (i := 0) (Nat.zero_le _) (by omega) rfl ?_ ?_
  · intro n i v hi e
    subst e
    refine Or.inr ⟨_, ?_, rfl⟩
    obtain ⟨x, x1, x2⟩ := Ma_deg_e s g7 e1 hf e2 (show i < 7 by omega)
    rw [f_Ma_byDegrees_L4]
    simp only [gd, shp s, if_true, e1]
    rw [if_neg (nI_ge hi (by omega)), x1]
    simp only [bind_s, x2, shp s, if_true, e1, nI_1]
    rfl
  · intro n v e
    subst e
    rw [f_Ma_byDegrees_L4]
    simp only [gd, shp s, if_true, e1]
    rw [if_pos (nI_le (Nat.le_refl _) (by omega)), Se_threesAmong_n g7]
    simp only [bind_s]
theorem Mo_byDegrees_e {a1 : Int32} (s : Shp h) (g7 : g ≤ 7) (m1 : hI h 36 7 = nI g) (m2 : hI h 36 8 = nI f) (hf : f < 2 ^ 31) (K : Int32 → Int32 → xH → Option (Int32 × xH)) : f_Mo_threes_L24 36 a1 fu (0 : Int32) (0 : Int32) h K = K (isum (dgs g f) g) (nI g) h := by
  refine lpf (fun n i (v : Int32) => f_Mo_threes_L24 36 a1 n v i h K) (fun o => o = K (isum (dgs g f) g) (nI g) h) (fun i v => v = isum (dgs g f) i) g (i := 0) (Nat.zero_le _) (by omega) rfl ?_ ?_
  · intro n i v hi e
    subst e
    refine Or.inr ⟨_, ?_, rfl⟩
    rw [f_Mo_threes_L24]
    simp only [gd, shp s, if_true, m1]
    rw [if_neg (nI_ge hi (by omega)), Mo_degree_e s g7 m1 hf m2 (by omega)]
    simp only [bind_s, shp s, if_true, m1, Mo_degree_e s g7 m1 hf m2 (show i < 7 by omega), nI_1]
    rfl
  · intro n v e
    subst e
    rw [f_Mo_threes_L24]
    simp only [gd, shp s, if_true, m1]
    rw [if_pos (nI_le (Nat.le_refl _) (by omega))]
end P49
theorem ct_or2 {c d : Nat → Int32} {g f t : Nat} (g7 : g ≤ 7) (dj : f &&& t = 0) : hmt c d g f t = fb_ct (fun k => frN c (st3 (tmn g k)) f) (c3 g) + fb_ct (fun k => frN d (st3 (tmn g k)) t) (c3 g) := by
  unfold hmt
  rw [← fb_ct_or]
  · rfl
  · intro k hk
    exact fr_ex (by rw [(wi_tm g7 hk).1]; exact (wi_tm g7 hk).2.2.2) dj
theorem Y_threes : Sp_threes Inv := by
  intro x h I
  obtain ⟨g, f, t, n, r, T, j⟩ := I
  have j0 := j
  obtain ⟨sh, hn, z, ⟨⟨g1, g7, hf, ht, hd⟩, e1, e2, e3, m1, m2, m3⟩, jk, jw, jp, js, jst, jx, jr⟩ := j0
  have f24 := lt24 g7 hf
  have t24 := lt24 g7 ht
  have f31 := lt3 f24
  have t31 := lt3 t24
  have s36 : hK h 36 = 11 := by simp only [shp sh]
  cases cx : inr x 4 with
  | false =>
    refine ⟨-2, h, h, ?_, s36, ?_, ⟨g, f, t, n, r, T, j⟩⟩
    · have ne : ∀ y, y ≤ 4 → ¬ x = nI y := fun y hy e => by
        rw [e, inr_y hy (by decide)] at cx
        cases cx
      unfold f_Ma_threes
      rw [if_neg (show ¬ x = (0 : Int32) from ne 0 (by decide)), if_neg (show ¬ x = (1 : Int32) from ne 1 (by decide)), if_neg (show ¬ x = (2 : Int32) from ne 2 (by decide)), if_neg (show ¬ x = (3 : Int32) from ne 3 (by decide)), if_neg (show ¬ x = (4 : Int32) from ne 4 (by decide))]
    · simp only [f_Mo_threes, Mo_in_4, cx, bind_s, b2i_f, if_true]
  | true =>
    obtain ⟨y, hy, rfl⟩ := inr_ex (by decide) cx
    by_cases y4 : y = 4
    · subst y4
      refine ⟨nI (c3 g) - isum (dgs g f) g / (2 : Int32), h, h, ?_, s36, ?_, ⟨g, f, t, n, r, T, j⟩⟩
      · unfold f_Ma_threes
        rw [if_neg (show ¬ nI 4 = (0 : Int32) by decide), if_neg (show ¬ nI 4 = (1 : Int32) by decide), if_neg (show ¬ nI 4 = (2 : Int32) by decide), if_neg (show ¬ nI 4 = (3 : Int32) by decide), if_pos (show nI 4 = (4 : Int32) from rfl)]
        simp only [gd, shp sh, if_true, Ma_byDegrees_e sh g7 e1 e2 f31, bind_s]
      · simp only [f_Mo_threes, Mo_in_4, cx, bind_s, b2i_t, i10, if_false, if_pos (show nI 4 = (4 : Int32) from rfl)]
        rw [Mo_byDegrees_e sh g7 m1 m2 f31]
        simp only [gd, shp sh, if_true, m1]
        rw [c3_n g g7]
    · obtain ⟨h2, b1, s2, x2, jg⟩ := Mo_gathers_e (J_M j) jst
      have j2 := J_ga j s2 x2
      obtain ⟨v, v1, P1, P2, P3⟩ := Mo_threes_L (a1 := nI y) s2 g7 jg f31 t31 hd ((x2.v hn 8 (by decide) rfl).trans m2) ((x2.v hn 9 (by decide) rfl).trans m3) (fun v32 v33 v34 v35 h36 => some ((if nI y = 0 then v32 else if nI y = (1 : Int32) then v33 else if nI y = (2 : Int32) then v32 + v33 else v34), h36))
      have c12 : hI h2 12 = hI h 12 := funext fun k => x2.v hn k (by decide) rfl
      have c13 : hI h2 13 = hI h 13 := funext fun k => x2.v hn k (by decide) rfl
      rw [c12] at P1 P3
      rw [c13] at P2 P3
      have P3' := FSt_e P3
      refine ⟨if nI y = 0 then v.1 else if nI y = (1 : Int32) then v.2.1 else if nI y = (2 : Int32) then v.1 + v.2.1 else v.2.2, h, h2, ?_, s36, ?_, ⟨g, f, t, n, r, T, j2⟩⟩
      · unfold f_Ma_threes
        rcases (by omega : y = 0 ∨ y = 1 ∨ y = 2 ∨ y = 3) with rfl | rfl | rfl | rfl
        · rw [if_pos (show nI 0 = (0 : Int32) from rfl), if_pos (show nI 0 = (0 : Int32) from rfl)]
          have e0 : f_St_howMany 11 (nI f) (0 : Int32) h = some (v.1, h) := by
            rw [P1, show f_St_howMany 11 (nI f) (0 : Int32) h = _ from hm_e sh z g7 jst.1 f31 (show 0 < 2 ^ 31 by decide)]
            congr 3
            exact fb_ct_cong (fun k hk => by
              rw [sdn_fr, fr_0 (by rw [(wi_tm g7 hk).1]; exact (wi_tm g7 hk).2.2.2), Bool.or_false])
          simp only [gd, shp sh, if_true, e2, e0, bind_s]
        · rw [if_neg (show ¬ nI 1 = (0 : Int32) by decide), if_neg (show ¬ nI 1 = (0 : Int32) by decide), if_pos (show nI 1 = (1 : Int32) from rfl), if_pos (show nI 1 = (1 : Int32) from rfl)]
          have e0 : f_St_howMany 11 (0 : Int32) (nI t) h = some (v.2.1, h) := by
            rw [P2, show f_St_howMany 11 (0 : Int32) (nI t) h = _ from hm_e sh z g7 jst.1 (show 0 < 2 ^ 31 by decide) t31]
            congr 3
            exact fb_ct_cong (fun k hk => by
              rw [sdn_fr, fr_0 (by rw [(wi_tm g7 hk).1]; exact (wi_tm g7 hk).2.2.2), Bool.false_or])
          simp only [gd, shp sh, if_true, e3, e0, bind_s]
        · rw [if_neg (show ¬ nI 2 = (0 : Int32) by decide), if_neg (show ¬ nI 2 = (0 : Int32) by decide), if_neg (show ¬ nI 2 = (1 : Int32) by decide), if_neg (show ¬ nI 2 = (1 : Int32) by decide), if_pos (show nI 2 = (2 : Int32) from rfl), if_pos (show nI 2 = (2 : Int32) from rfl)]
          simp only [f_Ma_threesNow, gd, shp sh, if_true, e2, e3, hm_e sh z g7 jst.1 f31 t31, bind_s]
          rw [P1, P2, nI_add, ct_or2 g7 hd]
        · rw [if_neg (show ¬ nI 3 = (0 : Int32) by decide), if_neg (show ¬ nI 3 = (0 : Int32) by decide), if_neg (show ¬ nI 3 = (1 : Int32) by decide), if_neg (show ¬ nI 3 = (1 : Int32) by decide), if_neg (show ¬ nI 3 = (2 : Int32) by decide), if_neg (show ¬ nI 3 = (2 : Int32) by decide), if_pos (show nI 3 = (3 : Int32) from rfl)]
          simp only [gd, shp sh, if_true, firstThree_e sh z g7 e1 e2 e3 f31 t31, bind_s]
          rw [P3']
      · have ny : ¬ nI y = (4 : Int32) := by
          rw [show (4 : Int32) = nI 4 from rfl, nI_eq (by omega) (by decide)]
          exact y4
        simp only [f_Mo_threes, Mo_in_4, cx, bind_s, b2i_t, i10, if_false, if_neg ny, gd, shp sh, if_true, b1]
        exact v1

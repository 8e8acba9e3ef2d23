/-! all tables of n without a three of one sort -/
def two2 (p : Nat) : Nat := 2 ^ lo p ||| 2 ^ hi p
def clk (p B k : Nat) : Bool := !(two2 p).testBit k && (B &&& wi (two2 p ||| 2 ^ k) == wi (two2 p ||| 2 ^ k))
def cls (p B : Nat) : Bool := (List.range 7).any (fun k => clk p B k)
theorem two2_e : ∀ p, p < 21 → jShl (1 : Int32) (nI (lo p)) ||| jShl (1 : Int32) (nI (hi p)) = nI (two2 p) ∧ two2 p < 128 := by decide +kernel
section P57
variable {h : xH}
theorem closes_e (s : Shp h) (z : Jseat h) {p B : Nat} (hp : p < 21) (hB : B < 2 ^ 31) : f_Se_closes 2 (nI p) (nI B) h = some (b2i (cls p B), h) := by
  obtain ⟨t1, t2⟩ := two2_e p hp
  have any_y : ∀ k, k < 7 → clk p B k = true → cls p B = true := fun k hk c => List.any_eq_true.mpr ⟨k, List.mem_range.mpr hk, c⟩
  simp only [f_Se_closes, gd, shp s, if_true, Se_lower_e s z hp, Se_higher_e s z hp, bind_s, t1]
  refine lpf (fun n k (v : Unit) => f_Se_closes_L19 2 (nI p) (nI B) (nI (two2 p)) n k h (fun v18 h19 => some ((0 : Int32), h19))) (fun o => o = some (b2i (cls p B), h)) (fun k v => ∀ q, q < k → clk p B q = false) 7 (i := 0) (s := ()) (Nat.zero_le _) (by omega) (fun q hq => by omega) ?_ ?_
  · intro n k v hk P
    have o7 : two2 p ||| 2 ^ k < 128 := Nat.or_lt_two_pow (n := 7) t2 (Nat.pow_lt_pow_right (by decide) hk)
    have wl := wi_lt _ o7
    have ae : (nI B &&& nI (wi (two2 p ||| 2 ^ k)) = nI (wi (two2 p ||| 2 ^ k))) = ((B &&& wi (two2 p ||| 2 ^ k) == wi (two2 p ||| 2 ^ k)) = true) := and_eqI hB (by omega)
    have ce : clk p B k = (!(two2 p).testBit k && (B &&& wi (two2 p ||| 2 ^ k) == wi (two2 p ||| 2 ^ k))) := rfl
    have tbb := tb (show two2 p < 2 ^ 31 by omega) (show k < 31 by omega)
    have SW := Se_within_e s z o7
    generalize wi (two2 p ||| 2 ^ k) = w at *
    have E : f_Se_closes_L19 2 (nI p) (nI B) (nI (two2 p)) (n + 1) (nI k) h (fun v18 h19 => some ((0 : Int32), h19)) = if clk p B k = true then some ((1 : Int32), h) else f_Se_closes_L19 2 (nI p) (nI B) (nI (two2 p)) n (nI (k + 1)) h (fun v18 h19 => some ((0 : Int32), h19)) := by
      rw [f_Se_closes_L19, if_neg (show ¬ (7 : Int32) ≤ nI k from nI_ge (b := 7) hk (by decide)), gd_t (by simp only [shp s]), ss k (by omega), fa_or, SW, bind_s]
      simp only [jn]
      rw [tbb, nI_1, ce]
      cases (two2 p).testBit k
      · rw [if_pos b2i_f]
        by_cases c : (B &&& w == w) = true
        · rw [if_pos (ae.mpr c), c]
          rfl
        · rw [if_neg (fun q => c (ae.mp q))]
          rw [Bool.not_eq_true] at c
          rw [c]
          rfl
      · rw [if_neg (show ¬ b2i true = 0 by decide)]
        rfl
    cases c : clk p B k with
    | true =>
      rw [c, if_pos rfl] at E
      left
      rw [E, any_y k hk c]
      rfl
    | false =>
      rw [c, if_neg (by decide)] at E
      refine Or.inr ⟨(), E, fun q hq => ?_⟩
      rcases (by omega : q < k ∨ q = k) with u | u
      · exact P q u
      · rw [u, c]
  · intro n v P
    have : cls p B = false := by
      unfold cls
      rw [List.any_eq_false]
      intro x hx
      rw [P x (List.mem_range.mp hx)]
      decide
    rw [this, f_Se_closes_L19, if_pos (show (7 : Int32) ≤ nI 7 by decide)]
    rfl
end P57
def lvd (P : Nat) : Nat → Nat → Nat → Nat → List Nat
  | 0, _, _, _ => []
  | k + 1, p, f, t => if p < P then (if cls p (f ||| 2 ^ p) = true then [] else lvd P k (p + 1) (f ||| 2 ^ p) t) ++ (if cls p (t ||| 2 ^ p) = true then [] else lvd P k (p + 1) f (t ||| 2 ^ p)) else [f]
def upl (l : Int32) (x : Nat) : Int32 := if l < 0 then nI x else if l ≤ nI x then l else nI x
def dWb (p k : Nat) : Bool := !(decide (p = 16) && (decide (k = 3) || (decide (k = 4) || decide (k = 5))))
def WaS (P c : Nat) (l : Int32) (h : xH) : Prop := Shp h ∧ 51 ≤ hN h ∧ Jseat h ∧ hI h 16 2 = nI P ∧ hI h 16 3 = nI c ∧ hI h 16 5 = l
theorem drawFrom_e {P : Nat} (hP : P ≤ 10) : ∀ (k p f t c : Nat) (l : Int32) (h : xH), P + 1 ≤ p + k → p ≤ P → f < 2 ^ p → t < 2 ^ p → WaS P c l h → ∃ h', G_Wa_drawFrom k 16 (nI p) (nI f) (nI t) h = some ((), h') ∧ WaS P (c + (lvd P k p f t).length) ((lvd P k p f t).foldl upl l) h' ∧ Fr dWb h h'
  | 0, p, f, t, c, l, h, hk, hp, _, _, _ => absurd hk (by omega)
  | k + 1, p, f, t, c, l, h, hk, hp, hf, ht, ⟨s, hn, z, a1, a2, a3⟩ => by
    have p1024 : 2 ^ p ≤ 2 ^ 10 := Nat.pow_le_pow_right (by decide) (by omega)
    by_cases c1 : p < P
    · have f2 : f ||| 2 ^ p < 2 ^ (p + 1) := or2_lt (Nat.lt_trans hf (Nat.pow_lt_pow_succ (by decide))) (Nat.lt_succ_self p)
      have t2 : t ||| 2 ^ p < 2 ^ (p + 1) := or2_lt (Nat.lt_trans ht (Nat.pow_lt_pow_succ (by decide))) (Nat.lt_succ_self p)
      have e2 : 2 ^ (p + 1) ≤ 2048 := by rw [Nat.pow_succ]; omega
      have hf' : f < 2 ^ (p + 1) := Nat.lt_trans hf (Nat.pow_lt_pow_succ (by decide))
      have ht' : t < 2 ^ (p + 1) := Nat.lt_trans ht (Nat.pow_lt_pow_succ (by decide))
      have LV : lvd P (k + 1) p f t = (if cls p (f ||| 2 ^ p) = true then [] else lvd P k (p + 1) (f ||| 2 ^ p) t) ++ (if cls p (t ||| 2 ^ p) = true then [] else lvd P k (p + 1) f (t ||| 2 ^ p)) := by
        conv => lhs; unfold lvd
        exact if_pos c1
      -- first half
      obtain ⟨h1, b1, b2, b3⟩ : ∃ h1, (if b2i (cls p (f ||| 2 ^ p)) = 0 then Option.bind (G_Wa_drawFrom k 16 (nI (p + 1)) (nI (f ||| 2 ^ p)) (nI t) h) (fun q => some ((), q.2)) else some ((), h)) = some ((), h1) ∧ WaS P (c + (if cls p (f ||| 2 ^ p) = true then [] else lvd P k (p + 1) (f ||| 2 ^ p) t).length) ((if cls p (f ||| 2 ^ p) = true then [] else lvd P k (p + 1) (f ||| 2 ^ p) t).foldl upl l) h1 ∧ Fr dWb h h1 := by
        cases cls p (f ||| 2 ^ p) with
        | true => exact ⟨h, if_neg (by decide), ⟨s, hn, z, a1, a2, a3⟩, Fr.refl h⟩
        | false =>
          obtain ⟨h1, b1, b2, b3⟩ := drawFrom_e hP k (p + 1) (f ||| 2 ^ p) t c l h (by omega) c1 f2 ht' ⟨s, hn, z, a1, a2, a3⟩
          refine ⟨h1, ?_, b2, b3⟩
          rw [if_pos b2i_f, b1]
          rfl
      generalize (if cls p (f ||| 2 ^ p) = true then [] else lvd P k (p + 1) (f ||| 2 ^ p) t) = L1 at *
      have s1 := b2.1
      obtain ⟨h2, d1, d2, d3⟩ : ∃ h2, (if b2i (cls p (t ||| 2 ^ p)) = 0 then Option.bind (G_Wa_drawFrom k 16 (nI (p + 1)) (nI f) (nI (t ||| 2 ^ p)) h1) (fun q => some ((), q.2)) else some ((), h1)) = some ((), h2) ∧ WaS P (c + L1.length + (if cls p (t ||| 2 ^ p) = true then [] else lvd P k (p + 1) f (t ||| 2 ^ p)).length) ((if cls p (t ||| 2 ^ p) = true then [] else lvd P k (p + 1) f (t ||| 2 ^ p)).foldl upl (L1.foldl upl l)) h2 ∧ Fr dWb h1 h2 := by
        cases cls p (t ||| 2 ^ p) with
        | true => exact ⟨h1, if_neg (by decide), b2, Fr.refl h1⟩
        | false =>
          obtain ⟨h2, d1, d2, d3⟩ := drawFrom_e hP k (p + 1) f (t ||| 2 ^ p) (c + L1.length) (L1.foldl upl l) h1 (by omega) c1 hf' t2 b2
          refine ⟨h2, ?_, d2, d3⟩
          rw [if_pos b2i_f, d1]
          rfl
      generalize (if cls p (t ||| 2 ^ p) = true then [] else lvd P k (p + 1) f (t ||| 2 ^ p)) = L2 at *
      refine ⟨h2, ?_, ?_, b3.trans d3⟩
      · have C1 := closes_e s z (show p < 21 by omega) (show f ||| 2 ^ p < 2 ^ 31 by omega)
        have C2 := closes_e s1 b2.2.2.1 (show p < 21 by omega) (show t ||| 2 ^ p < 2 ^ 31 by omega)
        show fb_Wa_drawFrom (G_Wa_drawFrom k) 16 (nI p) (nI f) (nI t) h = _
        unfold fb_Wa_drawFrom
        rw [gd_t (by simp only [shp s]), a1, if_pos (nI_lt c1 (by omega)), gd_t (by simp only [shp s])]
        rw [show hR h 16 0 = 2 by simp only [shp s], ss p (by omega), fa_or, fa_or, C1, bind_s, nI_1]
        simp only [jn]
        have B1 : ∀ K : xH → Option (Unit × xH), (if b2i (cls p (f ||| 2 ^ p)) = 0 then Option.bind (G_Wa_drawFrom k 16 (nI (p + 1)) (nI (f ||| 2 ^ p)) (nI t) h) (fun q23 => K q23.2) else K h) = K h1 := by
          intro K
          by_cases q : b2i (cls p (f ||| 2 ^ p)) = 0
          · rw [if_pos q] at b1 ⊢
            cases e : G_Wa_drawFrom k 16 (nI (p + 1)) (nI (f ||| 2 ^ p)) (nI t) h with
            | none => rw [e] at b1; cases b1
            | some v =>
              rw [e] at b1
              have : v.2 = h1 := by
                have b1' : some ((), v.2) = some ((), h1) := b1
                injection b1' with b1'
                injection b1'
              show K v.2 = K h1
              rw [this]
          · rw [if_neg q] at b1 ⊢
            injection b1 with b1
            injection b1 with _ b1
            rw [b1]
        have B2 : ∀ K : xH → Option (Unit × xH), (if b2i (cls p (t ||| 2 ^ p)) = 0 then Option.bind (G_Wa_drawFrom k 16 (nI (p + 1)) (nI f) (nI (t ||| 2 ^ p)) h1) (fun q23 => K q23.2) else K h1) = K h2 := by
          intro K
          by_cases q : b2i (cls p (t ||| 2 ^ p)) = 0
          · rw [if_pos q] at d1 ⊢
            cases e : G_Wa_drawFrom k 16 (nI (p + 1)) (nI f) (nI (t ||| 2 ^ p)) h1 with
            | none => rw [e] at d1; cases d1
            | some v =>
              rw [e] at d1
              have : v.2 = h2 := by
                have b1' : some ((), v.2) = some ((), h2) := d1
                injection b1' with b1'
                injection b1'
              show K v.2 = K h2
              rw [this]
          · rw [if_neg q] at d1 ⊢
            injection d1 with d1
            injection d1 with _ d1
            rw [d1]
        rw [B1 (fun x13 => gd (hK x13 16 = 9) (gd (hK x13 (hR x13 16 0) = 3) (Option.bind (f_Se_closes (hR x13 16 0) (nI p) (nI (t ||| 2 ^ p)) x13) (fun q16 => if q16.1 = 0 then Option.bind (G_Wa_drawFrom k 16 (nI (p + 1)) (nI f) (nI (t ||| 2 ^ p)) q16.2) (fun q21 => some ((), q21.2)) else some ((), q16.2)))))]
        rw [gd_t (by simp only [shp s1]), gd_t (by simp only [shp s1]), show hR h1 16 0 = 2 by simp only [shp s1], C2, bind_s]
        exact B2 (fun x => some ((), x))
      · rw [LV, List.length_append, List.foldl_append, ← Nat.add_assoc]
        exact d2
    · have LV : lvd P (k + 1) p f t = [f] := by
        conv => lhs; unfold lvd
        exact if_neg c1
      rw [LV]
      have u5 : hI (hIu h 16 3 (nI (c + 1))) 16 5 = l := by rw [iI, if_neg (by omega), a3]
      have nlt : ¬ nI p < nI P := nI_nlt (by omega) (by omega)
      by_cases cl : l < 0 ∨ ¬ l ≤ nI f
      · have ul : upl l f = nI f := by
          unfold upl
          by_cases q : l < 0
          · rw [if_pos q]
          · rw [if_neg q, if_neg (cl.resolve_left q)]
        refine ⟨hIu (hIu h 16 3 (nI (c + 1))) 16 5 (nI f), ?_, ⟨s, hn, J_seat hn (((Fr.refl h).I rfl).I rfl : Fr dWb h _) (fun p k h1 h2 => by simp [dWb]; omega) z, ?_, ?_, ?_⟩, ((Fr.refl h).I rfl).I rfl⟩
        · show fb_Wa_drawFrom (G_Wa_drawFrom k) 16 (nI p) (nI f) (nI t) h = _
          unfold fb_Wa_drawFrom
          rw [gd_t (by simp only [shp s]), a1, if_neg nlt]
          simp only [jn, a2, nI_1, u5]
          by_cases q : l < 0
          · rw [if_pos q]
          · rw [if_neg q, if_neg (cl.resolve_left q)]
        · rw [iI, if_neg (by omega), iI, if_neg (by omega), a1]
        · rw [iI, if_neg (by omega), iI, if_pos ⟨rfl, rfl⟩]
          rfl
        · rw [iI, if_pos ⟨rfl, rfl⟩]
          exact ul.symm
      · have q1 : ¬ l < 0 := fun q => cl (Or.inl q)
        have q2 : l ≤ nI f := Classical.byContradiction (fun q => cl (Or.inr q))
        have ul : upl l f = l := by
          unfold upl
          rw [if_neg q1, if_pos q2]
        refine ⟨hIu h 16 3 (nI (c + 1)), ?_, ⟨s, hn, J_seat hn ((Fr.refl h).I rfl : Fr dWb h _) (fun p k h1 h2 => by simp [dWb]; omega) z, ?_, ?_, ?_⟩, (Fr.refl h).I rfl⟩
        · show fb_Wa_drawFrom (G_Wa_drawFrom k) 16 (nI p) (nI f) (nI t) h = _
          unfold fb_Wa_drawFrom
          rw [gd_t (by simp only [shp s]), a1, if_neg nlt]
          simp only [jn, a2, nI_1, u5]
          rw [if_neg q1, if_pos q2]
        · rw [iI, if_neg (by omega), a1]
        · rw [iI, if_pos ⟨rfl, rfl⟩]
          rfl
        · rw [u5]
          exact ul.symm
/-! the reference's walk over all tables -/
def mono (m o : Nat) : Bool := (o &&& m == m) || (o &&& m == 0)
def okw (n o : Nat) : Bool := (tm n).all (fun t => !mono (pm3 t) o)
theorem okw_ct {n o : Nat} (hn : n ≤ 7) : okw n o = true ↔ ∀ t, t < c3 n → mono (pm3 (tmn n t)) o = false := by
  unfold okw
  rw [List.all_eq_true]
  constructor
  · intro h t ht
    have hl := (tm_len n hn).1
    have hm : tmn n t ∈ tm n := by
      unfold tmn
      rw [List.getD_eq_getElem?_getD, List.getElem?_eq_getElem (by omega)]
      exact List.getElem_mem _
    have := h _ hm
    simpa using this
  · intro h x hx
    obtain ⟨i, hi', e⟩ := List.getElem_of_mem hx
    have hl := (tm_len n hn).1
    have := h i (by omega)
    unfold tmn at this
    rw [List.getD_eq_getElem?_getD, List.getElem?_eq_getElem hi', Option.getD_some, e] at this
    rw [this]
    rfl
def msk (n : Nat) : List Nat := if n = 3 then [7] else if n = 4 then [7, 25, 42, 52] else if n = 5 then [7, 25, 193, 42, 322, 584, 52, 388, 656, 800] else []
theorem msk_e : ∀ n, n < 6 → ((tm n).map pm3).isPerm (msk n) = true := by decide +kernel
def okm (n o : Nat) : Bool := (msk n).all (fun m => !mono m o)
theorem okw_m {n o : Nat} (hn : n < 6) : okw n o = okm n o := by
  unfold okw okm
  have p := List.isPerm_iff.mp (msk_e n hn)
  have e : (tm n).all (fun t => !mono (pm3 t) o) = ((tm n).map pm3).all (fun m => !mono m o) := by
    rw [List.all_map]
    rfl
  rw [e]
  exact List.Perm.all_eq p
theorem wo_e : ∀ n, n < 6 → 1 ≤ n → (lvd (c2 n) 24 0 0 0).length = (List.range (2 ^ c2 n)).countP (okm n) ∧ (lvd (c2 n) 24 0 0 0).foldl upl (-1) = nI (([0, 0, 0, 1, 12, 236] : List Nat).getD n 0) ∧ okm n (([0, 0, 0, 1, 12, 236] : List Nat).getD n 0) = true ∧ (List.range (([0, 0, 0, 1, 12, 236] : List Nat).getD n 0)).all (fun o => !okm n o) = true ∧ ([0, 0, 0, 1, 12, 236] : List Nat).getD n 0 < 2 ^ c2 n := by decide +kernel
section P57
variable {h : xH}
theorem mono_I {m o : Nat} (hm : m < 2 ^ 31) (ho : o < 2 ^ 31) : ((nI o &&& nI m = nI m) ↔ (o &&& m == m) = true) ∧ ((nI o &&& nI m = 0) ↔ (o &&& m == 0) = true) := by
  refine ⟨?_, ?_⟩
  · rw [and_eqI ho hm]
  · rw [fa_and, li_eq0 (Nat.lt_of_le_of_lt Nat.and_le_left ho), beq_iff_eq]
theorem Mo_without_L3 {a0 a2 a3 a4 : Int32} {n i j o : Nat} (hn : n ≤ 7) (hi : i < j) (hj : j < n) (ho : o < 2 ^ 31) (P : ∀ q, q < pos n i j (j + 1) → mono (pm3 (tmn n q)) o = false) (K : Int32 → Int32 → xH → Option (Int32 × xH)) : ∃ x, (f_Mo_without_L82 36 (nI n) a2 a3 a4 (nI o) (nI i) (nI j) fu (1 : Int32) (nI (j + 1)) h K = K 0 x h ∧ okw n o = false) ∨ (f_Mo_without_L82 36 (nI n) a2 a3 a4 (nI o) (nI i) (nI j) fu (1 : Int32) (nI (j + 1)) h K = K 1 x h ∧ ∀ q, q < pos n i (j + 1) (j + 2) → mono (pm3 (tmn n q)) o = false) := by
  refine lpf (fun f k (v : Int32) => f_Mo_without_L82 36 (nI n) a2 a3 a4 (nI o) (nI i) (nI j) f v k h K) (fun q => ∃ x, (q = K 0 x h ∧ okw n o = false) ∨ (q = K 1 x h ∧ ∀ q, q < pos n i (j + 1) (j + 2) → mono (pm3 (tmn n q)) o = false)) (fun k v => j < k ∧ ((v = 0 ∧ okw n o = false) ∨ (v = 1 ∧ ∀ q, q < pos n i j k → mono (pm3 (tmn n q)) o = false))) n (i := j + 1) (s := 1) (by omega) (by omega) ⟨by omega, Or.inr ⟨rfl, P⟩⟩ ?_ ?_
  · rintro f k v hk ⟨hjk, ⟨rfl, bad⟩ | ⟨rfl, P⟩⟩
    · left
      refine ⟨nI k, Or.inl ⟨?_, bad⟩⟩
      show f_Mo_without_L82 36 (nI n) a2 a3 a4 (nI o) (nI i) (nI j) (f + 1) 0 (nI k) h K = _
      rw [f_Mo_without_L82, if_neg (nI_ge hk (by omega)), if_pos rfl]
    · obtain ⟨p1, p2, p3⟩ := pos_1 n (by omega) k hk j hjk i hi
      have MS := msk3 k (by omega) j hjk i hi
      have pl := (wi_st k (by omega) j hjk i hi).2.2.1
      obtain ⟨m1, m2⟩ := mono_I (m := pm3 (i, j, k)) (o := o) (by omega) ho
      have E : f_Mo_without_L82 36 (nI n) a2 a3 a4 (nI o) (nI i) (nI j) (f + 1) 1 (nI k) h K = f_Mo_without_L82 36 (nI n) a2 a3 a4 (nI o) (nI i) (nI j) f (if mono (pm3 (i, j, k)) o = true then 0 else 1) (nI (k + 1)) h K := by
        rw [f_Mo_without_L82, if_neg (nI_ge hk (by omega)), if_neg (show ¬ (1 : Int32) = 0 by decide), Mo_seat_n (by omega) (by omega), bind_s, Mo_seat_n (by omega) (by omega), bind_s, Mo_seat_n (by omega) (by omega), bind_s]
        simp only [jn]
        rw [MS, nI_1]
        unfold mono
        by_cases c1 : (o &&& pm3 (i, j, k) == pm3 (i, j, k)) = true
        · rw [if_pos (m1.mpr c1), c1, Bool.true_or, if_pos rfl]
        · rw [if_neg (fun q => c1 (m1.mp q))]
          rw [Bool.not_eq_true] at c1
          rw [c1, Bool.false_or]
          by_cases c2 : (o &&& pm3 (i, j, k) == 0) = true
          · rw [if_pos (m2.mpr c2), if_pos c2]
          · rw [if_neg (fun q => c2 (m2.mp q)), if_neg c2]
      right
      cases c : mono (pm3 (i, j, k)) o with
      | true =>
        rw [c, if_pos rfl] at E
        refine ⟨0, E, by omega, Or.inl ⟨rfl, ?_⟩⟩
        cases d : okw n o with
        | false => rfl
        | true =>
          have := (okw_ct hn).mp d _ p3
          rw [p1, c] at this
          cases this
      | false =>
        rw [c, if_neg (by decide)] at E
        refine ⟨1, E, by omega, Or.inr ⟨rfl, fun q hq => ?_⟩⟩
        rw [p2] at hq
        rcases (by omega : q < pos n i j k ∨ q = pos n i j k) with u | u
        · exact P q u
        · rw [u, p1, c]
  · rintro f v ⟨hjk, H⟩
    refine ⟨nI n, ?_⟩
    have E : f_Mo_without_L82 36 (nI n) a2 a3 a4 (nI o) (nI i) (nI j) (f + 1) v (nI n) h K = K v (nI n) h := by rw [f_Mo_without_L82, if_pos (nI_le (Nat.le_refl _) (by omega))]
    rw [← pos_2 n (by omega) j hj i hi]
    rcases H with ⟨rfl, bad⟩ | ⟨rfl, P⟩
    · exact Or.inl ⟨E, bad⟩
    · exact Or.inr ⟨E, P⟩
theorem Mo_without_L2 {a0 a2 a3 a4 : Int32} {n i o : Nat} (hn : n ≤ 7) (hi : i < n) (ho : o < 2 ^ 31) (P : ∀ q, q < pos n i (i + 1) (i + 2) → mono (pm3 (tmn n q)) o = false) (K : Int32 → Int32 → xH → Option (Int32 × xH)) : ∃ x, (f_Mo_without_L65 36 (nI n) a2 a3 a4 (nI o) (nI i) fu (1 : Int32) (nI (i + 1)) h K = K 0 x h ∧ okw n o = false) ∨ (f_Mo_without_L65 36 (nI n) a2 a3 a4 (nI o) (nI i) fu (1 : Int32) (nI (i + 1)) h K = K 1 x h ∧ ∀ q, q < pos n (i + 1) (i + 2) (i + 3) → mono (pm3 (tmn n q)) o = false) := by
  refine lpf (fun f k (v : Int32) => f_Mo_without_L65 36 (nI n) a2 a3 a4 (nI o) (nI i) f v k h K) (fun q => ∃ x, (q = K 0 x h ∧ okw n o = false) ∨ (q = K 1 x h ∧ ∀ q, q < pos n (i + 1) (i + 2) (i + 3) → mono (pm3 (tmn n q)) o = false)) (fun k v => i < k ∧ ((v = 0 ∧ okw n o = false) ∨ (v = 1 ∧ ∀ q, q < pos n i k (k + 1) → mono (pm3 (tmn n q)) o = false))) n (i := i + 1) (s := 1) (by omega) (by omega) ⟨by omega, Or.inr ⟨rfl, P⟩⟩ ?_ ?_
  · rintro f k v hk ⟨hjk, ⟨rfl, bad⟩ | ⟨rfl, P⟩⟩
    · left
      refine ⟨nI k, Or.inl ⟨?_, bad⟩⟩
      show f_Mo_without_L65 36 (nI n) a2 a3 a4 (nI o) (nI i) (f + 1) 0 (nI k) h K = _
      rw [f_Mo_without_L65, if_neg (nI_ge hk (by omega)), if_pos rfl]
    · have E : f_Mo_without_L65 36 (nI n) a2 a3 a4 (nI o) (nI i) (f + 1) 1 (nI k) h K = f_Mo_without_L82 36 (nI n) a2 a3 a4 (nI o) (nI i) (nI k) fu 1 (nI (k + 1)) h (fun v30 v31 h32 => f_Mo_without_L65 36 (nI n) a2 a3 a4 (nI o) (nI i) f v30 (nI (k + 1)) h32 K) := by
        rw [f_Mo_without_L65, if_neg (nI_ge hk (by omega)), if_neg (show ¬ (1 : Int32) = 0 by decide), nI_1]
      obtain ⟨x, ⟨q1, q2⟩ | ⟨q1, q2⟩⟩ := Mo_without_L3 (a0 := a0) (a2 := a2) (a3 := a3) (a4 := a4) (h := h) hn hjk hk ho P (fun v30 v31 h32 => f_Mo_without_L65 36 (nI n) a2 a3 a4 (nI o) (nI i) f v30 (nI (k + 1)) h32 K)
      · exact Or.inr ⟨0, E.trans q1, by omega, Or.inl ⟨rfl, q2⟩⟩
      · exact Or.inr ⟨1, E.trans q1, by omega, Or.inr ⟨rfl, q2⟩⟩
  · rintro f v ⟨hjk, H⟩
    refine ⟨nI n, ?_⟩
    have E : f_Mo_without_L65 36 (nI n) a2 a3 a4 (nI o) (nI i) (f + 1) v (nI n) h K = K v (nI n) h := by rw [f_Mo_without_L65, if_pos (nI_le (Nat.le_refl _) (by omega))]
    rw [← pos_3 n (by omega) i hi]
    rcases H with ⟨rfl, bad⟩ | ⟨rfl, P⟩
    · exact Or.inl ⟨E, bad⟩
    · exact Or.inr ⟨E, P⟩
theorem Mo_without_L1 {a2 a3 a4 : Int32} {n o : Nat} (hn : n ≤ 7) (ho : o < 2 ^ 31) (K : Int32 → Int32 → xH → Option (Int32 × xH)) : ∃ x, f_Mo_without_L48 36 (nI n) a2 a3 a4 (nI o) fu (1 : Int32) (0 : Int32) h K = K (b2i (okw n o)) x h := by
  refine lpf (fun f k (v : Int32) => f_Mo_without_L48 36 (nI n) a2 a3 a4 (nI o) f v k h K) (fun q => ∃ x, q = K (b2i (okw n o)) x h) (fun k v => ((v = 0 ∧ okw n o = false) ∨ (v = 1 ∧ ∀ q, q < pos n k (k + 1) (k + 2) → mono (pm3 (tmn n q)) o = false))) n (i := 0) (s := 1) (by omega) (by omega) (Or.inr ⟨rfl, fun q hq => by rw [(pos_4 n (by omega)).1] at hq; omega⟩) ?_ ?_
  · rintro f k v hk (⟨rfl, bad⟩ | ⟨rfl, P⟩)
    · left
      refine ⟨nI k, ?_⟩
      rw [bad]
      show f_Mo_without_L48 36 (nI n) a2 a3 a4 (nI o) (f + 1) 0 (nI k) h K = _
      rw [f_Mo_without_L48, if_neg (nI_ge hk (by omega)), if_pos rfl]
      rfl
    · have E : f_Mo_without_L48 36 (nI n) a2 a3 a4 (nI o) (f + 1) 1 (nI k) h K = f_Mo_without_L65 36 (nI n) a2 a3 a4 (nI o) (nI k) fu 1 (nI (k + 1)) h (fun v33 v34 h35 => f_Mo_without_L48 36 (nI n) a2 a3 a4 (nI o) f v33 (nI (k + 1)) h35 K) := by
        rw [f_Mo_without_L48, if_neg (nI_ge hk (by omega)), if_neg (show ¬ (1 : Int32) = 0 by decide), nI_1]
      obtain ⟨x, ⟨q1, q2⟩ | ⟨q1, q2⟩⟩ := Mo_without_L2 (a0 := a2) (a2 := a2) (a3 := a3) (a4 := a4) (h := h) hn hk ho P (fun v33 v34 h35 => f_Mo_without_L48 36 (nI n) a2 a3 a4 (nI o) f v33 (nI (k + 1)) h35 K)
      · exact Or.inr ⟨0, E.trans q1, Or.inl ⟨rfl, q2⟩⟩
      · exact Or.inr ⟨1, E.trans q1, Or.inr ⟨rfl, q2⟩⟩
  · rintro f v H
    refine ⟨nI n, ?_⟩
    have E : f_Mo_without_L48 36 (nI n) a2 a3 a4 (nI o) (f + 1) v (nI n) h K = K v (nI n) h := by rw [f_Mo_without_L48, if_pos (nI_le (Nat.le_refl _) (by omega))]
    rw [(pos_4 n (by omega)).2] at H
    rcases H with ⟨rfl, bad⟩ | ⟨rfl, P⟩
    · rw [bad]
      exact E
    · rw [(okw_ct hn).mpr P]
      exact E
def FSw (p : Nat → Bool) (n : Nat) (v : Int32) : Prop := ((∀ k, k < n → p k = false) ∧ v = -1) ∨ ∃ m, m < n ∧ p m = true ∧ (∀ k, k < m → p k = false) ∧ v = nI m
theorem Mo_without_L0 {a2 : Int32} {n : Nat} (hn : n ≤ 5) (K : Int32 → Int32 → Int32 → xH → Option (Int32 × xH)) : ∃ v, f_Mo_without_L33 36 (nI n) a2 fu (0 : Int32) (-1 : Int32) (0 : Int32) h K = K (nI (fb_ct (okw n) (2 ^ c2 n))) v (nI (2 ^ c2 n)) h ∧ FSw (okw n) (2 ^ c2 n) v := by
  have c10 : 2 ^ c2 n ≤ 2 ^ 10 := Nat.pow_le_pow_right (by decide) (c2_mono 5 (by decide) n hn)
  have c1 := Nat.two_pow_pos (c2 n)
  refine lpf (fun f k (v : Int32 × Int32) => f_Mo_without_L33 36 (nI n) a2 f v.1 v.2 k h K) (fun q => ∃ v, q = K (nI (fb_ct (okw n) (2 ^ c2 n))) v (nI (2 ^ c2 n)) h ∧ FSw (okw n) (2 ^ c2 n) v) (fun k v => v.1 = nI (fb_ct (okw n) k) ∧ FSw (okw n) k v.2) (2 ^ c2 n) (i := 0) (s := (0, -1)) (by omega) (by omega) ⟨rfl, Or.inl ⟨fun k hk => by omega, rfl⟩⟩ ?_ ?_
  · rintro f k ⟨v1, v2⟩ hk ⟨rfl, FS⟩
    have FS : FSw (okw n) k v2 := FS
    obtain ⟨x, L⟩ := Mo_without_L1 (h := h) (a2 := a2) (a3 := nI (fb_ct (okw n) k)) (a4 := v2) (n := n) (o := k) (by omega) (by omega) (fun v36 v37 h38 => f_Mo_without_L33 36 (nI n) a2 f (if v36 = 0 then nI (fb_ct (okw n) k) else nI (fb_ct (okw n) k) + (1 : Int32)) (if v36 = 0 then v2 else if v2 = (-1 : Int32) then nI k else v2) (nI (k + 1)) h38 K)
    refine Or.inr ⟨(nI (fb_ct (okw n) (k + 1)), if okw n k = true then (if v2 = (-1 : Int32) then nI k else v2) else v2), ?_, rfl, ?_⟩
    · show f_Mo_without_L33 36 (nI n) a2 (f + 1) (nI (fb_ct (okw n) k)) v2 (nI k) h K = _
      rw [f_Mo_without_L33, Mo_allOf_n (by omega), bind_s, if_neg (show ¬ nI (2 ^ c2 n - 1) < nI k from nI_nlt (by omega) (by omega)), nI_1 k]
      refine L.trans ?_
      show f_Mo_without_L33 36 (nI n) a2 f _ _ (nI (k + 1)) h K = f_Mo_without_L33 36 (nI n) a2 f (nI (fb_ct (okw n) k + (if okw n k = true then 1 else 0))) (if okw n k = true then (if v2 = (-1 : Int32) then nI k else v2) else v2) (nI (k + 1)) h K
      cases okw n k
      · rfl
      · rw [if_neg (show ¬ b2i true = 0 by decide), if_neg (show ¬ b2i true = 0 by decide), if_pos rfl, if_pos rfl, nI_1]
    · show FSw (okw n) (k + 1) (if okw n k = true then (if v2 = (-1 : Int32) then nI k else v2) else v2)
      cases e : okw n k with
      | false =>
        rw [if_neg (by decide)]
        rcases FS with ⟨a, b⟩ | ⟨m, a, b, c, d⟩
        · refine Or.inl ⟨fun q hq => ?_, b⟩
          rcases (by omega : q < k ∨ q = k) with u | u
          · exact a q u
          · rw [u, e]
        · exact Or.inr ⟨m, by omega, b, c, d⟩
      | true =>
        rw [if_pos rfl]
        rcases FS with ⟨a, b⟩ | ⟨m, a, b, c, d⟩
        · rw [if_pos b]
          exact Or.inr ⟨k, by omega, e, a, rfl⟩
        · rw [if_neg (fun q => nI_pos (n := m) (by omega) (by rw [← d, q]; decide))]
          exact Or.inr ⟨m, by omega, b, c, d⟩
  · rintro f ⟨v1, v2⟩ ⟨rfl, FS⟩
    refine ⟨v2, ?_, FS⟩
    show f_Mo_without_L33 36 (nI n) a2 (f + 1) _ v2 (nI (2 ^ c2 n)) h K = _
    rw [f_Mo_without_L33, Mo_allOf_n (by omega), bind_s, if_pos (nI_lt (by omega) (by omega))]
end P57
theorem dWb_all {p k : Nat} (h : dAll p k = true) : dWb p k = true := by
  cases e : dWb p k with
  | true => rfl
  | false =>
    have e2 : p = 16 := by
      simp [dWb] at e
      omega
    rw [e2] at h
    cases h
theorem Y_without : Sp_without Inv := by
  intro x w h I
  obtain ⟨g, f, t, n, r, T, j⟩ := I
  have j0 := j
  obtain ⟨sh, hn, z, ⟨⟨g1, g7, hf, ht, hd⟩, e1, e2, e3, m1, m2, m3⟩, jk, jw, jp, js, jst, jx, jr⟩ := j0
  have f24 := lt24 g7 hf
  have t24 := lt24 g7 ht
  have f31 := lt3 f24
  have t31 := lt3 t24
  have s36 : hK h 36 = 11 := by simp only [shp sh]
  have MI : ∀ h, f_Mo_in x.toInt64 (1 : Int64) (5 : Int64) h = some (if x < nI 1 then nI 0 else if nI 5 < x then nI 0 else nI 1, h) := fun h => by rw [q1, q5, Mo_in_c]
  by_cases c : (¬ x < nI 1 ∧ ¬ nI 5 < x) ∧ inr w 1 = true
  · obtain ⟨c, cw⟩ := c
    have c0 : ¬ x < 0 := fun q => c.1 (by rw [fa_lt] at *; rw [nI_toInt (by decide)]; have : (0 : Int32).toInt = 0 := rfl; omega)
    obtain ⟨y, hy, rfl⟩ := nI_of c0
    have y1 : 1 ≤ y := by have := c.1; rw [nI_ltI hy (by decide)] at this; omega
    have y5 : y ≤ 5 := by have := c.2; rw [nI_ltI (by decide) hy] at this; omega
    obtain ⟨w1, w2, w3, w4, w5⟩ := wo_e y (by omega) y1
    have P10 : c2 y ≤ 10 := c2_mono 5 (by decide) y y5
    have W0 : WaS (c2 y) 0 (-1) (hIu (hIu (hIu h 16 2 (nI (c2 y))) 16 3 (0 : Int32)) 16 5 (-1)) := ⟨sh, hn, J_seat hn ((((Fr.refl h).I rfl).I rfl).I rfl : Fr (fun p _ => !decide (p = 16)) h _) (fun p k h1 h2 => by simp; omega) z, by rw [iI, if_neg (by omega), iI, if_neg (by omega), iI, if_pos ⟨rfl, rfl⟩], by rw [iI, if_neg (by omega), iI, if_pos ⟨rfl, rfl⟩]; rfl, by rw [iI, if_pos ⟨rfl, rfl⟩]⟩
    obtain ⟨h1, a1, ⟨a2, a3, a4, a5, a6, a7⟩, a8⟩ := drawFrom_e P10 24 0 0 0 0 (-1) _ (by omega) (by omega) (by decide) (by decide) W0
    have F1 : Fr dAll h h1 := ((((Fr.refl h).I rfl).I rfl).I rfl).trans (a8.mono (fun p k => dWb_all))
    have j1 := J_all a2 F1 j
    obtain ⟨v, b1, b2⟩ := Mo_without_L0 (h := h1) (a2 := w) y5 (fun v42 v43 v44 h45 => some ((if w = 0 then v42 else v43), h45))
    have okk : ∀ o, okw y o = okm y o := fun o => okw_m (by omega)
    have e1' : fb_ct (okw y) (2 ^ c2 y) = (lvd (c2 y) 24 0 0 0).length := by
      rw [w1, fb_ct_cong (fun k _ => okk k), ct_range]
    have e2' : v = nI (([0, 0, 0, 1, 12, 236] : List Nat).getD y 0) := by
      rcases b2 with ⟨q1, q2⟩ | ⟨m, q1, q2, q3, q4⟩
      · have := q1 _ w5
        rw [okk, w3] at this
        cases this
      · have w4' := List.all_eq_true.mp w4
        rcases Nat.lt_trichotomy m (([0, 0, 0, 1, 12, 236] : List Nat).getD y 0) with u | u | u
        · have := w4' m (List.mem_range.mpr u)
          rw [← okk, q2] at this
          cases this
        · rw [q4, u]
        · have := q3 _ u
          rw [okk, w3] at this
          cases this
    rw [e1', e2'] at b1
    rw [w2] at a7
    have A : f_Ma_without 1 (nI y) w h = some (if w = 0 then nI (lvd (c2 y) 24 0 0 0).length else nI (([0, 0, 0, 1, 12, 236] : List Nat).getD y 0), h1) := by
      have z1 : ¬ nI y < (1 : Int32) := nI_nlt y1 (by omega)
      have z2 : ¬ (5 : Int32) < nI y := nI_nlt y5 (by decide)
      have da : f_Wa_drawAll 16 (nI y) h = some ((), h1) := by
        unfold f_Wa_drawAll
        rw [Se_pairsAmong_n (by omega), bind_s, gd_t (by simp only [shp sh])]
        show Option.bind (G_Wa_drawFrom 24 16 (nI 0) (nI 0) (nI 0) (hIu (hIu (hIu h 16 2 (nI (c2 y))) 16 3 (0 : Int32)) 16 5 (-1))) _ = _
        rw [a1]
        rfl
      simp only [f_Ma_without, jn, if_neg z1, if_neg z2, Ma_isWithin_1, cw, bind_s, b2i_t, i10, if_false, gd, shp sh, if_true, da, shp a2, a6, a7, Nat.zero_add]
      split
      · rfl
      · rfl
    refine ⟨_, h1, h1, A, by simp only [shp a2], ?_, ⟨g, f, t, n, r, T, j1⟩⟩
    show f_Mo_without 36 (nI y) w h1 = _
    have n1 : ¬ nI 1 = 0 := by decide
    simp only [f_Mo_without, jn, MI, if_neg c.1, if_neg c.2, bind_s, if_neg n1, Mo_in_1, cw, b2i_t, i10, if_false]
    exact b1
  · refine ⟨-2, h, h, ?_, s36, ?_, ⟨g, f, t, n, r, T, j⟩⟩
    · simp only [f_Ma_without, jn]
      by_cases c1 : x < (1 : Int32)
      · rw [if_pos c1]
      · rw [if_neg c1]
        by_cases c2' : (5 : Int32) < x
        · rw [if_pos c2']
        · rw [if_neg c2', Ma_isWithin_1, bind_s]
          cases cw : inr w 1 with
          | false => rw [if_pos b2i_f]
          | true => exact absurd ⟨⟨c1, c2'⟩, cw⟩ c
    · simp only [f_Mo_without, jn, MI, bind_s]
      by_cases c1 : x < nI 1
      · rw [if_pos c1, if_pos nI_0]
      · rw [if_neg c1]
        by_cases c2' : nI 5 < x
        · rw [if_pos c2', if_pos nI_0]
        · rw [if_neg c2', if_neg (show ¬ nI 1 = 0 by decide), Mo_in_1, bind_s]
          cases cw : inr w 1 with
          | false => rw [if_pos b2i_f]
          | true => exact absurd ⟨⟨c1, c2'⟩, cw⟩ c

/-! half known tables -/
def us (x p k : Nat) : List Nat := (List.range' p k).filter (fun q => !x.testBit q)
theorem us_s (x p k : Nat) : us x p (k + 1) = if x.testBit p = true then us x (p + 1) k else p :: us x (p + 1) k := by
  unfold us
  rw [List.range'_succ]
  cases e : x.testBit p <;> simp [e]
theorem us_skip {x p m k : Nat} (h : ∀ q, p ≤ q → q < p + m → x.testBit q = true) : us x p (m + k) = us x (p + m) k := by
  induction m generalizing p with
  | zero => rw [Nat.zero_add, Nat.add_zero]
  | succ m ih =>
    rw [show m + 1 + k = (m + k) + 1 by omega, us_s, if_pos (h p (by omega) (by omega)), ih (fun q h1 h2 => h q (by omega) (by omega))]
    rw [show p + 1 + m = p + (m + 1) by omega]
theorem us_congr {x y p k : Nat} (h : ∀ q, p ≤ q → x.testBit q = y.testBit q) : us x p k = us y p k := by
  unfold us
  apply List.filter_congr
  intro q hq
  rw [h q (by rw [List.mem_range'_1] at hq; exact hq.1)]
def vO (c d : Nat → Int32) (g o : Nat) : Nat := hmt c d g o (an (2 ^ c2 g - 1) o)
def dWm (p k : Nat) : Bool := !(decide (p = 16) && (decide (k = 3) || decide (k = 4)))
def WaF (g : Nat) (c d : Nat → Int32) (s : Nat × Nat) (h : xH) : Prop := Shp h ∧ 51 ≤ hN h ∧ Jseat h ∧ hI h 16 2 = nI (c2 g) ∧ hI h 11 3 = nI (c3 g) ∧ hI h 12 = c ∧ hI h 13 = d ∧ hI h 16 3 = nI s.1 ∧ hI h 16 4 = nI s.2
theorem WaF_m {g : Nat} {c d : Nat → Int32} {s s' : Nat × Nat} {h : xH} (w : WaF g c d s h) : WaF g c d s' (hIu (hIu h 16 3 (nI s'.1)) 16 4 (nI s'.2)) := by
  obtain ⟨a1, a2, a3, a4, a5, a6, a7, a8, a9⟩ := w
  refine ⟨a1, a2, J_seat a2 (((Fr.refl h).I rfl).I rfl : Fr dWm h _) (fun p k h1 h2 => by simp [dWm]; omega) a3, ?_, ?_, ?_, ?_, ?_, ?_⟩
  · rw [iI, if_neg (by omega), iI, if_neg (by omega), a4]
  · rw [iI, if_neg (by omega), iI, if_neg (by omega), a5]
  · funext k
    rw [iI, if_neg (by omega), iI, if_neg (by omega), a6]
  · funext k
    rw [iI, if_neg (by omega), iI, if_neg (by omega), a7]
  · rw [iI, if_neg (by omega), iI, if_pos ⟨rfl, rfl⟩]
  · rw [iI, if_pos ⟨rfl, rfl⟩]
theorem fill_skip {R0 : Nat → Int32 → Int32 → Int32 → Int32 → xH → Option (Unit × xH)} {P f t : Nat} {a1 a4 : Int32} {h : xH} (s : Shp h) (e : hI h 16 2 = nI P) (hP : P < 31) (hf : f < 2 ^ 31) (ht : t < 2 ^ 31) (K : Int32 → xH → Option (Unit × xH)) : ∀ (m p fl : Nat), p + m = P → m < fl → ∃ q, p ≤ q ∧ q ≤ P ∧ (∀ i, p ≤ i → i < q → (f ||| t).testBit i = true) ∧ (q = P ∨ (f ||| t).testBit q = false) ∧ f_Wa_fillFrom_L3 R0 16 a1 (nI f) (nI t) a4 fl (nI p) h K = K (nI q) h := by
  intro m
  induction m with
  | zero =>
    intro p fl hp hf'
    obtain ⟨fl, rfl⟩ : ∃ q, fl = q + 1 := ⟨fl - 1, by omega⟩
    refine ⟨p, Nat.le_refl _, by omega, fun i h1 h2 => by omega, Or.inl (by omega), ?_⟩
    rw [f_Wa_fillFrom_L3, gd_t (by simp only [shp s]), e, if_pos (nI_le (by omega) (by omega))]
  | succ m ih =>
    intro p fl hp hf'
    obtain ⟨fl, rfl⟩ : ∃ q, fl = q + 1 := ⟨fl - 1, by omega⟩
    have tbb := tb (Nat.or_lt_two_pow hf ht) (show p < 31 by omega)
    by_cases c : (f ||| t).testBit p = true
    · obtain ⟨q, q1, q2, q3, q4, q5⟩ := ih (p + 1) fl (by omega) (by omega)
      refine ⟨q, by omega, q2, fun i h1 h2 => ?_, q4, ?_⟩
      · rcases (by omega : i = p ∨ p + 1 ≤ i) with rfl | u
        · exact c
        · exact q3 i u h2
      · rw [f_Wa_fillFrom_L3, gd_t (by simp only [shp s]), e, if_neg (nI_ge (by omega) (by omega)), fa_or, tbb, c, if_pos (show b2i true = (1 : Int32) from rfl), nI_1]
        rw [← q5]
    · rw [Bool.not_eq_true] at c
      refine ⟨p, Nat.le_refl _, by omega, fun i h1 h2 => by omega, Or.inr c, ?_⟩
      rw [f_Wa_fillFrom_L3, gd_t (by simp only [shp s]), e, if_neg (nI_ge (by omega) (by omega)), fa_or, tbb, c, if_neg (by decide)]
theorem full_t {P f t : Nat} (hf : f < 2 ^ P) (ht : t < 2 ^ P) (d : f &&& t = 0) (h : ∀ i, i < P → (f ||| t).testBit i = true) : t = an (2 ^ P - 1) f := by
  apply Nat.eq_of_testBit_eq
  intro i
  rw [an_bit, Nat.testBit_two_pow_sub_one]
  by_cases hi' : i < P
  · have h1 := h i hi'
    have h2 := and_nil.mp d i
    rw [Nat.testBit_or] at h1
    rw [decide_eq_true hi', Bool.true_and]
    revert h1 h2
    cases f.testBit i <;> cases t.testBit i <;> simp
  · rw [decide_eq_false hi', Bool.false_and]
    cases e : t.testBit i with
    | false => rfl
    | true => exact absurd (lt_bit ht e) hi'
theorem fillFrom_e {g : Nat} {c d : Nat → Int32} (g7 : g ≤ 7) : ∀ (k p f t : Nat) (s : Nat × Nat) (h : xH), c2 g + 1 ≤ p + k → p ≤ c2 g → f < 2 ^ c2 g → t < 2 ^ c2 g → f &&& t = 0 → (∀ i, i < p → (f ||| t).testBit i = true) → s.1 + 2 ^ (us (f ||| t) p (c2 g - p)).length < 2 ^ 31 → s.2 < 2 ^ 31 → WaF g c d s h → ∃ h', G_Wa_fillFrom k 16 (nI p) (nI f) (nI t) (nI (hmt c d g f t)) h = some ((), h') ∧ WaF g c d (Fw (vO c d g) (us (f ||| t) p (c2 g - p)) f s) h' ∧ Fr dWm h h'
  | 0, p, f, t, s, h, hk, hp, _, _, _, _, _, _, _ => absurd hk (by omega)
  | k + 1, p, f, t, s, h, hk, hp, hf, ht, dj, hlow, b1, b2, W => by
    have hc := c2_le g g7
    have f31 := lt3 (lt24 g7 hf)
    have t31 := lt3 (lt24 g7 ht)
    have hm35 : ∀ x y, hmt c d g x y ≤ 35 := fun x y => Nat.le_trans (hmt_le _ _ _ _ _) (c3_le g g7)
    have W0 := W
    obtain ⟨a1, a2, a3, a4, a5, a6, a7, a8, a9⟩ := W0
    obtain ⟨q, q1, q2, q3, q4, q5⟩ := fill_skip (R0 := G_Wa_fillFrom k) (a1 := nI p) (a4 := nI (hmt c d g f t)) a1 a4 (by omega) f31 t31 (fun v12 h13 => gd (hK h13 16 = 9) (if v12 < (hI h13 16 2) then gd (hK h13 (hR h13 16 1) = 5) (Option.bind (f_St_howManyWith (hR h13 16 1) v12 (nI f ||| (jShl (1 : Int32) v12)) (nI t) h13) (fun q16 => Option.bind (G_Wa_fillFrom k 16 (v12 + (1 : Int32)) (nI f ||| (jShl (1 : Int32) v12)) (nI t) (nI (hmt c d g f t) + q16.1) q16.2) (fun q18 => gd (hK q18.2 16 = 9) (gd (hK q18.2 (hR q18.2 16 1) = 5) (Option.bind (f_St_howManyWith (hR q18.2 16 1) v12 (nI f) (nI t ||| (jShl (1 : Int32) v12)) q18.2) (fun q20 => Option.bind (G_Wa_fillFrom k 16 (v12 + (1 : Int32)) (nI f) (nI t ||| (jShl (1 : Int32) v12)) (nI (hmt c d g f t) + q20.1) q20.2) (fun q22 => some ((), q22.2)))))))) else jn (fun (x23 : xH) => gd (hK x23 16 = 9) (some ((), hIu x23 16 4 (jMax (hI x23 16 4) (nI (hmt c d g f t)))))) (fun k24 => if nI (hmt c d g f t) = 0 then k24 (hIu h13 16 3 ((hI h13 16 3) + (1 : Int32))) else k24 h13))) (c2 g - p) p fu (by omega) (by show _ < 2000; omega)
    have E0 : G_Wa_fillFrom (k + 1) 16 (nI p) (nI f) (nI t) (nI (hmt c d g f t)) h = _ := q5
    have eu : us (f ||| t) p (c2 g - p) = us (f ||| t) q (c2 g - q) := by
      have := us_skip (x := f ||| t) (p := p) (m := q - p) (k := c2 g - q) (fun i h1 h2 => q3 i h1 (by omega))
      rw [show q - p + (c2 g - q) = c2 g - p by omega, show p + (q - p) = q by omega] at this
      exact this
    rw [eu] at b1 ⊢
    by_cases cq : q = c2 g
    · -- all are looked at
      have full : ∀ i, i < c2 g → (f ||| t).testBit i = true := fun i hi' => by
        rcases (by omega : i < p ∨ p ≤ i) with u | u
        · exact hlow i u
        · exact q3 i u (by omega)
      have et := full_t hf ht dj full
      have ev : vO c d g f = hmt c d g f t := by
        unfold vO
        rw [← et]
      have eus : us (f ||| t) q (c2 g - q) = [] := by
        rw [cq, Nat.sub_self]
        rfl
      rw [eus] at b1 ⊢
      have s' : Fw (vO c d g) [] f s = (s.1 + (if hmt c d g f t = 0 then 1 else 0), max s.2 (hmt c d g f t)) := by
        show upd2 (vO c d g) s f = _
        unfold upd2
        rw [ev]
      rw [s']
      refine ⟨_, ?_, WaF_m W, ((Fr.refl h).I rfl).I rfl⟩
      rw [E0, gd_t (by simp only [shp a1]), a4, if_neg (show ¬ nI q < nI (c2 g) from nI_nlt (by omega) (by omega))]
      simp only [jn]
      have mx : ∀ x y : Nat, x < 2 ^ 31 → y < 2 ^ 31 → jMax (nI x) (nI y) = nI (max x y) := by
        intro x y hx hy
        unfold jMax
        by_cases u : x < y
        · rw [if_pos (nI_lt u hy), Nat.max_eq_right (by omega)]
        · rw [if_neg (nI_nlt (by omega) hx), Nat.max_eq_left (by omega)]
      have h35 := hm35 f t
      by_cases z0 : hmt c d g f t = 0
      · rw [if_pos (show nI (hmt c d g f t) = 0 by rw [z0]; rfl), if_pos z0, gd_t (by simp only [kI, shp a1]), a8, nI_1]
        rw [show hI (hIu h 16 3 (nI (s.1 + 1))) 16 4 = nI s.2 by rw [iI, if_neg (by omega), a9], mx _ _ b2 (by omega)]
      · rw [if_neg (nI_ne0 (by omega) (by omega)), if_neg z0, gd_t (by simp only [shp a1]), a9, mx _ _ b2 (by omega)]
        have same : hIu h 16 3 (nI (s.1 + 0)) = h := by
          have e3 : hI h 16 3 = nI (s.1 + 0) := a8
          unfold hIu
          have : (fun q j => if q = 16 ∧ j = 3 then nI (s.1 + 0) else h.2.2.2.1 q j) = h.2.2.2.1 := by
            funext q j
            by_cases u : q = 16 ∧ j = 3
            · rw [if_pos u, u.1, u.2]
              exact e3.symm
            · rw [if_neg u]
          rw [this]
        rw [same]
    · -- one that isn't
      have hq : q < c2 g := by omega
      have nx : (f ||| t).testBit q = false := q4.resolve_left cq
      have nft : f.testBit q = false ∧ t.testBit q = false := by
        rw [Nat.testBit_or, Bool.or_eq_false_iff] at nx
        exact nx
      obtain ⟨w1, w2⟩ := hw_add (c := c) (d := d) g7 hq hf ht nft.1 nft.2
      have f2 := or2_lt hf hq
      have t2 := or2_lt ht hq
      have bits : ∀ i, ((f ||| 2 ^ q) ||| t).testBit i = ((f ||| t).testBit i || decide (q = i)) ∧ (f ||| (t ||| 2 ^ q)).testBit i = ((f ||| t).testBit i || decide (q = i)) := by
        intro i
        simp only [Nat.testBit_or, Nat.testBit_two_pow]
        cases f.testBit i <;> cases t.testBit i <;> cases decide (q = i) <;> exact ⟨rfl, rfl⟩
      have U1 : us ((f ||| 2 ^ q) ||| t) (q + 1) (c2 g - (q + 1)) = us (f ||| t) (q + 1) (c2 g - (q + 1)) := us_congr (fun i hi' => by rw [(bits i).1, decide_eq_false (by omega), Bool.or_false])
      have U2 : us (f ||| (t ||| 2 ^ q)) (q + 1) (c2 g - (q + 1)) = us (f ||| t) (q + 1) (c2 g - (q + 1)) := us_congr (fun i hi' => by rw [(bits i).2, decide_eq_false (by omega), Bool.or_false])
      have EU : us (f ||| t) q (c2 g - q) = q :: us (f ||| t) (q + 1) (c2 g - (q + 1)) := by
        rw [show c2 g - q = (c2 g - (q + 1)) + 1 by omega, us_s, nx, if_neg (by decide)]
      have low2 : ∀ i, i < q + 1 → ((f ||| t).testBit i || decide (q = i)) = true := by
        intro i hi'
        by_cases u : q = i
        · rw [decide_eq_true u, Bool.or_true]
        · rcases (by omega : i < p ∨ p ≤ i) with z | z
          · rw [hlow i z, Bool.true_or]
          · rw [q3 i z (by omega), Bool.true_or]
      rw [EU, List.length_cons, Nat.pow_succ] at b1
      have d1 : (f ||| 2 ^ q) &&& t = 0 := and_nil.mpr (fun i ⟨x, y⟩ => by
        rw [Nat.testBit_or, Nat.testBit_two_pow] at x
        by_cases u : q = i
        · subst u
          rw [nft.2] at y
          cases y
        · rw [decide_eq_false u, Bool.or_false] at x
          exact and_nil.mp dj i ⟨x, y⟩)
      have d2 : f &&& (t ||| 2 ^ q) = 0 := and_nil.mpr (fun i ⟨x, y⟩ => by
        rw [Nat.testBit_or, Nat.testBit_two_pow] at y
        by_cases u : q = i
        · subst u
          rw [nft.1] at x
          cases x
        · rw [decide_eq_false u, Bool.or_false] at y
          exact and_nil.mp dj i ⟨x, y⟩)
      obtain ⟨h1, c1, c2', c3'⟩ := fillFrom_e (c := c) (d := d) g7 k (q + 1) (f ||| 2 ^ q) t s h (by omega) (by omega) f2 ht d1 (fun i hi' => by rw [(bits i).1]; exact low2 i hi') (by rw [U1]; omega) b2 W
      rw [U1] at c2'
      have bnd := Fw_le (vO c d g) (c := 35) (fun x => hm35 _ _) (us (f ||| t) (q + 1) (c2 g - (q + 1))) (f ||| 2 ^ q) s
      have b2' : (Fw (vO c d g) (us (f ||| t) (q + 1) (c2 g - (q + 1))) (f ||| 2 ^ q) s).2 < 2 ^ 31 := by
        have : ∀ ps x s, s.2 < 2 ^ 31 → (Fw (vO c d g) ps x s).2 < 2 ^ 31 := by
          intro ps
          induction ps with
          | nil =>
            intro x s hs
            show max s.2 (vO c d g x) < 2 ^ 31
            have := hm35 x (an (2 ^ c2 g - 1) x)
            unfold vO
            omega
          | cons a ps ih => intro x s hs; exact ih _ _ (ih _ _ hs)
        exact this _ _ _ b2
      obtain ⟨h2, e1, e2, e3⟩ := fillFrom_e (c := c) (d := d) g7 k (q + 1) f (t ||| 2 ^ q) _ h1 (by omega) (by omega) hf t2 d2 (fun i hi' => by rw [(bits i).2]; exact low2 i hi') (by rw [U2]; omega) b2' c2'
      rw [U2] at e2
      refine ⟨h2, ?_, ?_, c3'.trans e3⟩
      · have s1 := c2'.1
        have HW1 := howManyWith_e a1 a3 (p := q) (by omega) (lt3 (lt24 g7 f2)) t31
        have HW2 := howManyWith_e s1 c2'.2.2.1 (p := q) (by omega) f31 (lt3 (lt24 g7 t2))
        rw [a6, a7] at HW1
        rw [c2'.2.2.2.2.2.1, c2'.2.2.2.2.2.2.1] at HW2
        rw [E0, gd_t (by simp only [shp a1]), a4, if_pos (nI_lt hq (by omega)), gd_t (by simp only [shp a1]), show hR h 16 1 = 11 by simp only [shp a1], ss q (by omega), fa_or, fa_or, HW1, bind_s, nI_add, ← w1, nI_1, c1, bind_s, gd_t (by simp only [shp s1]), gd_t (by simp only [shp s1]), show hR h1 16 1 = 11 by simp only [shp s1], HW2, bind_s, nI_add, ← w2, e1, bind_s]
      · rw [EU]
        exact e2

/-! tables drawn, introductions judged -/
theorem asN (x : Int32) : ∃ k, k < 2 ^ 32 ∧ x = nI k := by
  refine ⟨x.toBitVec.toNat, x.toBitVec.isLt, ?_⟩
  apply Int32.toBitVec_inj.mp
  show x.toBitVec = BitVec.ofNat 32 x.toBitVec.toNat
  rw [BitVec.ofNat_toNat, BitVec.setWidth_eq]
def dz (x : Int32) : Int32 := jRem (jUshr x (13 : Int32)) (2 : Int32)
def db (x : Int32) : Bool := dz x == 1
theorem dz_b (x : Int32) : dz x = b2i (db x) := by
  obtain ⟨k, hk, rfl⟩ := asN x
  have e : dz (nI k) = nI (k >>> 13 % 2) := by
    unfold dz
    rw [show (13 : Int32) = nI 13 from rfl, su hk (by decide), show (2 : Int32) = nI 2 from rfl]
    have : k >>> 13 < 2 ^ 31 := by
      rw [Nat.shiftRight_eq_div_pow]
      omega
    exact pk_rem this (by decide) (by decide)
  unfold db
  rw [e]
  rcases Nat.mod_two_eq_zero_or_one (k >>> 13) with h | h <;> rw [h] <;> rfl
def zs (seed : Int32) : Nat → Int32
  | 0 => seed
  | p + 1 => zs seed p * (1103515245 : Int32) + (12345 : Int32)
theorem fbits_s (w : Nat → Bool) (p : Nat) : fbits w (p + 1) = if w p = true then fbits w p ||| 2 ^ p else fbits w p := rfl
theorem Y_drawn : Sp_drawn Inv := by
  intro x h I
  obtain ⟨g, f, t, n, r, T, j⟩ := I
  have j0 := j
  obtain ⟨sh, hn, z, ⟨⟨g1, g7, hf, ht, hd⟩, e1, e2, e3, m1, m2, m3⟩, jk, jw, jp, js, jst, jx, jr⟩ := j0
  have f24 := lt24 g7 hf
  have t24 := lt24 g7 ht
  have f31 := lt3 f24
  have t31 := lt3 t24
  have s36 : hK h 36 = 11 := by simp only [shp sh]
  have hc := c2_le g g7
  have FL := fbits_lt (fun p => db (zs x (p + 1))) (c2 g)
  have F24 := lt24 g7 FL
  obtain ⟨A1, A2, A3⟩ := all_an FL
  obtain ⟨h2, b1, s2, x2, jg⟩ := Mo_gathers_e (J_M j) jst
  have j2 := J_ga j s2 x2
  have AT := Mo_allThrees_e s2 g7 jg (lt3 F24) (lt3 (lt24 g7 A3)) A2
  rw [A1, show hI h2 12 = hI h 12 from funext fun k => x2.v hn k (by decide) rfl, show hI h2 13 = hI h 13 from funext fun k => x2.v hn k (by decide) rfl] at AT
  have HM := hm_e sh z g7 jst.1 (lt3 F24) (lt3 (lt24 g7 A3))
  refine ⟨nI (hmt (hI h 12) (hI h 13) g (fbits (fun p => db (zs x (p + 1))) (c2 g)) (an (2 ^ c2 g - 1) (fbits (fun p => db (zs x (p + 1))) (c2 g)))), h, h2, ?_, s36, ?_, ⟨g, f, t, n, r, T, j2⟩⟩
  · unfold f_Ma_drawn
    refine lpf (fun n p (v : Int32 × Int32) => f_Ma_drawn_L7 1 x n v.1 v.2 p h _) (fun o => o = _) (fun p v => v.1 = nI (fbits (fun p => db (zs x (p + 1))) p) ∧ v.2 = zs x p) (c2 g) (i := 0) (s := (0, x)) (Nat.zero_le _) (by omega) ⟨rfl, rfl⟩ ?_ ?_
    · rintro n p ⟨v1, v2⟩ hp ⟨rfl, rfl⟩
      refine Or.inr ⟨(nI (fbits (fun p => db (zs x (p + 1))) (p + 1)), zs x (p + 1)), ?_, rfl, rfl⟩
      show f_Ma_drawn_L7 1 x (n + 1) (nI (fbits (fun p => db (zs x (p + 1))) p)) (zs x p) (nI p) h _ = f_Ma_drawn_L7 1 x n (nI (fbits (fun p => db (zs x (p + 1))) (p + 1))) (zs x (p + 1)) (nI (p + 1)) h _
      rw [f_Ma_drawn_L7]
      simp only [gd, shp sh, if_true, e1, Se_pairsAmong_n g7, bind_s]
      rw [if_neg (nI_ge hp (by omega)), fbits_s]
      rw [show jRem (jUshr (zs x p * (1103515245 : Int32) + (12345 : Int32)) (13 : Int32)) (2 : Int32) = b2i (db (zs x (p + 1))) from dz_b _, show zs x p * (1103515245 : Int32) + (12345 : Int32) = zs x (p + 1) from rfl, nI_1]
      cases db (zs x (p + 1))
      · rfl
      · rw [if_pos (show b2i true = (1 : Int32) from rfl), if_pos rfl, ss p (by omega), fa_or]
    · rintro n ⟨v1, v2⟩ ⟨rfl, rfl⟩
      show f_Ma_drawn_L7 1 x (n + 1) (nI (fbits (fun p => db (zs x (p + 1))) (c2 g))) (zs x (c2 g)) (nI (c2 g)) h _ = _
      rw [f_Ma_drawn_L7]
      simp only [gd, shp sh, if_true, e1, Se_pairsAmong_n g7, bind_s]
      rw [if_pos (nI_le (Nat.le_refl _) (by omega))]
      simp only [Ta_everyPair_n sh z g7 e1, bind_s, shp sh, if_true, an_I, HM]
  · show f_Mo_drawn 36 x h = _
    simp only [f_Mo_drawn, gd, shp sh, if_true, b1, bind_s]
    have m1' := (x2.v hn 7 (by decide) rfl).trans m1
    refine lpf (fun n p (v : Int32 × Int32) => f_Mo_drawn_L11 36 x n v.1 v.2 p h2 _) (fun o => o = _) (fun p v => v.2 = nI (fbits (fun p => db (zs x (p + 1))) p) ∧ v.1 = zs x p) (c2 g) (i := 0) (s := (x, 0)) (Nat.zero_le _) (by omega) ⟨rfl, rfl⟩ ?_ ?_
    · rintro n p ⟨v1, v2⟩ hp ⟨rfl, rfl⟩
      refine Or.inr ⟨(zs x (p + 1), nI (fbits (fun p => db (zs x (p + 1))) (p + 1))), ?_, rfl, rfl⟩
      show f_Mo_drawn_L11 36 x (n + 1) (zs x p) (nI (fbits (fun p => db (zs x (p + 1))) p)) (nI p) h2 _ = f_Mo_drawn_L11 36 x n (zs x (p + 1)) (nI (fbits (fun p => db (zs x (p + 1))) (p + 1))) (nI (p + 1)) h2 _
      rw [f_Mo_drawn_L11]
      simp only [gd, shp s2, if_true, m1', c2_n g g7]
      rw [if_neg (nI_ge hp (by omega)), fbits_s]
      rw [show jRem (jUshr (zs x p * (1103515245 : Int32) + (12345 : Int32)) (13 : Int32)) (2 : Int32) = b2i (db (zs x (p + 1))) from dz_b _, show zs x p * (1103515245 : Int32) + (12345 : Int32) = zs x (p + 1) from rfl, shl_b (by omega), fa_or, or_if, nI_1]
    · rintro n ⟨v1, v2⟩ ⟨rfl, rfl⟩
      show f_Mo_drawn_L11 36 x (n + 1) (zs x (c2 g)) (nI (fbits (fun p => db (zs x (p + 1))) (c2 g))) (nI (c2 g)) h2 _ = _
      rw [f_Mo_drawn_L11]
      simp only [gd, shp s2, if_true, m1', c2_n g g7]
      rw [if_pos (nI_le (Nat.le_refl _) (by omega)), Mo_allOf_n g7]
      simp only [bind_s, shp s2, if_true, AT]
/-- an item as a pair -/
def vp (g : Nat) (v : Int32) : Bool := decide (¬ v < 0) && ipr g (v / (10 : Int32)) (jRem v (10 : Int32))
def vn (v : Int32) : Nat := prs (v / (10 : Int32)).toNatClampNeg (jRem v (10 : Int32)).toNatClampNeg
theorem vn_lt {g : Nat} {v : Int32} (g1 : 1 ≤ g) (g7 : g ≤ 7) (h : vp g v = true) : vn v < c2 g := by
  unfold vp at h
  rw [Bool.and_eq_true] at h
  obtain ⟨a, b, ha, hb, hab, e1, e2⟩ := ipr_ex g1 g7 h.2
  unfold vn
  rw [e1, e2, nI_clamp (by omega), nI_clamp (by omega)]
  exact prs_lt g g7 a ha b hb hab
/-- the judge: the first that is none such, the first three -/
def jdg (g : Nat) (it : Nat → Int32) (hs : Nat → Bool) : Nat → Nat → Nat → Int32 → Int32 × Int32
  | 0, _, _, fi => (-1, fi)
  | m + 1, k, o, fi => if vp g (it k) = true ∧ o.testBit (vn (it k)) = false then jdg g it hs m (k + 1) (o ||| 2 ^ vn (it k)) (if fi = -1 ∧ hs (o ||| 2 ^ vn (it k)) = true then nI k else fi) else (nI k, fi)
def res (a2 : Int32) (v : Int32 × Int32) : Int32 := if a2 = 0 then v.1 else v.2
theorem jdg_y {g : Nat} {it : Nat → Int32} {hs : Nat → Bool} {m k o : Nat} {fi : Int32} (cv : vp g (it k) = true) (cb : o.testBit (vn (it k)) = false) : jdg g it hs (m + 1) k o fi = jdg g it hs m (k + 1) (o ||| 2 ^ vn (it k)) (if fi = -1 ∧ hs (o ||| 2 ^ vn (it k)) = true then nI k else fi) := by
  conv => lhs; unfold jdg
  exact if_pos ⟨cv, cb⟩
theorem jdg_n {g : Nat} {it : Nat → Int32} {hs : Nat → Bool} {m k o : Nat} {fi : Int32} (c : ¬ (vp g (it k) = true ∧ o.testBit (vn (it k)) = false)) : jdg g it hs (m + 1) k o fi = (nI k, fi) := by
  conv => lhs; unfold jdg
  exact if_neg c
theorem jdg_congr {g : Nat} {it it2 : Nat → Int32} {hs : Nat → Bool} {sz : Nat} (h : ∀ i, i < sz → it i = it2 i) : ∀ m k o fi, k + m ≤ sz → jdg g it hs m k o fi = jdg g it2 hs m k o fi
  | 0, _, _, _, _ => rfl
  | m + 1, k, o, fi, hk => by
    unfold jdg
    rw [h k (by omega)]
    split
    · exact jdg_congr h m (k + 1) _ _ (by omega)
    · rfl
section P53
variable {h : xH} {g f t : Nat}
theorem introduced_e (s : Shp h) (g1 : 1 ≤ g) (g7 : g ≤ 7) (e1 : hI h 7 1 = nI g) (v : Int32) : f_Ma_introduced 1 v h = some (if vp g v = true then nI (vn v) else -1, h) := by
  simp only [f_Ma_introduced, jn]
  unfold vp
  by_cases c : v < 0
  · rw [if_neg (show ¬ (0 : Int32) ≤ v from (fa_of_lt c).2.1), decide_eq_false (fun q => q c)]
    rfl
  · rw [if_pos (fa_of_nlt c), decide_eq_true c, Bool.true_and]
    simp only [gd, shp s, if_true]
    cases q : ipr g (v / (10 : Int32)) (jRem v (10 : Int32)) with
    | false =>
      rw [Ma_pairNumber_no s g1 g7 e1 q]
      rfl
    | true =>
      obtain ⟨a, b, ha, hb, hab, u1, u2⟩ := ipr_ex g1 g7 q
      unfold vn
      rw [u1, u2, Ma_pairNumber_y s g1 g7 e1 ha hb hab, nI_clamp (by omega), nI_clamp (by omega)]
      rfl
def hsj (c d : Nat → Int32) (g o : Nat) : Bool := hmt c d g o 0 != 0
theorem or2_lt {o p n : Nat} (h : o < 2 ^ n) (hp : p < n) : o ||| 2 ^ p < 2 ^ n := Nat.or_lt_two_pow h (Nat.pow_lt_pow_right (by decide) hp)
theorem Ma_judge_L {x : Nat} {a1 a2 : Int32} {sz : Nat} (s : Shp h) (z : Jseat h) (g1 : 1 ≤ g) (g7 : g ≤ 7) (e1 : hI h 7 1 = nI g) (e4 : hI h 11 3 = nI (c3 g)) (hx : x < 4) (es : hI h (24 + 2 * x) 1 = nI sz) (hs : sz ≤ 40) : ∀ (m k fl o : Nat) (fi : Int32), k + m = sz → m < fl → o < 2 ^ c2 g → (fi = -1 ∨ 0 ≤ fi) → f_Ma_judge_L46 1 a1 a2 (24 + 2 * x) fl (nI o) fi (nI k) h (fun v45 v46 v47 h48 => some ((if a2 = 0 then (-1 : Int32) else v46), h48)) = some (res a2 (jdg g (hI h (25 + 2 * x)) (hsj (hI h 12) (hI h 13) g) m k o fi), h) := by
  intro m
  induction m with
  | zero =>
    intro k fl o fi hk hf ho hfi
    obtain ⟨fl, rfl⟩ : ∃ q, fl = q + 1 := ⟨fl - 1, by omega⟩
    rw [f_Ma_judge_L46]
    simp only [gd, (shx s hx).1, if_true, es]
    rw [if_pos (nI_le (by omega) (by omega))]
    rfl
  | succ m ih =>
    intro k fl o fi hk hf ho hfi
    obtain ⟨fl, rfl⟩ : ∃ q, fl = q + 1 := ⟨fl - 1, by omega⟩
    have o31 := lt3 (lt24 g7 ho)
    have hc := c2_le g g7
    rw [f_Ma_judge_L46]
    simp only [gd, (shx s hx).1, if_true, es, Sh_item_e s hx es hs (show k < sz by omega), bind_s, shp s, introduced_e s g1 g7 e1]
    rw [if_neg (nI_ge (by omega) (by omega))]
    by_cases cv : vp g (hI h (25 + 2 * x) k) = true
    · have vl := vn_lt g1 g7 cv
      have Jy := jdg_y (hs := hsj (hI h 12) (hI h 13) g) (m := m) (o := o) (fi := fi) cv
      have Jn := jdg_n (g := g) (it := hI h (25 + 2 * x)) (hs := hsj (hI h 12) (hI h 13) g) (m := m) (k := k) (o := o) (fi := fi)
      rw [if_pos cv]
      generalize vn (hI h (25 + 2 * x) k) = p at *
      simp only [jn, tb o31 (show p < 31 by omega), b2i_1]
      rw [if_neg (nI_pos (by omega))]
      by_cases cb : o.testBit p = true
      · rw [if_pos cb, Jn (fun q => by rw [cb] at q; cases q.2)]
        rfl
      · have o2 := or2_lt ho vl
        rw [if_neg cb, Jy (by simpa using cb), ss p (by omega), fa_or, nI_1]
        have AT : f_St_anyThree 11 (nI (o ||| 2 ^ p)) (0 : Int32) h = _ := anyThree_e s z (c3_le g g7) e4 (lt3 (lt24 g7 o2)) (show 0 < 2 ^ 31 by decide)
        have alt : anyv (hI h 12) (hI h 13) (c3 g) (o ||| 2 ^ p) 0 < 2 ^ 31 := by
          unfold anyv
          split
          · rename_i q
            have := st_lt _ (Nat.lt_of_lt_of_le q (c3_le g g7))
            omega
          · decide
        have az : (anyv (hI h 12) (hI h 13) (c3 g) (o ||| 2 ^ p) 0 = 0) ↔ hsj (hI h 12) (hI h 13) g (o ||| 2 ^ p) = false := by
          unfold hsj
          rw [anyv_0 (c3_le g g7), hmy_t g7]
          simp
        simp only [AT, bind_s, li_eq0 alt, shp s, if_true]
        rcases hfi with rfl | hfi
        · rw [if_neg (show ¬ (0 : Int32) ≤ -1 by decide)]
          cases q : hsj (hI h 12) (hI h 13) g (o ||| 2 ^ p) with
          | false =>
            rw [if_pos (az.mpr q), if_neg (show ¬ ((-1 : Int32) = -1 ∧ false = true) by simp)]
            exact ih (k + 1) fl _ _ (by omega) (by omega) o2 (Or.inl rfl)
          | true =>
            rw [if_neg (fun y => by rw [az.mp y] at q; cases q), if_pos (show (-1 : Int32) = -1 ∧ true = true from ⟨rfl, rfl⟩)]
            exact ih (k + 1) fl _ _ (by omega) (by omega) o2 (Or.inr (nI_pos' (by omega)))
        · have nf : ¬ fi = -1 := fun q => by rw [q] at hfi; exact absurd hfi (by decide)
          rw [if_pos hfi, if_neg (show ¬ (fi = -1 ∧ hsj (hI h 12) (hI h 13) g (o ||| 2 ^ p) = true) from fun q => nf q.1)]
          exact ih (k + 1) fl _ _ (by omega) (by omega) o2 (Or.inr hfi)
    · rw [if_neg cv, jdg_n (fun q => cv q.1)]
      simp only [jn]
      rw [if_pos li_m1]
      rfl
/-- whether one of the first threes is of friends -/
theorem Mo_judge_has {a1 a2 a4 a5 a6 a7 : Int32} (s : Shp h) (g7 : g ≤ 7) (j : Jga g h) {o : Nat} (ho : o < 2 ^ 31) (K : Int32 → Int32 → xH → Option (Int32 × xH)) : f_Mo_judge_L155 36 a1 a2 (nI o) a4 a5 a6 a7 fu (0 : Int32) (0 : Int32) h K = K (b2i (hsj (hI h 12) (hI h 13) g o)) (nI (c3 g)) h := by
  have hc := c3_le g g7
  have fin : hsj (hI h 12) (hI h 13) g o = (fb_ct (fun k => sdn (hI h 12) (hI h 13) (st3 (tmn g k)) o 0) (c3 g) != 0) := rfl
  rw [fin]
  refine lpf (fun n i (v : Int32) => f_Mo_judge_L155 36 a1 a2 (nI o) a4 a5 a6 a7 n v i h K) (fun q => q = _) (fun i v => v = b2i (fb_ct (fun k => sdn (hI h 12) (hI h 13) (st3 (tmn g k)) o 0) i != 0)) (c3 g) (i := 0) (Nat.zero_le _) (by omega) rfl ?_ ?_
  · intro n i v hi e
    subst e
    refine Or.inr ⟨_, ?_, rfl⟩
    have w0 : wi (st3 (tmn g i)) ≠ 0 := by rw [(wi_tm g7 hi).1]; exact (wi_tm g7 hi).2.2.2
    have se : f_Mo_sortOf 36 (nI i) (nI o) (0 : Int32) h = _ := Mo_sortOf_e s (t := i) (l := 0) (by omega) (j.2 i hi).1 (by have := (wi_tm g7 hi).2.2.1; omega) ho (by decide)
    have sv : (sov (pm3 (tmn g i)) o 0 (hI h 44 i) (hI h 45 i) = (1 : Int32)) = (frN (hI h 12) (st3 (tmn g i)) o = true) := by
      unfold sov frN
      rw [(j.2 i hi).2.2.1, (wi_tm g7 hi).1]
      by_cases c : (o &&& pm3 (tmn g i) == pm3 (tmn g i) && hI h 12 (st3 (tmn g i)) != nI 0) = true
      · rw [if_pos c, c]
        simp only [eq_iff_iff, iff_true]
        rfl
      · rw [if_neg c]
        have z0 : (0 &&& pm3 (tmn g i) == pm3 (tmn g i)) = false := by
          rw [Nat.zero_and]
          exact beq_eq_false_iff_ne.mpr (fun q => (wi_tm g7 hi).2.2.2 q.symm)
        rw [z0, Bool.and_false, Bool.false_and, if_neg (by decide), eq_false c]
        exact eq_false (by decide)
    rw [f_Mo_judge_L155, fb_ct_succ, sdn_fr, fr_0 w0, Bool.or_false]
    simp only [jn, gd, shp s, if_true, j.1, nI_1]
    rw [if_neg (nI_ge hi (by omega))]
    generalize fb_ct (fun k => sdn (hI h 12) (hI h 13) (st3 (tmn g k)) o 0) i = ct
    by_cases c0 : ct = 0
    · subst c0
      rw [if_pos (show b2i (0 != 0) = (0 : Int32) by decide), se]
      simp only [bind_s, sv]
      cases frN (hI h 12) (st3 (tmn g i)) o
      · rfl
      · rfl
    · have e1 : (ct != 0) = true := bne_iff_ne.mpr c0
      rw [e1, if_neg (by decide)]
      have e2 : (ct + (if frN (hI h 12) (st3 (tmn g i)) o = true then 1 else 0) != 0) = true := bne_iff_ne.mpr (by split <;> omega)
      rw [e2]
      rfl
  · intro n v e
    subst e
    rw [f_Mo_judge_L155]
    simp only [gd, shp s, if_true, j.1]
    rw [if_pos (nI_le (Nat.le_refl _) (by omega))]
theorem Mo_judge_L {x : Nat} {a2 : Int32} {sz : Nat} (s : Shp h) (j : Jga g h) (g1 : 1 ≤ g) (g7 : g ≤ 7) (m1 : hI h 36 7 = nI g) (hx : x < 4) (es : hI h 49 x = nI sz) (hs : sz ≤ 40) (K : Int32 → Int32 → Int32 → Int32 → xH → Option (Int32 × xH)) (hK : ∀ a b c d, K a b c d h = some ((if a2 = 0 then b else c), h)) : ∀ (m k fl o : Nat) (fi : Int32), k + m = sz → m + 1 < fl → o < 2 ^ c2 g → f_Mo_judge_L50 36 (nI x) a2 fl (nI o) (-1 : Int32) fi (nI k) h K = some (res a2 (jdg g (fun i => hI h 50 (40 * x + i)) (hsj (hI h 12) (hI h 13) g) m k o fi), h) := by
  have hin : ¬ (nI x < 0 ∨ 4 ≤ x) := nin hx (by omega)
  have stop : ∀ (k fl o : Nat) (fi w : Int32), (k = sz ∨ ¬ w = -1) → k ≤ sz → f_Mo_judge_L50 36 (nI x) a2 (fl + 1) (nI o) w fi (nI k) h K = some (if a2 = 0 then w else fi, h) := by
    intro k fl o fi w c hk
    rw [f_Mo_judge_L50]
    simp only [gd, shp s, if_true, nI_clamp (show x < 2 ^ 31 by omega), if_pos hin, es]
    by_cases c1 : k = sz
    · rw [if_pos (nI_le (by omega) (by omega)), hK]
    · rw [if_neg (nI_ge (by omega) (by omega)), if_neg (c.resolve_left c1), hK]
  intro m
  induction m with
  | zero =>
    intro k fl o fi hk hf ho
    obtain ⟨fl, rfl⟩ : ∃ q, fl = q + 1 := ⟨fl - 1, by omega⟩
    rw [stop k fl o fi (-1) (Or.inl (by omega)) (by omega)]
    rfl
  | succ m ih =>
    intro k fl o fi hk hf ho
    obtain ⟨fl, rfl⟩ : ∃ q, fl = q + 1 := ⟨fl - 1, by omega⟩
    obtain ⟨fl, rfl⟩ : ∃ q, fl = q + 1 := ⟨fl - 1, by omega⟩
    have o31 := lt3 (lt24 g7 ho)
    have hc := c2_le g g7
    have i1 : ¬ (nI (40 * x + k) < 0 ∨ 160 ≤ 40 * x + k) := nin (by omega) (by omega)
    have nk : ¬ nI k = (-1 : Int32) := fun z => nI_pos (n := k) (by omega) (by rw [z]; decide)
    have ST : f_Mo_judge_L50 36 (nI x) a2 (fl + 1) (nI o) (nI k) fi (nI (k + 1)) h K = some (if a2 = 0 then nI k else fi, h) := stop (k + 1) fl o fi (nI k) (Or.inr nk) (by omega)
    rw [f_Mo_judge_L50]
    simp only [jn, gd, shp s, if_true, nI_clamp (show x < 2 ^ 31 by omega), if_pos hin, es, a40, nI_clamp (show 40 * x + k < 2 ^ 31 by omega), if_pos i1, Mo_isPair_n s g1 g7 m1, bind_s, nI_1]
    rw [if_neg (nI_ge (by omega) (by omega))]
    have Jy := jdg_y (g := g) (it := fun i => hI h 50 (40 * x + i)) (hs := hsj (hI h 12) (hI h 13) g) (m := m) (k := k) (o := o) (fi := fi)
    have Jn := jdg_n (g := g) (it := fun i => hI h 50 (40 * x + i)) (hs := hsj (hI h 12) (hI h 13) g) (m := m) (k := k) (o := o) (fi := fi)
    generalize hI h 50 (40 * x + k) = v at *
    by_cases c0 : v < 0
    · have cv : vp g v = false := by
        unfold vp
        rw [decide_eq_false (fun q => q c0)]
        rfl
      rw [if_pos c0, ST, Jn (fun q => by rw [cv] at q; cases q.1)]
      rfl
    · rw [if_neg c0]
      have vpe : vp g v = ipr g (v / (10 : Int32)) (jRem v (10 : Int32)) := by
        unfold vp
        rw [decide_eq_true c0, Bool.true_and]
      rw [vpe] at Jy Jn
      cases q : ipr g (v / (10 : Int32)) (jRem v (10 : Int32)) with
      | false =>
        rw [if_pos b2i_f, ST, Jn (fun z => by rw [q] at z; cases z.1)]
        rfl
      | true =>
        obtain ⟨a, b, ha, hb, hab, u1, u2⟩ := ipr_ex g1 g7 q
        have vl := prs_lt g g7 a ha b hb hab
        have vne : vn v = prs a b := by
          unfold vn
          rw [u1, u2, nI_clamp (by omega), nI_clamp (by omega)]
        rw [if_neg (show ¬ b2i true = 0 by decide), u1, u2]
        have SE : f_Mo_seat (nI a) (nI b) h = some (nI (prs a b), h) := Mo_seat_n (by omega) (by omega)
        rw [vne] at Jy Jn
        generalize prs a b = p at *
        simp only [SE, bind_s, tb o31 (show p < 31 by omega), b2i_1]
        by_cases cb : o.testBit p = true
        · rw [if_pos cb, ST, Jn (fun q => by rw [cb] at q; cases q.2)]
          rfl
        · have o2 := or2_lt ho vl
          rw [if_neg cb, Jy q (by simpa using cb), ss p (by omega), fa_or, Mo_judge_has s g7 j (lt3 (lt24 g7 o2))]
          cases q2 : hsj (hI h 12) (hI h 13) g (o ||| 2 ^ p) with
          | false =>
            rw [if_pos b2i_f, if_neg (show ¬ (fi = -1 ∧ false = true) by simp)]
            exact ih (k + 1) (fl + 1) _ _ (by omega) (by omega) o2
          | true =>
            rw [if_neg (show ¬ b2i true = 0 by decide)]
            by_cases cf : fi = -1
            · rw [if_pos cf, if_pos (show fi = -1 ∧ true = true from ⟨cf, rfl⟩)]
              exact ih (k + 1) (fl + 1) _ _ (by omega) (by omega) o2
            · rw [if_neg cf, if_neg (show ¬ (fi = -1 ∧ true = true) from fun q => cf q.1)]
              exact ih (k + 1) (fl + 1) _ _ (by omega) (by omega) o2
end P53
theorem Y_judge : Sp_judge Inv := by
  intro x w h I
  obtain ⟨g, f, t, n, r, T, j⟩ := I
  have j0 := j
  obtain ⟨sh, hn, z, ⟨⟨g1, g7, hf, ht, hd⟩, e1, e2, e3, m1, m2, m3⟩, jk, jw, jp, js, jst, jx, jr⟩ := j0
  have f24 := lt24 g7 hf
  have t24 := lt24 g7 ht
  have f31 := lt3 f24
  have t31 := lt3 t24
  have s36 : hK h 36 = 11 := by simp only [shp sh]
  cases cx : inr x 3 with
  | false =>
    refine ⟨-2, h, h, ?_, s36, ?_, ⟨g, f, t, n, r, T, j⟩⟩
    · simp only [f_Ma_judge, jn, gd, shp sh, if_true, Ma_sheetAt_no cx, bind_s]
    · simp only [f_Mo_judge, jn, Mo_isSheet_e, cx, bind_s, b2i_f, if_true]
  | true =>
    obtain ⟨a, ha, rfl⟩ := inr_ex (by decide) cx
    have a4 : a < 4 := by omega
    have q0 : ¬ 24 + 2 * a = 0 := by omega
    obtain ⟨u1, u2, u3, u4, -⟩ := shx sh a4
    have M0 : ∀ h, f_Mo_isSheet (nI a) h = some (1, h) := fun h => by rw [Mo_isSheet_e, cx]; rfl
    have hin : ¬ (nI a < 0 ∨ 4 ≤ a) := nin a4 (by omega)
    cases cw : inr w 1 with
    | false =>
      refine ⟨-2, h, h, ?_, s36, ?_, ⟨g, f, t, n, r, T, j⟩⟩
      · simp only [f_Ma_judge, jn, gd, shp sh, if_true, Ma_sheetAt_y sh a4, bind_s, if_neg q0, Ma_isWithin_1, cw, b2i_f]
      · simp only [f_Mo_judge, jn, M0, bind_s, i10, if_false, Mo_in_1, cw, b2i_f, if_true]
    | true =>
      rcases js a a4 with ⟨c1, c2⟩ | ⟨so, m, d1, d2, d3, d4, d5, d6, d7, d8⟩
      · refine ⟨-11, h, h, ?_, s36, ?_, ⟨g, f, t, n, r, T, j⟩⟩
        · simp only [f_Ma_judge, jn, gd, shp sh, if_true, Ma_sheetAt_y sh a4, bind_s, if_neg q0, Ma_isWithin_1, cw, b2i_t, i10, if_false, u1, Ma_miss u1, c1]
        · simp only [f_Mo_judge, jn, gd, shp sh, if_true, M0, bind_s, i10, if_false, Mo_in_1, cw, b2i_t, nI_clamp (show a < 2 ^ 31 by omega), if_pos hin, c2]
      · have e1' : ¬ nI so = (-1 : Int32) := fun q => nI_pos (n := so) (by omega) (by rw [q]; decide)
        obtain ⟨h2, b1, s2, x2, jg⟩ := Mo_gathers_e (J_M j) jst
        have j2 := J_ga j s2 x2
        have ML := Mo_judge_L (x := a) (a2 := w) s2 jg g1 g7 ((x2.v hn 7 (by decide) rfl).trans m1) a4 ((x2.v hn a (by decide) rfl).trans d7) d2 (fun v60 v61 v62 v63 h64 => some ((if w = 0 then v61 else v62), h64)) (fun _ _ _ _ => rfl) m 0 fu f (-1) (by omega) (by show m + 1 < 2000; omega) hf
        rw [show hI h2 12 = hI h 12 from funext fun k => x2.v hn k (by decide) rfl, show hI h2 13 = hI h 13 from funext fun k => x2.v hn k (by decide) rfl] at ML
        have CL := Ma_judge_L (a1 := nI a) (a2 := w) sh z g1 g7 e1 jst.1 a4 d4 d2 m 0 fu f (-1) (by omega) (by show m < 2000; omega) hf (Or.inl rfl)
        have EQ := jdg_congr (g := g) (it := fun i => hI h2 50 (40 * a + i)) (it2 := hI h (25 + 2 * a)) (hs := hsj (hI h 12) (hI h 13) g) (sz := m) (fun i hi => (x2.v hn _ (by decide) rfl).trans (d8 i hi).symm) m 0 f (-1) (by omega)
        rw [EQ] at ML
        refine ⟨res w (jdg g (hI h (25 + 2 * a)) (hsj (hI h 12) (hI h 13) g) m 0 f (-1)), h, h2, ?_, s36, ?_, ⟨g, f, t, n, r, T, j2⟩⟩
        · simp only [f_Ma_judge, jn, gd, shp sh, if_true, Ma_sheetAt_y sh a4, bind_s, if_neg q0, Ma_isWithin_1, cw, b2i_t, i10, if_false, u1, Ma_miss u1, d3, if_neg e1', e2]
          exact CL
        · simp only [f_Mo_judge, jn, gd, shp sh, if_true, M0, bind_s, i10, if_false, Mo_in_1, cw, b2i_t, nI_clamp (show a < 2 ^ 31 by omega), if_pos hin, d5, b1, shp s2, (x2.v hn 8 (by decide) rfl).trans m2]
          exact ML

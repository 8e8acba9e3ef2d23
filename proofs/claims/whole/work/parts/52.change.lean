/-! the pair whose change leaves fewest threes -/
def dCo (p k : Nat) : Bool := !(decide (p = 46) || (decide (p = 36) && decide (13 ≤ k) && decide (k ≤ 27)))
theorem dCo_sy {p k : Nat} (h : dCo p k = true) : dSy p k = true := by
  simp [dCo] at h
  simp [dSy]
  omega
theorem dAll_co {p k : Nat} (h : dAll p k = true) : dCo p k = true := by
  cases e : dCo p k with
  | true => rfl
  | false =>
    have e2 : p = 46 ∨ (p = 36 ∧ 13 ≤ k ∧ k ≤ 27) := by
      simp [dCo] at e
      omega
    rcases e2 with rfl | ⟨rfl, q1, q2⟩
    · rw [dAll_42 (by omega) (by omega)] at h
      cases h
    · rw [dAll_36 (by omega)] at h
      cases h
section P52
variable {h : xH} {g f t n r : Nat} {T : Nat → Nat → (Nat → Int32) → Int32}
theorem J_co {h' : xH} (j : J g f t n r T h) (s : Shp h') (x : Fr dCo h h') : J g f t n r T h' := J_all s (x.mono (fun p k => dAll_co)) j
/-- the costs of the pairs before that many, of those that are looked at -/
def PCo (g f t r : Nat) (T : Nat → Nat → (Nat → Int32) → Int32) (h0 : xH) (m : Nat) (v : xH) : Prop := Shp v ∧ Fr dCo h0 v ∧ ∀ p, p < m → (f ||| t).testBit p = true → hI v 46 p = cst T g f t r p
theorem RdM_co {h' : xH} (R : RdM g r T h) (s : Shp h') (x : Fr dCo h h') : RdM g r T h' := RdM_fr R s x rfl rfl rfl (fun k => rfl)
theorem Mo_gathersCosts_e (R : RdM g r T h) (g1 : 1 ≤ g) (hf : f < 2 ^ 31) (ht : t < 2 ^ 31) (dj : f &&& t = 0) (m2 : hI h 36 8 = nI f) (m3 : hI h 36 9 = nI (f ||| t)) : ∃ h', f_Mo_gathersCosts 36 h = some ((), h') ∧ PCo g f t r T h (c2 g) h' := by
  have g7 := R.2.2.1.1
  have n51 := R.2.1
  have inner : ∀ k h1 K, k < g → PCo g f t r T h (c2 k) h1 → ∃ h2, f_Mo_gathersCosts_L12 36 (nI k) fu (0 : Int32) h1 K = K (nI k) h2 ∧ PCo g f t r T h (c2 (k + 1)) h2 := by
    intro k h1 K hk7 P
    refine lpf (fun n i (v : xH) => f_Mo_gathersCosts_L12 36 (nI k) n i v K) (fun o => ∃ h2, o = K (nI k) h2 ∧ PCo g f t r T h (c2 (k + 1)) h2) (fun i v => PCo g f t r T h (c2 k + i) v) k (Nat.zero_le _) (by omega) P ?_ ?_
    · intro n i v hi ⟨sv, xv, ev⟩
      obtain ⟨p1, p2, p3, p4, p5⟩ := prs_c2 k (by omega) i hi
      have u2 := (xv.v n51 8 (by decide) rfl).trans m2
      have u3 := (xv.v n51 9 (by decide) rfl).trans m3
      have nv := Nat.le_trans n51 xv.1
      have hin : ¬ (nI (c2 k + i) < 0 ∨ 21 ≤ c2 k + i) := nin p4 (by omega)
      have tb3 := tb (Nat.or_lt_two_pow hf ht) (show c2 k + i < 31 by omega)
      have tb2 := tb hf (show c2 k + i < 31 by omega)
      have step : ∀ v' val, Shp v' → Fr dSy v v' → ((f ||| t).testBit (c2 k + i) = true → val = cst T g f t r (c2 k + i)) → PCo g f t r T h (c2 k + (i + 1)) (hIu v' 46 (c2 k + i) val) := by
        intro v' val s' x' e'
        refine ⟨s', (xv.trans (x'.mono (fun p k => dCo_sy))).I rfl, ?_⟩
        intro p hp hs
        by_cases e : p = c2 k + i
        · subst e
          rw [iI, if_pos ⟨rfl, rfl⟩]
          exact e' hs
        · rw [iI, if_neg (fun z => e z.2), (x'.v nv p (by decide) rfl)]
          exact ev p (by omega) hs
      by_cases sn : (f ||| t).testBit (c2 k + i) = true
      · obtain ⟨v', b1, b2, b3⟩ := Mo_says_e (RdM_co R sv xv) (w := 1) (by decide) (nI i) (nI k) 0 (b2i (f.testBit (c2 k + i))) 1
        refine Or.inr ⟨_, ?_, step v' (cst T g f t r (c2 k + i)) b2 b3 (fun _ => rfl)⟩
        have E : bnd (T r 1 (nm6 (nI i) (nI k) 0 (b2i (f.testBit (c2 k + i))) 1 (nI g))) = cst T g f t r (c2 k + i) := by
          unfold cst
          rw [p2, p3]
          have l2 : lkv f t (c2 k + i) ≠ 2 := by
            unfold lkv
            rw [Nat.testBit_or] at sn
            cases a : f.testBit (c2 k + i)
            · rw [a] at sn
              simp at sn
              rw [sn]
              decide
            · rw [if_pos rfl]
              decide
          have l1 : (if lkv f t (c2 k + i) = 1 then (1 : Int32) else 0) = b2i (f.testBit (c2 k + i)) := by
            unfold lkv
            cases f.testBit (c2 k + i)
            · cases t.testBit (c2 k + i) <;> rfl
            · rfl
          rw [l1, if_neg l2]
        simp only [f_Mo_gathersCosts_L12, jn, gd, bind_s, Mo_seat_n (show i < 7 by omega) (show k < 7 by omega), p1, shp sv, if_true, u2, u3, tb3, tb2, sn, b2i_t, i10, if_false]
        rw [if_neg (nI_ge hi (by omega)), show f_Mo_says 36 (1 : Int32) (nI i) (nI k) 0 (b2i (f.testBit (c2 k + i))) 1 v = _ from b1]
        simp only [bind_s, f_Mo_within, bnd_w, shp b2, if_true, nI_clamp (show c2 k + i < 2 ^ 31 by omega), if_pos hin, E, nI_1]
      · rw [Bool.not_eq_true] at sn
        refine Or.inr ⟨_, ?_, step v 0 sv (Fr.refl v) (fun q => by rw [sn] at q; cases q)⟩
        simp only [f_Mo_gathersCosts_L12, jn, gd, bind_s, Mo_seat_n (show i < 7 by omega) (show k < 7 by omega), p1, shp sv, if_true, u2, u3, tb3, sn, b2i_f, nI_clamp (show c2 k + i < 2 ^ 31 by omega), if_pos hin, nI_1]
        rw [if_neg (nI_ge hi (by omega))]
    · intro n v P
      refine ⟨v, ?_, ?_⟩
      · simp only [f_Mo_gathersCosts_L12]
        rw [if_pos (nI_le (Nat.le_refl _) (by omega))]
      · rw [← c2_succ k (by omega)]
        exact P
  unfold f_Mo_gathersCosts
  refine lpf (fun n i (v : xH) => f_Mo_gathersCosts_L2 36 n i v (fun v22 h23 => some ((), h23))) (fun o => ∃ h2, o = some ((), h2) ∧ PCo g f t r T h (c2 g) h2) (fun i v => PCo g f t r T h (c2 i) v) g (i := 1) g1 (by omega) ⟨R.1, Fr.refl _, fun p hp => absurd hp (by rw [c2_0]; omega)⟩ ?_ ?_
  · intro n i v hi P
    obtain ⟨h2, a1, a2⟩ := inner i v (fun v20 h21 => f_Mo_gathersCosts_L2 36 n (nI (i + 1)) h21 (fun v22 h23 => some ((), h23))) hi P
    have u1 := (P.2.1.v n51 7 (by decide) rfl).trans R.2.2.1.2
    refine Or.inr ⟨h2, ?_, a2⟩
    simp only [f_Mo_gathersCosts_L2, gd, shp P.1, if_true, u1]
    rw [if_neg (nI_ge hi (by omega)), nI_1, a1]
  · intro n v P
    have u1 := (P.2.1.v n51 7 (by decide) rfl).trans R.2.2.1.2
    refine ⟨v, ?_, P⟩
    simp only [f_Mo_gathersCosts_L2, gd, shp P.1, if_true, u1]
    rw [if_pos (nI_le (Nat.le_refl _) (by omega))]
end P52
def bch (see : Nat → Bool) (v : Nat → Nat) (co : Nat → Int32) (v0 : Nat) : Nat → Option Nat × Nat
  | 0 => (none, v0)
  | p + 1 => if see p = true then (if v p < (bch see v co v0 p).2 then (some p, v p) else match (bch see v co v0 p).1 with
    | none => bch see v co v0 p
    | some q => if v p = (bch see v co v0 p).2 then (if co q ≤ co p then bch see v co v0 p else (some p, v p)) else bch see v co v0 p) else bch see v co v0 p
theorem bch_ok {see : Nat → Bool} {v : Nat → Nat} {co : Nat → Int32} {v0 : Nat} : ∀ p q, (bch see v co v0 p).1 = some q → q < p ∧ see q = true ∧ (bch see v co v0 p).2 = v q
  | 0, q, e => by cases e
  | p + 1, q, e => by
    have ih := bch_ok (see := see) (v := v) (co := co) (v0 := v0) p
    have ih' : ∀ q, (bch see v co v0 p).1 = some q → q < p + 1 ∧ see q = true ∧ (bch see v co v0 p).2 = v q := fun q e => ⟨by have := (ih q e).1; omega, (ih q e).2⟩
    unfold bch at e ⊢
    by_cases c1 : see p = true
    · rw [if_pos c1] at e ⊢
      by_cases c2 : v p < (bch see v co v0 p).2
      · rw [if_pos c2] at e ⊢
        cases e
        exact ⟨by omega, c1, rfl⟩
      · rw [if_neg c2] at e ⊢
        cases h : (bch see v co v0 p).1 with
        | none =>
          rw [h] at e
          simp only at e ⊢
          exact ih' q e
        | some x =>
          rw [h] at e
          simp only at e ⊢
          by_cases c3 : v p = (bch see v co v0 p).2
          · rw [if_pos c3] at e ⊢
            by_cases c4 : co x ≤ co p
            · rw [if_pos c4] at e ⊢
              exact ih' q e
            · rw [if_neg c4] at e ⊢
              cases e
              exact ⟨by omega, c1, rfl⟩
          · rw [if_neg c3] at e ⊢
            exact ih' q e
    · rw [if_neg c1] at e ⊢
      exact ih' q e
/-- changed by one pair -/
theorem chg_and {f t p : Nat} (dj : f &&& t = 0) (sn : (f ||| t).testBit p = true) : (f ^^^ 2 ^ p) &&& (t ^^^ 2 ^ p) = 0 ∧ (f ^^^ 2 ^ p) ||| (t ^^^ 2 ^ p) = f ||| t := by
  have q := and_nil.mp dj
  rw [Nat.testBit_or] at sn
  refine ⟨and_nil.mpr ?_, ?_⟩
  · rintro i ⟨a, b⟩
    rw [fb_bit_flip] at a b
    by_cases e : i = p
    · subst e
      have := q i
      revert a b sn this
      cases f.testBit i <;> cases t.testBit i <;> simp
    · rw [decide_eq_false e, Bool.xor_false] at a b
      exact q i ⟨a, b⟩
  · apply Nat.eq_of_testBit_eq
    intro i
    rw [Nat.testBit_or, Nat.testBit_or, fb_bit_flip, fb_bit_flip]
    by_cases e : i = p
    · subst e
      have := q i
      revert sn this
      cases f.testBit i <;> cases t.testBit i <;> simp
    · rw [decide_eq_false e, Bool.xor_false, Bool.xor_false]
theorem flip_lt {f p : Nat} (hf : f < 2 ^ 31) (hp : p < 31) : f ^^^ 2 ^ p < 2 ^ 31 := Nat.xor_lt_two_pow hf (Nat.pow_lt_pow_right (by decide) hp)
theorem see_lk {f t p : Nat} : (f ||| t).testBit p = decide (lkv f t p ≠ 2) := by
  rw [Nat.testBit_or]
  unfold lkv
  cases f.testBit p <;> cases t.testBit p <;> rfl
section P52
variable {h : xH} {g f t n r : Nat} {T : Nat → Nat → (Nat → Int32) → Int32}
def chv (c d : Nat → Int32) (g f t p : Nat) : Nat := hmt c d g (f ^^^ 2 ^ p) (t ^^^ 2 ^ p)
theorem bv_lt {c d : Nat → Int32} {g f t p : Nat} (g7 : g ≤ 7) : chv c d g f t p < 2 ^ 31 := Nat.lt_of_le_of_lt (hmt_le _ _ _ _ _) (by have := c3_le g g7; omega)
theorem bch2_lt {see : Nat → Bool} {v : Nat → Nat} {co : Nat → Int32} {v0 : Nat} (hv : ∀ p, v p < 2 ^ 31) (h0 : v0 < 2 ^ 31) : ∀ p, (bch see v co v0 p).2 < 2 ^ 31
  | 0 => h0
  | p + 1 => by
    have ih := bch2_lt (see := see) (co := co) hv h0 p
    unfold bch
    split
    · split
      · exact hv p
      · split
        · exact ih
        · split
          · split
            · exact ih
            · exact hv p
          · exact ih
    · exact ih
theorem chg_e (s : Shp h) (z : Jseat h) (g7 : g ≤ 7) (e2 : hI h 7 2 = nI f) (e3 : hI h 7 3 = nI t) (hf : f < 2 ^ 31) (ht : t < 2 ^ 31) (e4 : hI h 11 3 = nI (c3 g)) {p : Nat} (hp : p < 21) : f_Ma_threesIfChanged 1 (nI p) h = some (nI (chv (hI h 12) (hI h 13) g f t p), h) := by
  simp only [f_Ma_threesIfChanged, gd, shp s, if_true, e2, e3, ss p (by omega), fb_xorI, hm_e s z g7 e4 (flip_lt hf (show p < 31 by omega)) (flip_lt ht (show p < 31 by omega)), bind_s]
  rfl
theorem Ma_bestChange_e (R : RdC g r T h) (g1 : 1 ≤ g) (hf : f < 2 ^ 31) (ht : t < 2 ^ 31) (e2 : hI h 7 2 = nI f) (e3 : hI h 7 3 = nI t) (e4 : hI h 11 3 = nI (c3 g)) : ∃ h', f_Ma_bestChange 1 h = some (hbv (-1) (bch (fun p => (f ||| t).testBit p) (chv (hI h 12) (hI h 13) g f t) (cst T g f t r) (hmt (hI h 12) (hI h 13) g f t) (c2 g)).1, h') ∧ Shp h' ∧ Fr dEv h h' := by
  have g7 := R.2.2.2.1.1
  have e1 := R.2.2.2.1.2
  have s := R.1
  have z := R.2.2.1
  have n51 := R.2.1
  have hc := c2_le g g7
  have hc3 := c3_le g g7
  have hv : ∀ p, chv (hI h 12) (hI h 13) g f t p < 2 ^ 31 := fun p => bv_lt g7
  have h0 : hmt (hI h 12) (hI h 13) g f t < 2 ^ 31 := Nat.lt_of_le_of_lt (hmt_le _ _ _ _ _) (by omega)
  simp only [f_Ma_bestChange, f_Ma_threesNow, gd, shp s, if_true, e2, e3, hm_e s z g7 e4 hf ht, bind_s]
  generalize hB : bch (fun p => (f ||| t).testBit p) (chv (hI h 12) (hI h 13) g f t) (cst T g f t r) (hmt (hI h 12) (hI h 13) g f t) = B
  have hok := fun p q => bch_ok (see := fun p => (f ||| t).testBit p) (v := chv (hI h 12) (hI h 13) g f t) (co := cst T g f t r) (v0 := hmt (hI h 12) (hI h 13) g f t) p q
  have hlt := bch2_lt (see := fun p => (f ||| t).testBit p) (co := cst T g f t r) hv h0
  have hst : ∀ p, B (p + 1) = if (f ||| t).testBit p = true then (if chv (hI h 12) (hI h 13) g f t p < (B p).2 then (some p, chv (hI h 12) (hI h 13) g f t p) else match (B p).1 with | none => B p | some q => if chv (hI h 12) (hI h 13) g f t p = (B p).2 then (if cst T g f t r q ≤ cst T g f t r p then B p else (some p, chv (hI h 12) (hI h 13) g f t p)) else B p) else B p := fun p => by
    rw [← hB]
    rfl
  have hB0 : B 0 = (none, hmt (hI h 12) (hI h 13) g f t) := by rw [← hB]; rfl
  rw [hB] at hok hlt
  refine lpf (fun n i (v : Int32 × Int32 × xH) => f_Ma_bestChange_L9 1 n v.1 v.2.1 i v.2.2 (fun v48 v49 v50 h51 => some (v48, h51))) (fun o => ∃ h', o = some (hbv (-1) (B (c2 g)).1, h') ∧ Shp h' ∧ Fr dEv h h') (fun i v => v.1 = hbv (-1) (B i).1 ∧ v.2.1 = nI (B i).2 ∧ Shp v.2.2 ∧ Fr dEv h v.2.2) (c2 g) (i := 0) (s := (-1, nI (hmt (hI h 12) (hI h 13) g f t), h)) (Nat.zero_le _) (by omega) ⟨by rw [hB0]; rfl, by rw [hB0], s, Fr.refl h⟩ ?_ ?_
  · rintro n p ⟨v1, v2, w⟩ hp ⟨rfl, rfl, s1, x1⟩
    have R1 := RdC_ev R s1 x1
    have u1 := (x1.v n51 1 (by decide) rfl).trans e1
    have u2 := (x1.v n51 2 (by decide) rfl).trans e2
    have u3 := (x1.v n51 3 (by decide) rfl).trans e3
    have u4 := (x1.v n51 3 (p := 11) (by decide) rfl).trans e4
    have CH := chg_e s1 R1.2.2.1 g7 u2 u3 hf ht u4 (show p < 21 by omega)
    rw [show hI w 12 = hI h 12 from funext fun k => x1.v n51 k (by decide) rfl, show hI w 13 = hI h 13 from funext fun k => x1.v n51 k (by decide) rfl] at CH
    have LK := Ta_look_n s1 hf ht u2 u3 (show p < 31 by omega)
    have lk3 : lkv f t p < 3 := by unfold lkv; split <;> (try split) <;> decide
    have E0 : ∀ K : Int32 → Int32 → Int32 → xH → Option (Int32 × xH), f_Ma_bestChange_L9 1 (n + 1) (hbv (-1) (B p).1) (nI (B p).2) (nI p) w K = if lkv f t p = 2 then f_Ma_bestChange_L9 1 n (hbv (-1) (B p).1) (nI (B p).2) (nI (p + 1)) w K else (jn (fun (x31 : Int32 × xH) => jn (fun (x33 : Unit) => f_Ma_bestChange_L9 1 n (nI p) (nI (chv (hI h 12) (hI h 13) g f t p)) (nI (p + 1)) x31.2 K) (fun k34 => if nI (chv (hI h 12) (hI h 13) g f t p) < nI (B p).2 then k34 () else if x31.1 = 0 then f_Ma_bestChange_L9 1 n (hbv (-1) (B p).1) (nI (B p).2) (nI (p + 1)) x31.2 K else k34 ())) (fun k32 => jn (fun (x37 : xH) => k32 ((0 : Int32), x37)) (fun k38 => if hbv (-1) (B p).1 < 0 then k38 w else if nI (chv (hI h 12) (hI h 13) g f t p) = nI (B p).2 then (Option.bind (f_Ru_costs 8 (nI p) w) (fun q42 => gd (hK q42.2 1 = 10) (gd (hK q42.2 (hR q42.2 1 2) = 2) (Option.bind (f_Ru_costs (hR q42.2 1 2) (hbv (-1) (B p).1) q42.2) (fun q45 => if q45.1 ≤ q42.1 then k38 q45.2 else k32 ((1 : Int32), q45.2)))))) else k38 w))) := by
      intro K
      rw [f_Ma_bestChange_L9]
      simp only [gd, shp s1, if_true, u1, Se_pairsAmong_n g7, bind_s, LK]
      rw [if_neg (nI_ge hp (by omega))]
      simp only [jn, show (nI (lkv f t p) = (2 : Int32)) = (lkv f t p = 2) from li_eq (by omega) (by decide), CH, bind_s, shp s1, if_true, nI_1]
    have slk : (f ||| t).testBit p = decide (lkv f t p ≠ 2) := see_lk
    by_cases c2' : lkv f t p = 2
    · have EB : B (p + 1) = B p := by
        rw [hst, slk, if_neg (by simp [c2'])]
      refine Or.inr ⟨(hbv (-1) (B (p + 1)).1, nI (B (p + 1)).2, w), ?_, rfl, rfl, s1, x1⟩
      rw [EB]
      show f_Ma_bestChange_L9 1 (n + 1) (hbv (-1) (B p).1) (nI (B p).2) (nI p) w _ = _
      rw [E0, if_pos c2']
    · have sn : (f ||| t).testBit p = true := by rw [slk]; exact decide_eq_true c2'
      have cvl := hv p
      have bl := hlt p
      have HS := hst p
      rw [if_pos sn] at HS
      have E1 := E0 (fun v48 v49 v50 h51 => some (v48, h51))
      rw [if_neg c2'] at E1
      cases q : (B p).1 with
      | none =>
        rw [q] at HS E1
        simp only at HS
        refine Or.inr ⟨(hbv (-1) (B (p + 1)).1, nI (B (p + 1)).2, w), ?_, rfl, rfl, s1, x1⟩
        refine E1.trans ?_
        rw [HS]
        simp only [jn, hbv, if_pos li_m1, li_lt cvl bl, if_true]
        by_cases c3' : chv (hI h 12) (hI h 13) g f t p < (B p).2
        · rw [if_pos c3', if_pos c3']
        · rw [if_neg c3', if_neg c3', q]
      | some b =>
        rw [q] at HS E1
        simp only at HS
        obtain ⟨b1, b2, b3⟩ := hok p b q
        have nb' : ¬ nI b < 0 := nI_pos (by omega)
        by_cases c4 : chv (hI h 12) (hI h 13) g f t p = (B p).2
        · obtain ⟨w1, d1, d2, d3⟩ := Ru_costs_e R1 hf ht u2 u3 (show p < 21 by omega)
          have n52 := Nat.le_trans n51 x1.1
          obtain ⟨w2, f1, f2, f3⟩ := Ru_costs_e (RdC_ev R1 d2 d3) hf ht ((d3.v n52 2 (by decide) rfl).trans u2) ((d3.v n52 3 (by decide) rfl).trans u3) (show b < 21 by omega)
          rw [if_neg (show ¬ chv (hI h 12) (hI h 13) g f t p < (B p).2 by omega), if_pos c4] at HS
          refine Or.inr ⟨(hbv (-1) (B (p + 1)).1, nI (B (p + 1)).2, w2), ?_, rfl, rfl, f2, (x1.trans d3).trans f3⟩
          refine E1.trans ?_
          rw [HS]
          simp only [jn, hbv, if_neg nb', li_lt cvl bl, li_eq cvl bl, if_pos c4, d1, bind_s, gd, shp d2, if_true, f1, if_neg (show ¬ chv (hI h 12) (hI h 13) g f t p < (B p).2 by omega), i10, if_false]
          by_cases c5 : cst T g f t r b ≤ cst T g f t r p
          · rw [if_pos c5, if_pos c5, q]
          · rw [if_neg c5, if_neg c5]
        · rw [if_neg c4] at HS
          refine Or.inr ⟨(hbv (-1) (B (p + 1)).1, nI (B (p + 1)).2, w), ?_, rfl, rfl, s1, x1⟩
          refine E1.trans ?_
          rw [HS]
          simp only [jn, hbv, if_neg nb', li_lt cvl bl, li_eq cvl bl, if_neg c4, if_true]
          by_cases c3' : chv (hI h 12) (hI h 13) g f t p < (B p).2
          · rw [if_pos c3', if_pos c3']
          · rw [if_neg c3', if_neg c3', q]
  · rintro n ⟨v1, v2, w⟩ ⟨rfl, rfl, s1, x1⟩
    have u1 := (x1.v n51 1 (by decide) rfl).trans e1
    refine ⟨w, ?_, s1, x1⟩
    rw [f_Ma_bestChange_L9]
    simp only [gd, shp s1, if_true, u1, Se_pairsAmong_n g7, bind_s]
    rw [if_pos (nI_le (Nat.le_refl _) (by omega))]
theorem Mo_change_L {a1 : Int32} (s : Shp h) (g7 : g ≤ 7) (j : Jga g h) (hf : f < 2 ^ 31) (ht : t < 2 ^ 31) (dj : f &&& t = 0) (m1 : hI h 36 7 = nI g) (m2 : hI h 36 8 = nI f) (m3 : hI h 36 9 = nI (f ||| t)) (co : ∀ p, p < c2 g → (f ||| t).testBit p = true → hI h 46 p = cst T g f t r p) (K : Int32 → Int32 → Int32 → xH → Option (Int32 × xH)) : f_Mo_change_L39 36 a1 fu (-1 : Int32) (nI (hmt (hI h 12) (hI h 13) g f t)) (0 : Int32) h K = K (hbv (-1) (bch (fun p => (f ||| t).testBit p) (chv (hI h 12) (hI h 13) g f t) (cst T g f t r) (hmt (hI h 12) (hI h 13) g f t) (c2 g)).1) (nI (bch (fun p => (f ||| t).testBit p) (chv (hI h 12) (hI h 13) g f t) (cst T g f t r) (hmt (hI h 12) (hI h 13) g f t) (c2 g)).2) (nI (c2 g)) h := by
  have hc := c2_le g g7
  have hc3 := c3_le g g7
  have hv : ∀ p, chv (hI h 12) (hI h 13) g f t p < 2 ^ 31 := fun p => bv_lt g7
  have h0 : hmt (hI h 12) (hI h 13) g f t < 2 ^ 31 := Nat.lt_of_le_of_lt (hmt_le _ _ _ _ _) (by omega)
  generalize hB : bch (fun p => (f ||| t).testBit p) (chv (hI h 12) (hI h 13) g f t) (cst T g f t r) (hmt (hI h 12) (hI h 13) g f t) = B
  have hok := fun p q => bch_ok (see := fun p => (f ||| t).testBit p) (v := chv (hI h 12) (hI h 13) g f t) (co := cst T g f t r) (v0 := hmt (hI h 12) (hI h 13) g f t) p q
  have hlt := bch2_lt (see := fun p => (f ||| t).testBit p) (co := cst T g f t r) hv h0
  have hst : ∀ p, B (p + 1) = if (f ||| t).testBit p = true then (if chv (hI h 12) (hI h 13) g f t p < (B p).2 then (some p, chv (hI h 12) (hI h 13) g f t p) else match (B p).1 with | none => B p | some q => if chv (hI h 12) (hI h 13) g f t p = (B p).2 then (if cst T g f t r q ≤ cst T g f t r p then B p else (some p, chv (hI h 12) (hI h 13) g f t p)) else B p) else B p := fun p => by
    rw [← hB]
    rfl
  have hB0 : B 0 = (none, hmt (hI h 12) (hI h 13) g f t) := by rw [← hB]; rfl
  rw [hB] at hok hlt
  refine lpf (fun n i (v : Int32 × Int32) => f_Mo_change_L39 36 a1 n v.1 v.2 i h K) (fun o => o = K (hbv (-1) (B (c2 g)).1) (nI (B (c2 g)).2) (nI (c2 g)) h) (fun i v => v.1 = hbv (-1) (B i).1 ∧ v.2 = nI (B i).2) (c2 g) (i := 0) (s := (-1, nI (hmt (hI h 12) (hI h 13) g f t))) (Nat.zero_le _) (by omega) ⟨by rw [hB0]; rfl, by rw [hB0]⟩ ?_ ?_
  · rintro n p ⟨v1, v2⟩ hp ⟨rfl, rfl⟩
    have tb3 := tb (Nat.or_lt_two_pow hf ht) (show p < 31 by omega)
    refine Or.inr ⟨(hbv (-1) (B (p + 1)).1, nI (B (p + 1)).2), ?_, rfl, rfl⟩
    show f_Mo_change_L39 36 a1 (n + 1) (hbv (-1) (B p).1) (nI (B p).2) (nI p) h K = _
    rw [f_Mo_change_L39]
    simp only [gd, shp s, if_true, m1, m2, m3, c2_n g g7, tb3, b2i_1]
    rw [if_neg (nI_ge hp (by omega))]
    have HS := hst p
    by_cases sn : (f ||| t).testBit p = true
    · have cvl := hv p
      have bl := hlt p
      obtain ⟨x1, x2⟩ := chg_and dj sn
      have AT := Mo_allThrees_e s g7 j (flip_lt hf (show p < 31 by omega)) (flip_lt ht (show p < 31 by omega)) x1
      rw [x2] at AT
      rw [if_pos sn] at HS
      simp only [jn, if_pos sn, ss p (show p < 31 by omega), fb_xorI, AT, bind_s, nI_1]
      rw [show hmt (hI h 12) (hI h 13) g (f ^^^ 2 ^ p) (t ^^^ 2 ^ p) = chv (hI h 12) (hI h 13) g f t p from rfl]
      simp only [li_lt cvl bl, li_eq cvl bl]
      cases q : (B p).1 with
      | none =>
        rw [q] at HS
        simp only at HS
        rw [HS]
        simp only [hbv, if_true]
        by_cases c3' : chv (hI h 12) (hI h 13) g f t p < (B p).2
        · rw [if_pos c3', if_pos c3']
        · rw [if_neg c3', if_neg c3', q]
      | some b =>
        rw [q] at HS
        simp only at HS
        obtain ⟨b1, b2, b3⟩ := hok p b q
        have nb' : ¬ nI b = (-1 : Int32) := fun z => nI_pos (n := b) (by omega) (by rw [z]; decide)
        have i1 : ¬ (nI p < 0 ∨ 21 ≤ p) := nin (by omega) (by omega)
        have i2 : ¬ (nI b < 0 ∨ 21 ≤ b) := nin (by omega) (by omega)
        rw [HS]
        simp only [hbv, if_neg nb', shp s, if_true, nI_clamp (show p < 2 ^ 31 by omega), nI_clamp (show b < 2 ^ 31 by omega), if_pos i1, if_pos i2, co p hp sn, co b (by omega) b2]
        by_cases c3' : chv (hI h 12) (hI h 13) g f t p < (B p).2
        · rw [if_pos c3', if_pos c3']
        · rw [if_neg c3', if_neg c3']
          by_cases c4 : chv (hI h 12) (hI h 13) g f t p = (B p).2
          · rw [if_pos c4, if_pos c4]
            by_cases c5 : cst T g f t r b ≤ cst T g f t r p
            · rw [if_pos c5, if_pos c5, q]
            · rw [if_neg c5, if_neg c5]
          · rw [if_neg c4, if_neg c4, q]
    · rw [if_neg sn] at HS
      simp only [jn, if_neg sn, HS, nI_1]
  · rintro n ⟨v1, v2⟩ ⟨rfl, rfl⟩
    rw [f_Mo_change_L39]
    simp only [gd, shp s, if_true, m1, c2_n g g7]
    rw [if_pos (nI_le (Nat.le_refl _) (by omega))]
end P52
theorem Jst_fr {D : Nat → Nat → Bool} {h h' : xH} {g r : Nat} {T : Nat → Nat → (Nat → Int32) → Int32} (n : 51 ≤ hN h) (x : Fr D h h') (d0 : D 11 3 = true) (d1 : ∀ k, D 12 k = true ∧ D 13 k = true) (j : Jst g r T h) : Jst g r T h' := J_st n x d0 d1 j
theorem Y_change : Sp_change Inv := by
  intro w h I
  obtain ⟨g, f, t, n, r, T, j⟩ := I
  have j0 := j
  obtain ⟨sh, hn, z, ⟨⟨g1, g7, hf, ht, hd⟩, e1, e2, e3, m1, m2, m3⟩, jk, jw, jp, js, jst, jx, jr⟩ := j0
  have f24 := lt24 g7 hf
  have t24 := lt24 g7 ht
  have f31 := lt3 f24
  have t31 := lt3 t24
  have s36 : hK h 36 = 11 := by simp only [shp sh]
  cases cw : inr w 1 with
  | false =>
    refine ⟨-2, h, h, ?_, s36, ?_, ⟨g, f, t, n, r, T, j⟩⟩
    · simp only [f_Ma_change, Ma_isWithin_1, cw, bind_s, b2i_f, if_true]
    · simp only [f_Mo_change, Mo_in_1, cw, bind_s, b2i_f, if_true]
  | true =>
    obtain ⟨y, hy, rfl⟩ := inr_ex (by decide) cw
    have hc := c2_le g g7
    obtain ⟨h1, a1, a2, a3⟩ := Ma_bestChange_e (J_C j) g1 f31 t31 e2 e3 jst.1
    have j1 := J_ev j a2 a3
    have n1 := Nat.le_trans hn a3.1
    obtain ⟨h2, b1, b2, b3, jg⟩ := Mo_gathers_e (J_M j1) (Jst_fr hn a3 rfl (fun k => ⟨rfl, rfl⟩) jst)
    have j2 := J_ga j1 b2 b3
    have n2 := Nat.le_trans n1 b3.1
    have v36 : ∀ k, 7 ≤ k → k ≤ 9 → hI h2 36 k = hI h 36 k := fun k p1 p2 => (b3.v n1 k (by decide) (by simp [dGa]; omega)).trans (a3.v hn k (by decide) rfl)
    obtain ⟨h3, c1, c2', c3', c4⟩ := Mo_gathersCosts_e (J_M j2) g1 f31 t31 hd ((v36 8 (by omega) (by omega)).trans m2) ((v36 9 (by omega) (by omega)).trans m3)
    have j3 := J_co j2 c2' c3'
    have w36 : ∀ k, 7 ≤ k → k ≤ 9 → hI h3 36 k = hI h 36 k := fun k p1 p2 => (c3'.v n2 k (by decide) (by simp [dCo]; omega)).trans (v36 k p1 p2)
    have jg3 : Jga g h3 := Jga_fr n2 c3' rfl (fun k => ⟨rfl, rfl, rfl, rfl⟩) (fun k => ⟨rfl, rfl⟩) jg
    have r12 : hI h3 12 = hI h 12 := funext fun k => ((c3'.v n2 k (by decide) rfl).trans (b3.v n1 k (by decide) rfl)).trans (a3.v hn k (by decide) rfl)
    have r13 : hI h3 13 = hI h 13 := funext fun k => ((c3'.v n2 k (by decide) rfl).trans (b3.v n1 k (by decide) rfl)).trans (a3.v hn k (by decide) rfl)
    have AT := Mo_allThrees_e c2' g7 jg3 f31 t31 hd
    have ML := Mo_change_L (a1 := nI y) c2' g7 jg3 f31 t31 hd ((w36 7 (by omega) (by omega)).trans m1) ((w36 8 (by omega) (by omega)).trans m2) ((w36 9 (by omega) (by omega)).trans m3) c4 (fun v38 v39 v40 h41 => some ((if v38 = (-1 : Int32) then (-1 : Int32) else if nI y = 0 then v38 else v39), h41))
    rw [r12, r13] at AT ML
    have hok := fun q => bch_ok (see := fun p => (f ||| t).testBit p) (v := chv (hI h 12) (hI h 13) g f t) (co := cst T g f t r) (v0 := hmt (hI h 12) (hI h 13) g f t) (c2 g) q
    generalize hB : bch (fun p => (f ||| t).testBit p) (chv (hI h 12) (hI h 13) g f t) (cst T g f t r) (hmt (hI h 12) (hI h 13) g f t) (c2 g) = B at *
    have MO : f_Mo_change 36 (nI y) h1 = some (if hbv (-1) B.1 = (-1 : Int32) then (-1 : Int32) else if nI y = 0 then hbv (-1) B.1 else nI B.2, h3) := by
      simp only [f_Mo_change, Mo_in_1, cw, bind_s, b2i_t, i10, if_false, gd, shp a2, if_true, b1, shp b2, c1, shp c2', (w36 8 (by omega) (by omega)).trans m2, (w36 9 (by omega) (by omega)).trans m3, AT]
      exact ML
    refine ⟨_, h1, h3, ?_, by simp only [shp a2], MO, ⟨g, f, t, n, r, T, j3⟩⟩
    simp only [f_Ma_change, jn, Ma_isWithin_1, cw, bind_s, b2i_t, i10, if_false, gd, shp sh, if_true, a1]
    cases q : B.1 with
    | none =>
      simp only [hbv, if_true]
      exact if_pos (show (-1 : Int32) < 0 by decide)
    | some b =>
      obtain ⟨d1, d2, d3⟩ := hok b q
      have nb' : ¬ nI b < 0 := nI_pos (by omega)
      have nb2 : ¬ nI b = (-1 : Int32) := fun z => nb' (by rw [z]; decide)
      have CH := chg_e a2 (J_C j1).2.2.1 g7 ((a3.v hn 2 (by decide) rfl).trans e2) ((a3.v hn 3 (by decide) rfl).trans e3) f31 t31 ((a3.v hn 3 (p := 11) (by decide) rfl).trans jst.1) (show b < 21 by omega)
      rw [show hI h1 12 = hI h 12 from funext fun k => a3.v hn k (by decide) rfl, show hI h1 13 = hI h 13 from funext fun k => a3.v hn k (by decide) rfl] at CH
      simp only [hbv, if_neg nb', if_neg nb2, shp a2, if_true, CH, bind_s, d3]
      split
      · rfl
      · rfl

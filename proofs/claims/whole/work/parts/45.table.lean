/-! one pair told anew; guests, rules, images taken back: the threes are weighed anew -/
def put (f p : Nat) (b : Bool) : Nat := if b = true then f ||| 2 ^ p else an f (2 ^ p)
theorem put_bit (f p i : Nat) (b : Bool) : (put f p b).testBit i = if i = p then b else f.testBit i := by
  unfold put
  cases b
  · rw [if_neg (by decide), an_bit, Nat.testBit_two_pow]
    by_cases e : i = p
    · rw [if_pos e, decide_eq_true e.symm]
      simp
    · rw [if_neg e, decide_eq_false (fun q => e q.symm)]
      simp
  · rw [if_pos rfl, Nat.testBit_or, Nat.testBit_two_pow]
    by_cases e : i = p
    · rw [if_pos e, decide_eq_true e.symm]
      simp
    · rw [if_neg e, decide_eq_false (fun q => e q.symm)]
      simp
theorem put_lt {f p n : Nat} {b : Bool} (h : f < 2 ^ n) (hp : p < n) : put f p b < 2 ^ n := bit_lt fun i hi => by
  rw [put_bit] at hi
  by_cases e : i = p
  · rw [e]
    exact hp
  · rw [if_neg e] at hi
    exact lt_bit h hi
theorem put_an (f p : Nat) (b : Bool) : an f (2 ^ p) ||| (if b = true then 2 ^ p else 0) = put f p b := by
  apply Nat.eq_of_testBit_eq
  intro i
  rw [put_bit, Nat.testBit_or, an_bit, Nat.testBit_two_pow]
  by_cases e : i = p
  · rw [if_pos e, decide_eq_true e.symm]
    cases b
    · simp
    · rw [if_pos rfl, Nat.testBit_two_pow, decide_eq_true e.symm]
      simp
  · rw [if_neg e, decide_eq_false (fun q => e q.symm)]
    cases b
    · simp
    · rw [if_pos rfl, Nat.testBit_two_pow, decide_eq_false (fun q => e q.symm)]
      simp
theorem put_or (f t p : Nat) (v : Nat) (hv : v < 3) : put (f ||| t) p (v != 2) = put f p (v == 1) ||| put t p (v == 0) := by
  apply Nat.eq_of_testBit_eq
  intro i
  rw [Nat.testBit_or, put_bit, put_bit, put_bit]
  by_cases e : i = p
  · rw [if_pos e, if_pos e, if_pos e]
    rcases (by omega : v = 0 ∨ v = 1 ∨ v = 2) with rfl | rfl | rfl <;> rfl
  · rw [if_neg e, if_neg e, if_neg e, Nat.testBit_or]
theorem put_and {f t p : Nat} (v : Nat) (d : f &&& t = 0) : put f p (v == 1) &&& put t p (v == 0) = 0 := by
  apply and_nil.mpr
  rintro i ⟨a, b⟩
  rw [put_bit] at a b
  by_cases e : i = p
  · rw [if_pos e] at a b
    rw [beq_iff_eq] at a b
    omega
  · rw [if_neg e] at a b
    exact and_nil.mp d i ⟨a, b⟩
def Bd (g f t : Nat) : Prop := 1 ≤ g ∧ g ≤ 7 ∧ f < 2 ^ c2 g ∧ t < 2 ^ c2 g ∧ f &&& t = 0
def TaC (g f t : Nat) (h : xH) : Prop := Shp h ∧ hI h 7 1 = nI g ∧ hI h 7 2 = nI f ∧ hI h 7 3 = nI t
def TaM (g f t : Nat) (h : xH) : Prop := Shp h ∧ hI h 36 7 = nI g ∧ hI h 36 8 = nI f ∧ hI h 36 9 = nI (f ||| t)
/-- what meet answers, and the table behind it -/
def mtr (g f t : Nat) (i k v : Int32) : Int32 := if ipr g i k = true ∧ inr v 2 = true then nI (lkv f t (prs i.toNatClampNeg k.toNatClampNeg)) else -2
def mtf (g f : Nat) (i k v : Int32) : Nat := if ipr g i k = true ∧ inr v 2 = true then put f (prs i.toNatClampNeg k.toNatClampNeg) (v.toNatClampNeg == 1) else f
def mtt (g t : Nat) (i k v : Int32) : Nat := if ipr g i k = true ∧ inr v 2 = true then put t (prs i.toNatClampNeg k.toNatClampNeg) (v.toNatClampNeg == 0) else t
theorem mt_Bd {g f t : Nat} (b : Bd g f t) (i k v : Int32) : Bd g (mtf g f i k v) (mtt g t i k v) := by
  obtain ⟨b1, b2, b3, b4, b5⟩ := b
  unfold mtf mtt
  by_cases c : ipr g i k = true ∧ inr v 2 = true
  · rw [if_pos c, if_pos c]
    obtain ⟨x, y, hx, hy, hxy, rfl, rfl⟩ := ipr_ex b1 b2 c.1
    rw [nI_clamp (by omega), nI_clamp (by omega)]
    have := prs_lt g b2 x hx y hy hxy
    exact ⟨b1, b2, put_lt b3 this, put_lt b4 this, put_and _ b5⟩
  · rw [if_neg c, if_neg c]
    exact ⟨b1, b2, b3, b4, b5⟩
def dTC (p k : Nat) : Bool := !(decide (p = 7) && (decide (k = 2) || decide (k = 3)))
def dTM (p k : Nat) : Bool := !(decide (p = 36) && (decide (k = 8) || decide (k = 9)))
section P45
variable {h : xH}
theorem Ma_meet_e {g f t : Nat} (b : Bd g f t) (C : TaC g f t h) (i k v : Int32) : ∃ h', f_Ma_meet 1 i k v h = some (mtr g f t i k v, h') ∧ TaC g (mtf g f i k v) (mtt g t i k v) h' ∧ Fr dTC h h' := by
  obtain ⟨g1, g7, hf, ht, hd⟩ := b
  obtain ⟨s, e1, e2, e3⟩ := C
  have f31 := lt3 (lt24 g7 hf)
  have t31 := lt3 (lt24 g7 ht)
  cases c1 : ipr g i k with
  | false =>
    refine ⟨h, ?_, ?_, Fr.refl h⟩
    · unfold mtr
      rw [c1, if_neg (by simp)]
      simp only [f_Ma_meet, jn, gd, if_true, bind_s, shp s, Ma_pairNumber_no s g1 g7 e1 c1]
      rw [if_pos li_m1]
    · unfold mtf mtt
      rw [c1, if_neg (by simp), if_neg (by simp)]
      exact ⟨s, e1, e2, e3⟩
  | true =>
    obtain ⟨x, y, hx, hy, hxy, rfl, rfl⟩ := ipr_ex g1 g7 c1
    have hp := prs_lt g g7 x hx y hy hxy
    have hc := c2_le g g7
    cases c2' : inr v 2 with
    | false =>
      refine ⟨h, ?_, ?_, Fr.refl h⟩
      · unfold mtr
        rw [c2', if_neg (by simp)]
        simp only [f_Ma_meet, jn, gd, if_true, bind_s, shp s, Ma_pairNumber_y s g1 g7 e1 hx hy hxy]
        rw [if_neg (nI_pos (by omega))]
        rcases inr_no (by decide) c2' with c | ⟨c, c3⟩
        · rw [if_pos c]
        · rw [if_neg c, if_neg (show ¬ v ≤ (2 : Int32) from (fa_of_lt c3).2.1)]
      · unfold mtf mtt
        rw [c2', if_neg (by simp), if_neg (by simp)]
        exact ⟨s, e1, e2, e3⟩
    | true =>
      obtain ⟨w, hw, rfl⟩ := inr_ex (by decide) c2'
      unfold mtr mtf mtt
      rw [if_pos ⟨c1, c2'⟩, if_pos ⟨c1, c2'⟩, if_pos ⟨c1, c2'⟩, nI_clamp (show x < 2 ^ 31 by omega), nI_clamp (show y < 2 ^ 31 by omega), nI_clamp (show w < 2 ^ 31 by omega)]
      refine ⟨hIu (hIu h 7 2 (nI (put f (prs x y) (w == 1)))) 7 3 (nI (put t (prs x y) (w == 0))), ?_, ⟨s, ?_, ?_, ?_⟩, ((Fr.refl h).I rfl).I rfl⟩
      · have P1 : ∀ z, nI z ||| jShl (1 : Int32) (nI (prs x y)) = nI (z ||| 2 ^ prs x y) := fun z => by rw [ss _ (by omega), fa_or]
        have P2 : ∀ z, nI z &&& (jShl (1 : Int32) (nI (prs x y)) ^^^ (-1 : Int32)) = nI (an z (2 ^ prs x y)) := fun z => by rw [ss _ (by omega), an_I]
        simp only [f_Ma_meet, f_Ta_put, jn, gd, if_true, bind_s, shp s, Ma_pairNumber_y s g1 g7 e1 hx hy hxy, Ta_look_n s f31 t31 e2 e3 (show prs x y < 31 by omega)]
        rw [if_neg (nI_pos (by omega)), if_neg (nI_pos (by omega)), if_pos (show nI w ≤ (2 : Int32) from nI_le hw (by decide))]
        have q3 : ∀ z, hI (hIu h 7 2 z) 7 3 = nI t := fun z => by rw [iI, if_neg (by omega), e3]
        rcases (by omega : w = 0 ∨ w = 1 ∨ w = 2) with rfl | rfl | rfl
        · simp only [if_neg (show ¬ nI 0 = (1 : Int32) by decide), if_pos nI_0, q3, e2, P1, P2]
          rfl
        · simp only [if_pos (show nI 1 = (1 : Int32) from rfl), if_neg (show ¬ nI 1 = (0 : Int32) by decide), q3, e2, P1, P2]
          rfl
        · simp only [if_neg (show ¬ nI 2 = (1 : Int32) by decide), if_neg (show ¬ nI 2 = (0 : Int32) by decide), q3, e2, P2]
          rfl
      · rw [iI, if_neg (by omega), iI, if_neg (by omega), e1]
      · rw [iI, if_neg (by omega), iI, if_pos ⟨rfl, rfl⟩]
      · rw [iI, if_pos ⟨rfl, rfl⟩]
theorem Mo_meet_e {g f t : Nat} (b : Bd g f t) (C : TaM g f t h) (i k v : Int32) : ∃ h', f_Mo_meet 36 i k v h = some (mtr g f t i k v, h') ∧ TaM g (mtf g f i k v) (mtt g t i k v) h' ∧ Fr dTM h h' := by
  obtain ⟨g1, g7, hf, ht, hd⟩ := b
  obtain ⟨s, e1, e2, e3⟩ := C
  have f31 := lt3 (lt24 g7 hf)
  have t31 := lt3 (lt24 g7 ht)
  cases c1 : ipr g i k with
  | false =>
    refine ⟨h, ?_, ?_, Fr.refl h⟩
    · unfold mtr
      rw [c1, if_neg (by simp)]
      simp only [f_Mo_meet, jn, gd, if_true, bind_s, shp s, Mo_isPair_n s g1 g7 e1, c1, b2i_f]
    · unfold mtf mtt
      rw [c1, if_neg (by simp), if_neg (by simp)]
      exact ⟨s, e1, e2, e3⟩
  | true =>
    obtain ⟨x, y, hx, hy, hxy, rfl, rfl⟩ := ipr_ex g1 g7 c1
    have hp' := prs_lt g g7 x hx y hy hxy
    have hc := c2_le g g7
    cases c2' : inr v 2 with
    | false =>
      refine ⟨h, ?_, ?_, Fr.refl h⟩
      · unfold mtr
        rw [c2', if_neg (by simp)]
        simp only [f_Mo_meet, jn, gd, if_true, bind_s, shp s, Mo_isPair_n s g1 g7 e1, c1, b2i_t, i10, if_false, Mo_in_2, c2', b2i_f]
      · unfold mtf mtt
        rw [c2', if_neg (by simp), if_neg (by simp)]
        exact ⟨s, e1, e2, e3⟩
    | true =>
      obtain ⟨w, hw, rfl⟩ := inr_ex (by decide) c2'
      unfold mtr mtf mtt
      rw [if_pos ⟨c1, c2'⟩, if_pos ⟨c1, c2'⟩, if_pos ⟨c1, c2'⟩, nI_clamp (show x < 2 ^ 31 by omega), nI_clamp (show y < 2 ^ 31 by omega), nI_clamp (show w < 2 ^ 31 by omega)]
      refine ⟨hIu (hIu h 36 8 (nI (put f (prs x y) (w == 1)))) 36 9 (nI (put (f ||| t) (prs x y) (w != 2))), ?_, ⟨s, ?_, ?_, ?_⟩, ((Fr.refl h).I rfl).I rfl⟩
      · have P2 : ∀ (z : Nat) (b : Bool), nI z &&& (jShl (1 : Int32) (nI (prs x y)) ^^^ (-1 : Int32)) ||| jShl (b2i b) (nI (prs x y)) = nI (put z (prs x y) b) := fun z b => by rw [ss _ (by omega), an_I, shl_b (by omega), fa_or, put_an]
        have w1 : (if nI w = (1 : Int32) then (1 : Int32) else (0 : Int32)) = b2i (w == 1) := by
          rcases (by omega : w = 0 ∨ w = 1 ∨ w = 2) with rfl | rfl | rfl <;> rfl
        have w2 : (if nI w = (2 : Int32) then (0 : Int32) else (1 : Int32)) = b2i (w != 2) := by
          rcases (by omega : w = 0 ∨ w = 1 ∨ w = 2) with rfl | rfl | rfl <;> rfl
        have q3 : ∀ z, hI (hIu h 36 8 z) 36 9 = nI (f ||| t) := fun z => by rw [iI, if_neg (by omega), e3]
        simp only [f_Mo_meet, jn, gd, hp, if_true, bind_s, shp s, Mo_isPair_n s g1 g7 e1, c1, b2i_t, i10, if_false, Mo_in_2, c2', Mo_seat_n (show x < 7 by omega) (show y < 7 by omega), Mo_pairAt_n s f31 t31 e2 e3 (show prs x y < 31 by omega), w1, w2, e2, P2, q3]
      · rw [iI, if_neg (by omega), iI, if_neg (by omega), e1]
      · rw [iI, if_neg (by omega), iI, if_pos ⟨rfl, rfl⟩]
      · rw [iI, if_pos ⟨rfl, rfl⟩, put_or _ _ _ _ (by omega)]
end P45
theorem dTC_tb {p k : Nat} (h : dTb p k = true) : dTC p k = true := by
  simp [dTb] at h
  simp [dTC]
  omega
theorem dTM_tb {p k : Nat} (h : dTb p k = true) : dTM p k = true := by
  simp [dTb] at h
  simp [dTM]
  omega
theorem TaM_fr {D : Nat → Nat → Bool} {g f t : Nat} {h h' : xH} (n : 51 ≤ hN h) (s : Shp h') (x : Fr D h h') (d : ∀ k, 7 ≤ k → k ≤ 9 → D 36 k = true) (C : TaM g f t h) : TaM g f t h' := ⟨s, (((x.2 36 (by omega)).2.2 7 (d 7 (by omega) (by omega))).1).trans C.2.1, (((x.2 36 (by omega)).2.2 8 (d 8 (by omega) (by omega))).1).trans C.2.2.1, (((x.2 36 (by omega)).2.2 9 (d 9 (by omega) (by omega))).1).trans C.2.2.2⟩
theorem TaC_fr {D : Nat → Nat → Bool} {g f t : Nat} {h h' : xH} (n : 51 ≤ hN h) (s : Shp h') (x : Fr D h h') (d : ∀ k, D 7 k = true) (C : TaC g f t h) : TaC g f t h' := ⟨s, (((x.2 7 (by omega)).2.2 1 (d 1)).1).trans C.2.1, (((x.2 7 (by omega)).2.2 2 (d 2)).1).trans C.2.2.1, (((x.2 7 (by omega)).2.2 3 (d 3)).1).trans C.2.2.2⟩
theorem Y_meet : Sp_meet Inv := by
  intro i k v h I
  obtain ⟨g, f, t, n, r, T, j⟩ := I
  have j0 := j
  obtain ⟨sh, hn, z, ⟨⟨g1, g7, hf, ht, hd⟩, e1, e2, e3, m1, m2, m3⟩, jk, jw, jp, js, jst, jx, jr⟩ := j0
  have f24 := lt24 g7 hf
  have t24 := lt24 g7 ht
  have f31 := lt3 f24
  have t31 := lt3 t24
  have s36 : hK h 36 = 11 := by simp only [shp sh]
  have B : Bd g f t := ⟨g1, g7, hf, ht, hd⟩
  obtain ⟨h1, a1, a2, a3⟩ := Ma_meet_e B ⟨sh, e1, e2, e3⟩ i k v
  obtain ⟨h2, b1, b2, b3⟩ := Mo_meet_e B (TaM_fr hn a2.1 a3 (fun k _ _ => rfl) ⟨sh, m1, m2, m3⟩) i k v
  have c := TaC_fr (Nat.le_trans hn a3.1) b2.1 b3 (fun k => rfl) a2
  refine ⟨_, h1, h2, a1, by simp only [shp a2.1], b1, ⟨g, _, _, n, r, T, J_tb b2.1 ((a3.mono (fun p k => dTC_tb)).trans (b3.mono (fun p k => dTM_tb))) j ⟨mt_Bd B i k v, c.2.1, c.2.2.1, c.2.2.2, b2.2.1, b2.2.2.1, b2.2.2.2⟩⟩⟩
/-! guests, rules and images: the threes weighed anew -/
def dSi (p k : Nat) : Bool := !(decide (p = 7) || (decide (p = 36) && decide (7 ≤ k) && decide (k ≤ 9)) || decide (p = 9) || decide (p = 10) || (decide (p = 8) && (decide (k = 4) || decide (k = 5))) || decide (p = 12) || decide (p = 13) || (decide (p = 11) && decide (k = 3)) || (decide (p = 1) && decide (k = 13)) || (decide (p = 36) && decide (k = 4)))
theorem J_si {h h' : xH} {g f s n r g' f' s' r' : Nat} {T : Nat → Nat → (Nat → Int32) → Int32} (sh : Shp h') (x : Fr dSi h h') (j : J g f s n r T h) (jt : Jtab g' f' s' h') (js : Jst g' r' T h') (jr : Jrule n r' h') : J g' f' s' n r' T h' := by
  obtain ⟨-, a, b1, b2, b3, b4, b5, b6, b7, b8, b9⟩ := j
  exact ⟨sh, Nat.le_trans a x.1, J_seat a x (fun p k h1 h2 => by simp [dSi]; omega) b1, jt, J_kept a x rfl (fun k => rfl) (fun k h1 h2 => by simp [dSi]; omega) b3, J_town a x rfl rfl (fun k => ⟨rfl, rfl, rfl⟩) (fun p k hp => by simp [dSi]; omega) b4, J_tape a x rfl rfl (fun k => ⟨rfl, rfl⟩) b5, J_sheet a x (fun p k h1 h2 => by simp [dSi]; omega) (fun p k h1 h2 => by simp [dSi]; omega) b6, js, J_text a x rfl rfl (fun k => ⟨rfl, rfl, rfl⟩) (fun p k h1 h2 => by simp [dSi]; omega) (fun p k hp => by simp [dSi]; omega) b8, jr⟩
theorem dWg_si {p k : Nat} (h : dSi p k = true) : dWg p k = true := by
  simp [dSi] at h
  simp [dWg]
  omega
/-- the class lays the table, follows a text and weighs the threes -/
theorem Ma_useText_e {h : xH} {g n r : Nat} {T : Nat → Nat → (Nat → Int32) → Int32} (s : Shp h) (n51 : 51 ≤ hN h) (z : Jseat h) (g7 : g ≤ 7) (e1 : hI h 7 1 = nI g) (jx : Jtext n T h) (hr : r < n) : ∃ h', f_Ma_useText 1 (nI r) h = some ((), h') ∧ Shp h' ∧ Fr dSi h h' ∧ (∀ p k, p = 7 ∨ p = 36 → hI h' p k = hI h p k) ∧ Jst g r T h' ∧ hI h' 1 13 = nI r ∧ hR h' 8 5 = hR h' 21 r := by
  obtain ⟨x1, x2, x3, x4, x5, x6⟩ := jx
  have F0 : Fr dSi h (hRu (hIu h 1 13 (nI r)) 8 5 (hR h 21 r)) := ((Fr.refl h).I rfl).R rfl
  have s0 : Shp (hRu (hIu h 1 13 (nI r)) 8 5 (hR h 21 r)) := by
    have s2 := s
    unfold Shp at s2 ⊢
    simp (disch := omega) only [kR, lR, rR, kI, lI, rI, if_neg]
    exact s2
  have q21 : ∀ q, hR (hRu (hIu h 1 13 (nI r)) 8 5 (hR h 21 r)) 21 q = hR h 21 q := fun q => by rw [rR, if_neg (by omega), rI]
  have R : RdC g r T (hRu (hIu h 1 13 (nI r)) 8 5 (hR h 21 r)) := ⟨s0, n51, J_seat n51 F0 (fun p k h1 h2 => by simp [dSi]; omega) z, ⟨g7, by rw [iR, iI, if_neg (by omega), e1]⟩, x5, J_tcl n51 F0 rfl (fun p k h1 h2 => by simp [dSi]; omega) (fun p k h1 => by simp [dSi]; omega) (x6 r hr).1, by rw [q21, rR, if_pos ⟨rfl, rfl⟩]⟩
  obtain ⟨h', a1, a2, a3, a4⟩ := St_weigh_e R
  refine ⟨h', ?_, a2, F0.trans (a3.mono (fun p k => dWg_si)), ?_, a4, ?_, ?_⟩
  · simp only [f_Ma_useText, jn]
    rw [if_neg (nI_pos (by omega)), if_pos (show nI r < (6 : Int32) from nI_lt (b := 6) (by omega) (by decide))]
    simp only [gd, shp s, if_true, if_pos (nin (show r < 6 by omega) (by omega)), kI, nI_clamp (show r < 2 ^ 31 by omega), f_Ru_follow, bind_s, shp s0, kR, iR, iI, if_neg (show ¬ ((7 : Nat) = 1 ∧ (1 : Nat) = 13) by omega), e1, a1, rI]
  · rintro p k (rfl | rfl)
    · rw [((a3.2 7 (by show 7 < hN h; omega)).2.2 k rfl).1, iR, iI, if_neg (by omega)]
    · rw [((a3.2 36 (by show 36 < hN h; omega)).2.2 k rfl).1, iR, iI, if_neg (by omega)]
  · rw [((a3.2 1 (by show 1 < hN h; omega)).2.2 13 rfl).1, iR, iI, if_pos ⟨rfl, rfl⟩]
  · rw [((a3.2 8 (by show 8 < hN h; omega)).2.2 5 rfl).2, ((a3.2 21 (by show 21 < hN h; omega)).2.2 r rfl).2, q21, rR, if_pos ⟨rfl, rfl⟩]
theorem Y_force : Sp_force Inv := by
  intro x h I
  obtain ⟨g, f, t, n, r, T, j⟩ := I
  have j0 := j
  obtain ⟨sh, hn, z, ⟨⟨g1, g7, hf, ht, hd⟩, e1, e2, e3, m1, m2, m3⟩, jk, jw, jp, js, jst, jx, jr⟩ := j0
  have f24 := lt24 g7 hf
  have t24 := lt24 g7 ht
  have f31 := lt3 f24
  have t31 := lt3 t24
  have s36 : hK h 36 = 11 := by simp only [shp sh]
  have jx0 := jx
  obtain ⟨x1, x2, x3, x4, -⟩ := jx0
  have m3' : hI h 36 3 - (1 : Int32) = nI (n - 1) := by rw [x4, k1, li_sub x1]
  cases cx : inr x (n - 1) with
  | false =>
    refine ⟨-2, h, h, ?_, s36, ?_, ⟨g, f, t, n, r, T, j⟩⟩
    · simp only [f_Ma_force, jn, gd, shp sh, if_true, x3]
      rcases inr_no (by omega) cx with c | ⟨c, c2⟩
      · rw [if_pos c]
      · rw [if_neg c, if_neg]
        obtain ⟨y, hy, rfl⟩ := nI_of c
        rw [nI_ltI (by omega) hy] at c2
        rw [nI_ltI hy (by omega)]
        omega
    · simp only [f_Mo_force, gd, shp sh, if_true, m3', Mo_in_0, cx, bind_s, b2i_f]
  | true =>
    obtain ⟨y, hy, rfl⟩ := inr_ex (by omega) cx
    obtain ⟨h1, a1, a2, a3, a4, a5, a6, a7⟩ := Ma_useText_e (r := y) sh hn z g7 e1 jx (by omega)
    have n1 : 51 ≤ hN h1 := Nat.le_trans hn a3.1
    have s2 : Shp (hIu h1 36 4 (nI y)) := a2
    have xx : Fr dSi h (hIu h1 36 4 (nI y)) := a3.I rfl
    have ia : ∀ p k, ¬ (p = 36 ∧ k = 4) → hI (hIu h1 36 4 (nI y)) p k = hI h1 p k := fun p k q => by rw [iI, if_neg q]
    refine ⟨nI r, h1, hIu h1 36 4 (nI y), ?_, by simp only [shp a2], ?_, ⟨g, f, t, n, y, T, J_si s2 xx j ⟨⟨g1, g7, hf, ht, hd⟩, ?_, ?_, ?_, ?_, ?_, ?_⟩ ?_ ⟨by omega, ?_, ?_, a7⟩⟩⟩
    · simp only [f_Ma_force, jn, gd, shp sh, if_true, x3]
      rw [if_neg (nI_pos (by omega)), if_pos (nI_lt (by omega) (by omega)), a1, bind_s, jr.2.1]
    · have q4 : hI h1 36 4 = nI r := (a4 36 4 (Or.inr rfl)).trans jr.2.2.1
      have q3 : hI h1 36 3 - (1 : Int32) = nI (n - 1) := by rw [a4 36 3 (Or.inr rfl), m3']
      simp only [f_Mo_force, gd, shp a2, if_true, q3, Mo_in_0, cx, bind_s, b2i_t, i10, if_false, q4]
    · rw [ia _ _ (by omega), a4 _ _ (Or.inl rfl), e1]
    · rw [ia _ _ (by omega), a4 _ _ (Or.inl rfl), e2]
    · rw [ia _ _ (by omega), a4 _ _ (Or.inl rfl), e3]
    · rw [ia _ _ (by omega), a4 _ _ (Or.inr rfl), m1]
    · rw [ia _ _ (by omega), a4 _ _ (Or.inr rfl), m2]
    · rw [ia _ _ (by omega), a4 _ _ (Or.inr rfl), m3]
    · exact ⟨(ia _ _ (by omega)).trans a5.1, fun i jj k b1 b2 b3 => ⟨(ia _ _ (by omega)).trans (a5.2 i jj k b1 b2 b3).1, (ia _ _ (by omega)).trans (a5.2 i jj k b1 b2 b3).2⟩⟩
    · rw [ia _ _ (by omega), a6]
    · rw [iI, if_pos ⟨rfl, rfl⟩]
theorem q7 : (7 : Int64) = (nI 7).toInt64 := by decide
theorem z0t {g : Nat} : 0 ||| (2 ^ c2 g - 1) = 2 ^ c2 g - 1 := Nat.zero_or _
theorem Y_sit : Sp_sit Inv := by
  intro x h I
  obtain ⟨g, f, t, n, r, T, j⟩ := I
  have j0 := j
  obtain ⟨sh, hn, z, ⟨⟨g1, g7, hf, ht, hd⟩, e1, e2, e3, m1, m2, m3⟩, jk, jw, jp, js, jst, jx, jr⟩ := j0
  have f24 := lt24 g7 hf
  have t24 := lt24 g7 ht
  have f31 := lt3 f24
  have t31 := lt3 t24
  have s36 : hK h 36 = 11 := by simp only [shp sh]
  have MI : f_Mo_in x.toInt64 (1 : Int64) (7 : Int64) = fun h => some (if x < nI 1 then nI 0 else if nI 7 < x then nI 0 else nI 1, h) := by
    funext h
    rw [q1, q7, Mo_in_c]
  by_cases c : ¬ x < nI 1 ∧ ¬ nI 7 < x
  · have c0 : ¬ x < 0 := fun q => c.1 (by rw [fa_lt] at *; rw [nI_toInt (by decide)]; have : (0 : Int32).toInt = 0 := rfl; omega)
    obtain ⟨y, hy, rfl⟩ := nI_of c0
    have y1 : 1 ≤ y := by have := c.1; rw [nI_ltI hy (by decide)] at this; omega
    have y7 : y ≤ 7 := by have := c.2; rw [nI_ltI (by decide) hy] at this; omega
    have F0 : Fr dSi h (hIu (hIu (hIu h 7 1 (nI y)) 7 2 (0 : Int32)) 7 3 (nI (2 ^ c2 y - 1))) := (((Fr.refl h).I rfl).I rfl).I rfl
    have jx0 := jx
    obtain ⟨x1, x2, x3, x4, x5, x6⟩ := jx0
    have R : RdC y r T (hIu (hIu (hIu h 7 1 (nI y)) 7 2 (0 : Int32)) 7 3 (nI (2 ^ c2 y - 1))) := ⟨sh, hn, J_seat hn F0 (fun p k h1 h2 => by simp [dSi]; omega) z, ⟨y7, by rw [iI, if_neg (by omega), iI, if_neg (by omega), iI, if_pos ⟨rfl, rfl⟩]⟩, x5, J_tcl hn F0 rfl (fun p k h1 h2 => by simp [dSi]; omega) (fun p k h1 => by simp [dSi]; omega) (x6 r jr.1).1, jr.2.2.2⟩
    obtain ⟨h1, a1, a2, a3, a4⟩ := St_weigh_e R
    have n1 : 51 ≤ hN h1 := Nat.le_trans hn a3.1
    have sN : 51 ≤ hN (hIu (hIu (hIu h 7 1 (nI y)) 7 2 (0 : Int32)) 7 3 (nI (2 ^ c2 y - 1))) := hn
    have E : ∀ p k, dWg p k = true → p < 51 → hI h1 p k = hI (hIu (hIu (hIu h 7 1 (nI y)) 7 2 (0 : Int32)) 7 3 (nI (2 ^ c2 y - 1))) p k ∧ hR h1 p k = hR h p k := fun p k d q => (a3.2 p (by omega)).2.2 k d
    have A : f_Ma_sit 1 (nI y) h = some (nI g, h1) := by
      have p1 : ¬ nI y < (1 : Int32) := nI_nlt y1 (by omega)
      have p2 : nI y ≤ (7 : Int32) := nI_le y7 (by decide)
      have pe : f_Ta_everyPair 7 (hIu h 7 1 (nI y)) = some (nI (2 ^ c2 y - 1), hIu h 7 1 (nI y)) := Ta_everyPair_n (h := hIu h 7 1 (nI y)) sh (J_seat (D := dSi) hn ((Fr.refl h).I rfl) (fun p k h1 h2 => by simp [dSi]; omega) z) y7 (by rw [iI, if_pos ⟨rfl, rfl⟩])
      simp only [f_Ma_sit, f_Ta_lay, f_Ta_layBits, jn, gd, kI, rI, shp sh, if_true, if_neg p1, if_pos p2, pe, bind_s, a1, e1]
    have M7 : hI h1 36 7 = nI g := by
      rw [(E 36 7 rfl (by omega)).1, iI, if_neg (by omega), iI, if_neg (by omega), iI, if_neg (by omega), m1]
    have B : f_Mo_sit 36 (nI y) h1 = some (nI g, hIu (hIu (hIu h1 36 7 (nI y)) 36 8 (0 : Int32)) 36 9 (nI (2 ^ c2 y - 1))) := by
      simp only [f_Mo_sit, MI, if_neg c.1, if_neg c.2, bind_s, gd, kI, shp a2, if_true, M7, iI]
      rw [if_neg (show ¬ nI 1 = (0 : Int32) by decide), if_neg (by omega), if_pos (by simp), Mo_allOf_n y7]
      simp only [bind_s, kI, shp a2, if_true]
    have ia : ∀ p k, ¬ (p = 36 ∧ 7 ≤ k ∧ k ≤ 9) → hI (hIu (hIu (hIu h1 36 7 (nI y)) 36 8 (0 : Int32)) 36 9 (nI (2 ^ c2 y - 1))) p k = hI h1 p k := fun p k q => by rw [iI, if_neg (by omega), iI, if_neg (by omega), iI, if_neg (by omega)]
    have pw := Nat.two_pow_pos (c2 y)
    refine ⟨nI g, h1, _, A, by simp only [shp a2], B, ⟨y, 0, 2 ^ c2 y - 1, n, r, T, J_si a2 (((F0.trans (a3.mono (fun p k => dWg_si))).I rfl).I rfl |>.I rfl) j ⟨⟨y1, y7, by omega, by omega, Nat.zero_and _⟩, ?_, ?_, ?_, ?_, ?_, ?_⟩ ⟨?_, ?_⟩ ⟨jr.1, ?_, ?_, ?_⟩⟩⟩
    · rw [ia _ _ (by omega), (E 7 1 rfl (by omega)).1, iI, if_neg (by omega), iI, if_neg (by omega), iI, if_pos ⟨rfl, rfl⟩]
    · rw [ia _ _ (by omega), (E 7 2 rfl (by omega)).1, iI, if_neg (by omega), iI, if_pos ⟨rfl, rfl⟩]
      rfl
    · rw [ia _ _ (by omega), (E 7 3 rfl (by omega)).1, iI, if_pos ⟨rfl, rfl⟩]
    · rw [iI, if_neg (by omega), iI, if_neg (by omega), iI, if_pos ⟨rfl, rfl⟩]
    · rw [iI, if_neg (by omega), iI, if_pos ⟨rfl, rfl⟩]
      rfl
    · rw [iI, if_pos ⟨rfl, rfl⟩, z0t]
    · exact (ia _ _ (by omega)).trans a4.1
    · exact fun i jj k b1 b2 b3 => ⟨(ia _ _ (by omega)).trans (a4.2 i jj k b1 b2 b3).1, (ia _ _ (by omega)).trans (a4.2 i jj k b1 b2 b3).2⟩
    · rw [ia _ _ (by omega), (E 1 13 rfl (by omega)).1, iI, if_neg (by omega), iI, if_neg (by omega), iI, if_neg (by omega), jr.2.1]
    · rw [ia _ _ (by omega), (E 36 4 rfl (by omega)).1, iI, if_neg (by omega), iI, if_neg (by omega), iI, if_neg (by omega), jr.2.2.1]
    · show hR h1 8 5 = hR h1 21 r
      rw [(E 8 5 rfl (by omega)).2, (E 21 r rfl (by omega)).2, jr.2.2.2]
  · refine ⟨-2, h, h, ?_, s36, ?_, ⟨g, f, t, n, r, T, j⟩⟩
    · simp only [f_Ma_sit, jn]
      by_cases c1 : x < (1 : Int32)
      · rw [if_pos c1]
      · rw [if_neg c1, if_neg]
        intro c2
        exact c ⟨c1, fun q => (fa_of_lt q).2.1 c2⟩
    · simp only [f_Mo_sit, MI, bind_s]
      rw [if_pos]
      by_cases c1 : x < nI 1
      · rw [if_pos c1]
        rfl
      · rw [if_neg c1, if_pos]
        · rfl
        · apply Classical.byContradiction
          intro q
          exact c ⟨c1, q⟩
theorem Y_back : Sp_back Inv := by
  intro h I
  obtain ⟨g, f, t, n, r, T, j⟩ := I
  have j0 := j
  obtain ⟨sh, hn, z, ⟨⟨g1, g7, hf, ht, hd⟩, e1, e2, e3, m1, m2, m3⟩, jk, jw, jp, js, jst, jx, jr⟩ := j0
  have f24 := lt24 g7 hf
  have t24 := lt24 g7 ht
  have f31 := lt3 f24
  have t31 := lt3 t24
  have s36 : hK h 36 = 11 := by simp only [shp sh]
  have jx0 := jx
  obtain ⟨x1, x2, x3, x4, x5, x6⟩ := jx0
  rcases jk with ⟨k1', k2'⟩ | ⟨g', r', f', t', b, k0', k1', k2', k3', k4', k5', k6', k7', k8'⟩
  · refine ⟨-3, h, h, ?_, s36, ?_, ⟨g, f, t, n, r, T, j⟩⟩
    · simp only [f_Ma_back, gd, shp sh, if_true, k1']
      rw [if_neg (by decide)]
    · simp only [f_Mo_back, gd, shp sh, if_true, k2']
  · obtain ⟨b1, b2, b3, b4, b5⟩ := b
    have F0 : Fr dSi h (hIu (hIu (hIu h 7 1 (nI g')) 7 2 (nI f')) 7 3 (nI t')) := (((Fr.refl h).I rfl).I rfl).I rfl
    have jx2 : Jtext n T (hIu (hIu (hIu h 7 1 (nI g')) 7 2 (nI f')) 7 3 (nI t')) := J_text hn F0 rfl rfl (fun k => ⟨rfl, rfl, rfl⟩) (fun p k h1 h2 => by simp [dSi]; omega) (fun p k hp => by simp [dSi]; omega) jx
    obtain ⟨h1, a1, a2, a3, a4, a5, a6, a7⟩ := Ma_useText_e (h := hIu (hIu (hIu h 7 1 (nI g')) 7 2 (nI f')) 7 3 (nI t')) (g := g') (r := r') sh hn (J_seat hn F0 (fun p k h1 h2 => by simp [dSi]; omega) z) b2 (by rw [iI, if_neg (by omega), iI, if_neg (by omega), iI, if_pos ⟨rfl, rfl⟩]) jx2 k0'
    have n1 : 51 ≤ hN h1 := Nat.le_trans hn a3.1
    have E7 : ∀ k, hI h1 7 k = if k = 3 then nI t' else if k = 2 then nI f' else if k = 1 then nI g' else hI h 7 k := by
      intro k
      rw [a4 7 k (Or.inl rfl), iI, iI, iI]
      simp only [true_and]
    have E36 : ∀ k, hI h1 36 k = hI h 36 k := fun k => by
      rw [a4 36 k (Or.inr rfl), iI, if_neg (by omega), iI, if_neg (by omega), iI, if_neg (by omega)]
    have A : f_Ma_back 1 h = some (nI g', h1) := by
      simp only [f_Ma_back, f_Ta_layAs, f_Ta_layBits, gd, kI, rI, shp sh, if_true, k1', if_pos (nI_pos' (show r' < 2 ^ 31 by omega)), bind_s, k2']
      have y2 : hI (hIu h 7 1 (nI g')) 32 2 = nI f' := by rw [iI, if_neg (by omega), k3']
      have y3 : hI (hIu h 7 1 (nI g')) 32 3 = nI t' := by rw [iI, if_neg (by omega), k4']
      have y4 : hI (hIu (hIu (hIu h 7 1 (nI g')) 7 2 (nI f')) 7 3 (nI t')) 1 14 = nI r' := by rw [iI, if_neg (by omega), iI, if_neg (by omega), iI, if_neg (by omega), k1']
      rw [y2, y3, y4, a1]
      simp only [bind_s, shp a2, if_true, E7]
      rfl
    have B : f_Mo_back 36 h1 = some (nI g', hIu (hIu (hIu (hIu h1 36 7 (nI g')) 36 8 (nI f')) 36 9 (nI (f' ||| t'))) 36 4 (nI r')) := by
      have z1 : ¬ nI g' = (-1 : Int32) := fun q => nI_pos (n := g') (by omega) (by rw [q]; decide)
      have u1 := (E36 37).trans k5'
      have u2 := (E36 38).trans k6'
      have u3 := (E36 39).trans k7'
      have u4 := (E36 40).trans k8'
      simp only [f_Mo_back, gd, hp, shp a2, if_true, u1, if_neg z1]
      simp (disch := omega) only [iI, if_neg, u2, u3, u4, if_true, and_self]
    have ia : ∀ p k, ¬ (p = 36 ∧ 7 ≤ k ∧ k ≤ 9) → ¬ (p = 36 ∧ k = 4) → hI (hIu (hIu (hIu (hIu h1 36 7 (nI g')) 36 8 (nI f')) 36 9 (nI (f' ||| t'))) 36 4 (nI r')) p k = hI h1 p k := fun p k q q2 => by rw [iI, if_neg q2, iI, if_neg (by omega), iI, if_neg (by omega), iI, if_neg (by omega)]
    refine ⟨nI g', h1, _, A, by simp only [shp a2], B, ⟨g', f', t', n, r', T, J_si a2 ((((F0.trans a3).I rfl).I rfl |>.I rfl).I rfl) j ⟨⟨b1, b2, b3, b4, b5⟩, ?_, ?_, ?_, ?_, ?_, ?_⟩ ⟨?_, ?_⟩ ⟨k0', ?_, ?_, a7⟩⟩⟩
    · rw [ia _ _ (by omega) (by omega), E7]
      rfl
    · rw [ia _ _ (by omega) (by omega), E7]
      rfl
    · rw [ia _ _ (by omega) (by omega), E7]
      rfl
    · rw [iI, if_neg (by omega), iI, if_neg (by omega), iI, if_neg (by omega), iI, if_pos ⟨rfl, rfl⟩]
    · rw [iI, if_neg (by omega), iI, if_neg (by omega), iI, if_pos ⟨rfl, rfl⟩]
    · rw [iI, if_neg (by omega), iI, if_pos ⟨rfl, rfl⟩]
    · exact (ia _ _ (by omega) (by omega)).trans a5.1
    · exact fun i jj k b1 b2 b3 => ⟨(ia _ _ (by omega) (by omega)).trans (a5.2 i jj k b1 b2 b3).1, (ia _ _ (by omega) (by omega)).trans (a5.2 i jj k b1 b2 b3).2⟩
    · rw [ia _ _ (by omega) (by omega), a6]
    · rw [iI, if_pos ⟨rfl, rfl⟩]

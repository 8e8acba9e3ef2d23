/-! who is sent home -/
section P51
variable {h : xH} {g f t : Nat}
theorem anyv_0 {c d : Nat → Int32} {m f t : Nat} (hm : m ≤ 35) : anyv c d m f t = 0 ↔ hmy c d m f t = 0 := by
  unfold anyv hmy
  rw [fb_ct_zero]
  constructor
  · intro e k hk
    split at e
    · rename_i q
      have : ∀ t, t < 35 → st3 (tcn t) ≠ 0 := by decide +kernel
      exact absurd e (this _ (by omega))
    · rename_i q
      have q2 : fa_first (fun t_1 => sdn c d (st3 (tcn t_1)) f t) m = m := Nat.le_antisymm (fa_first_le _ _) (by omega)
      exact fa_first_no _ m k (by rw [q2]; exact hk)
  · intro e
    rw [first_none e, if_neg (by omega)]
theorem anyThree_e (s : Shp h) (z : Jseat h) {m : Nat} (hm : m ≤ 35) (em : hI h 11 3 = nI m) (hf : f < 2 ^ 31) (ht : t < 2 ^ 31) : f_St_anyThree 11 (nI f) (nI t) h = some (nI (anyv (hI h 12) (hI h 13) m f t), h) := by
  unfold f_St_anyThree
  refine lpf (fun n k (v : Unit) => f_St_anyThree_L2 11 (nI f) (nI t) n k h (fun v13 h14 => some ((0 : Int32), h14))) (fun o => o = _) (fun k v => ∀ q, q < k → sdn (hI h 12) (hI h 13) (st3 (tcn q)) f t = false) m (i := 0) (s := ()) (Nat.zero_le _) (by omega) (fun q hq => by omega) ?_ ?_
  · intro n k v hk P
    have E : f_St_anyThree_L2 11 (nI f) (nI t) (n + 1) (nI k) h (fun v13 h14 => some ((0 : Int32), h14)) = if sdn (hI h 12) (hI h 13) (st3 (tcn k)) f t = true then some (nI (st3 (tcn k)), h) else f_St_anyThree_L2 11 (nI f) (nI t) n (nI (k + 1)) h (fun v13 h14 => some ((0 : Int32), h14)) := by
      rw [f_St_anyThree_L2]
      simp only [gd, shp s, if_true, em]
      rw [if_neg (nI_ge hk (by omega)), Se_three_e s z (by omega)]
      simp only [bind_s, shp s, if_true, St_stands_e s z (st_lt k (by omega)) hf ht, nI_1]
      cases sdn (hI h 12) (hI h 13) (st3 (tcn k)) f t <;> rfl
    cases c : sdn (hI h 12) (hI h 13) (st3 (tcn k)) f t with
    | true =>
      rw [c, if_pos rfl] at E
      left
      show _ = some (nI (anyv (hI h 12) (hI h 13) m f t), h)
      unfold anyv
      rw [E, first_eq (p := fun q => sdn (hI h 12) (hI h 13) (st3 (tcn q)) f t) c P hk, if_pos hk]
    | false =>
      rw [c, if_neg (by decide)] at E
      refine Or.inr ⟨(), E, fun q hq => ?_⟩
      rcases (by omega : q < k ∨ q = k) with u | u
      · exact P q u
      · rw [u, c]
  · intro n v P
    show _ = some (nI (anyv (hI h 12) (hI h 13) m f t), h)
    unfold anyv
    rw [first_none P, if_neg (by omega)]
    simp only [f_St_anyThree_L2, gd, shp s, if_true, em]
    rw [if_pos (nI_le (Nat.le_refl _) (by omega))]
    rfl
/-- no three is left among those who stay -/
def okh (c d : Nat → Int32) (g f t s : Nat) : Bool := hmt c d g (f &&& wi (an (2 ^ g - 1) s)) (t &&& wi (an (2 ^ g - 1) s)) == 0
theorem leavesNone_e (s : Shp h) (z : Jseat h) (g7 : g ≤ 7) (e1 : hI h 7 1 = nI g) (e2 : hI h 7 2 = nI f) (e3 : hI h 7 3 = nI t) (hf : f < 2 ^ 31) (ht : t < 2 ^ 31) (e4 : hI h 11 3 = nI (c3 g)) (a : Nat) : f_Ma_leavesNone 1 (nI a) h = some (b2i (okh (hI h 12) (hI h 13) g f t a), h) := by
  have o := an_128 (x := a) g7
  have F1 : (f &&& wi (an (2 ^ g - 1) a)) < 2 ^ 31 := Nat.lt_of_le_of_lt Nat.and_le_left hf
  have F2 : (t &&& wi (an (2 ^ g - 1) a)) < 2 ^ 31 := Nat.lt_of_le_of_lt Nat.and_le_left ht
  simp only [f_Ma_leavesNone, gd, shp s, if_true, Ta_everyone_n s g7 e1, bind_s, an_I, Se_within_e s z o, e2, e3, fa_and, anyThree_e s z (c3_le g g7) e4 F1 F2, nb_fi]
  have lt : anyv (hI h 12) (hI h 13) (c3 g) (f &&& wi (an (2 ^ g - 1) a)) (t &&& wi (an (2 ^ g - 1) a)) < 2 ^ 31 := by
    unfold anyv
    split
    · rename_i q
      have := st_lt _ (Nat.lt_of_lt_of_le q (c3_le g g7))
      omega
    · decide
  simp only [li_eq0 lt]
  unfold okh
  rw [← hmy_t g7]
  by_cases c : anyv (hI h 12) (hI h 13) (c3 g) (f &&& wi (an (2 ^ g - 1) a)) (t &&& wi (an (2 ^ g - 1) a)) = 0
  · rw [if_pos c, beq_iff_eq.mpr ((anyv_0 (c3_le g g7)).mp c)]
    rfl
  · rw [if_neg c, beq_eq_false_iff_ne.mpr (fun q => c ((anyv_0 (c3_le g g7)).mpr q))]
    rfl
theorem meetsAll_e (s : Shp h) (g7 : g ≤ 7) (j : Jga g h) (hf : f < 2 ^ 31) (ht : t < 2 ^ 31) (dj : f &&& t = 0) (m2 : hI h 36 8 = nI f) (m3 : hI h 36 9 = nI (f ||| t)) {a : Nat} (ha : a < 128) : f_Mo_meetsAll 36 (nI a) h = some (b2i (okh (hI h 12) (hI h 13) g f t a), h) := by
  have hc := c3_le g g7
  have o := an_128 (x := a) g7
  generalize hp' : (fun k => sdn (hI h 12) (hI h 13) (st3 (tmn g k)) (f &&& wi (an (2 ^ g - 1) a)) (t &&& wi (an (2 ^ g - 1) a))) = p
  have hp : ∀ k, p k = sdn (hI h 12) (hI h 13) (st3 (tmn g k)) (f &&& wi (an (2 ^ g - 1) a)) (t &&& wi (an (2 ^ g - 1) a)) := fun k => by rw [← hp']
  have hok : okh (hI h 12) (hI h 13) g f t a = (fb_ct p (c3 g) == 0) := by rw [← hp']; rfl
  unfold f_Mo_meetsAll
  refine lpf (fun n k (v : Unit) => f_Mo_meetsAll_L2 36 (nI a) n k h (fun v21 h22 => some ((1 : Int32), h22))) (fun o => o = _) (fun k v => ∀ q, q < k → p q = false) (c3 g) (i := 0) (s := ()) (Nat.zero_le _) (by omega) (fun q hq => by omega) ?_ ?_
  · intro n k v hk P
    obtain ⟨t1, t2, t3⟩ := tm_in g g7 k hk
    obtain ⟨w1, w2, w3⟩ := wh_d (tmn g k).2.2 (by omega) (tmn g k).2.1 t2 (tmn g k).1 t1
    rw [show ((tmn g k).1, (tmn g k).2.1, (tmn g k).2.2) = tmn g k from rfl] at w1 w2 w3
    have hin : ¬ (nI k < 0 ∨ 35 ≤ k) := nin (by omega) (by omega)
    have pk : p k = (sdn (hI h 12) (hI h 13) (st3 (tmn g k)) f t && (!a.testBit (tmn g k).1 && (!a.testBit (tmn g k).2.1 && !a.testBit (tmn g k).2.2))) := by
      rw [hp, sdn_in g7 o hk, ev_bit, ev_bit, ev_bit, decide_eq_true (show (tmn g k).1 < g by omega), decide_eq_true (show (tmn g k).2.1 < g by omega), decide_eq_true t3]
      rfl
    have E : f_Mo_meetsAll_L2 36 (nI a) (n + 1) (nI k) h (fun v21 h22 => some ((1 : Int32), h22)) = if p k = true then some ((0 : Int32), h) else f_Mo_meetsAll_L2 36 (nI a) n (nI (k + 1)) h (fun v21 h22 => some ((1 : Int32), h22)) := by
      rw [f_Mo_meetsAll_L2, pk]
      simp only [jn, gd, shp s, if_true, j.1]
      rw [if_neg (nI_ge hk (by omega))]
      simp only [nI_clamp (show k < 2 ^ 31 by omega), if_pos hin, (j.2 k hk).2.1, w1, w2, w3, tb (show a < 2 ^ 31 by omega) (show (tmn g k).1 < 31 by omega), tb (show a < 2 ^ 31 by omega) (show (tmn g k).2.1 < 31 by omega), tb (show a < 2 ^ 31 by omega) (show (tmn g k).2.2 < 31 by omega), b2i_1, m2, m3, sort_e s g7 j hk hf ht dj, bind_s]
      rw [show sdn (hI h 12) (hI h 13) (st3 (tmn g k)) f t = (frN (hI h 12) (st3 (tmn g k)) f || frN (hI h 13) (st3 (tmn g k)) t) from rfl]
      cases a.testBit (tmn g k).1 with
      | true => simp only [if_true, i10, if_false, Bool.not_true, Bool.false_and, Bool.and_false, Bool.false_eq_true, nI_1]
      | false =>
        cases a.testBit (tmn g k).2.1 with
        | true => simp only [if_true, i10, if_false, Bool.not_true, Bool.false_and, Bool.and_false, Bool.false_eq_true, nI_1]
        | false =>
          cases a.testBit (tmn g k).2.2 with
          | true => simp only [if_true, i10, if_false, Bool.not_true, Bool.and_false, Bool.false_eq_true, nI_1]
          | false =>
            cases frN (hI h 12) (st3 (tmn g k)) f with
            | true => simp [if_neg (show ¬ nI 1 = (-1 : Int32) by decide)]
            | false =>
              cases frN (hI h 13) (st3 (tmn g k)) t with
              | true => simp [if_neg (show ¬ nI 0 = (-1 : Int32) by decide)]
              | false => simp [nI_1]
    cases c : p k with
    | true =>
      rw [c, if_pos rfl] at E
      left
      rw [E, hok, beq_eq_false_iff_ne.mpr]
      · rfl
      · intro q
        have := fb_ct_zero.mp q k hk
        rw [c] at this
        cases this
    | false =>
      rw [c, if_neg (by decide)] at E
      refine Or.inr ⟨(), E, fun q hq => ?_⟩
      rcases (by omega : q < k ∨ q = k) with u | u
      · exact P q u
      · rw [u, c]
  · intro n v P
    rw [hok, beq_iff_eq.mpr (fb_ct_zero.mpr P)]
    simp only [f_Mo_meetsAll_L2, gd, shp s, if_true, j.1]
    rw [if_pos (nI_le (Nat.le_refl _) (by omega))]
    rfl
end P51
def hb (ok : Nat → Bool) : Nat → Option Nat
  | 0 => none
  | i + 1 => match hb ok i with
    | none => if ok i = true then some i else none
    | some b => if pcn 31 b ≤ pcn 31 i then some b else if ok i = true then some i else some b
theorem hb_lt {ok : Nat → Bool} : ∀ {i b : Nat}, hb ok i = some b → b < i
  | 0, b, e => by cases e
  | i + 1, b, e => by
    unfold hb at e
    cases q : hb ok i with
    | none =>
      rw [q] at e
      simp only at e
      split at e
      · cases e; omega
      · cases e
    | some x =>
      rw [q] at e
      have := hb_lt q
      simp only at e
      split at e
      · cases e; omega
      · split at e
        · cases e; omega
        · cases e; omega
def hbv (d : Int32) (o : Option Nat) : Int32 := match o with
  | none => d
  | some b => nI b
theorem pc_ev : ∀ g, g < 8 → ∀ i, i < 2 ^ g → (i < 2 ^ g - 1 → ¬ pcn 31 (2 ^ g - 1) ≤ pcn 31 i) ∧ pcn 31 i ≤ pcn 31 (2 ^ g - 1) := by decide +kernel
def hbB (g : Nat) (ok : Nat → Bool) : Nat := match hb ok (2 ^ g - 1) with
  | none => 2 ^ g - 1
  | some b => b
theorem pcn_lt32 (x : Nat) : pcn 31 x < 2 ^ 31 := Nat.lt_of_le_of_lt (pcn_le 31 x) (by decide)
theorem two_g {g : Nat} (g7 : g ≤ 7) : 1 ≤ 2 ^ g ∧ 2 ^ g ≤ 128 := ⟨Nat.two_pow_pos g, Nat.pow_le_pow_right (n := 2) (by decide) g7⟩
theorem hbB_lt {g : Nat} {ok : Nat → Bool} (g7 : g ≤ 7) : hbB g ok < 2 ^ g := by
  have := two_g g7
  unfold hbB
  cases e : hb ok (2 ^ g - 1) with
  | none => show 2 ^ g - 1 < 2 ^ g; omega
  | some b => have := hb_lt e; show b < 2 ^ g; omega
section P51
variable {h : xH} {g f t : Nat}
theorem ev_n2 {g : Nat} (g7 : g ≤ 7) : jShl (1 : Int32) (nI g) = nI (2 ^ g) := ss g (by omega)
theorem sentHome_e (s : Shp h) (z : Jseat h) (g7 : g ≤ 7) (e1 : hI h 7 1 = nI g) (e2 : hI h 7 2 = nI f) (e3 : hI h 7 3 = nI t) (hf : f < 2 ^ 31) (ht : t < 2 ^ 31) (e4 : hI h 11 3 = nI (c3 g)) : f_Ma_sentHome 1 h = some (nI (hbB g (okh (hI h 12) (hI h 13) g f t)), h) := by
  have tg := two_g g7
  simp only [f_Ma_sentHome, gd, shp s, if_true, Ta_everyone_n s g7 e1, bind_s]
  refine lpf (fun n i (v : Int32) => f_Ma_sentHome_L10 1 n v i h (fun v26 v27 h28 => some (v26, h28))) (fun o => o = _) (fun i v => v = hbv (nI (2 ^ g - 1)) (hb (okh (hI h 12) (hI h 13) g f t) i)) (2 ^ g - 1) (i := 0) (Nat.zero_le _) (by omega) rfl ?_ ?_
  · intro n i v hi e
    subst e
    refine Or.inr ⟨_, ?_, rfl⟩
    have bI : f_In_bitCount (nI i) h = some (nI (pcn 31 i), h) := pcI (by omega)
    have LN := leavesNone_e s z g7 e1 e2 e3 hf ht e4 i
    obtain ⟨pe, -⟩ := pc_ev g (by omega) i (by omega)
    have pe := pe hi
    rw [f_Ma_sentHome_L10]
    simp only [jn, gd, shp s, if_true, Ta_everyone_n s g7 e1, bind_s]
    rw [if_neg (nI_ge hi (by omega)), bI, bind_s]
    cases q : hb (okh (hI h 12) (hI h 13) g f t) i with
    | none =>
      have E2 : hb (okh (hI h 12) (hI h 13) g f t) (i + 1) = if okh (hI h 12) (hI h 13) g f t i = true then some i else none := by
        show (match hb (okh (hI h 12) (hI h 13) g f t) i with | none => _ | some b => _) = _
        rw [q]
      rw [E2]
      simp only [hbv]
      rw [pcI (show 2 ^ g - 1 < 2 ^ 24 by omega), bind_s]
      simp only [li_le (pcn_lt32 _) (pcn_lt32 _), if_neg pe, LN, bind_s, nI_1, shp s, if_true]
      cases okh (hI h 12) (hI h 13) g f t i <;> rfl
    | some b =>
      have E2 : hb (okh (hI h 12) (hI h 13) g f t) (i + 1) = if pcn 31 b ≤ pcn 31 i then some b else if okh (hI h 12) (hI h 13) g f t i = true then some i else some b := by
        show (match hb (okh (hI h 12) (hI h 13) g f t) i with | none => _ | some b => _) = _
        rw [q]
      have bl := hb_lt q
      rw [E2]
      simp only [hbv]
      rw [pcI (show b < 2 ^ 24 by omega), bind_s]
      simp only [li_le (pcn_lt32 _) (pcn_lt32 _)]
      by_cases c : pcn 31 b ≤ pcn 31 i
      · rw [if_pos c, if_pos c, nI_1]
      · rw [if_neg c, if_neg c]
        simp only [LN, bind_s, nI_1, shp s, if_true]
        cases okh (hI h 12) (hI h 13) g f t i <;> rfl
  · intro n v e
    subst e
    rw [f_Ma_sentHome_L10]
    simp only [gd, shp s, if_true, Ta_everyone_n s g7 e1, bind_s]
    rw [if_pos (nI_le (Nat.le_refl _) (by omega))]
    unfold hbB hbv
    cases hb (okh (hI h 12) (hI h 13) g f t) (2 ^ g - 1) <;> rfl
theorem okh_all {c d : Nat → Int32} (g7 : g ≤ 7) : okh c d g f t (2 ^ g - 1) = true := by
  unfold okh
  have e : an (2 ^ g - 1) (2 ^ g - 1) = 0 := by
    unfold an
    rw [Nat.and_self, Nat.xor_self]
  have w0 : wi 0 = 0 := by decide +kernel
  rw [e, w0, Nat.and_zero, Nat.and_zero, beq_iff_eq]
  unfold hmt
  apply fb_ct_zero.mpr
  intro k hk
  have w : wi (st3 (tmn g k)) ≠ 0 := by rw [(wi_tm g7 hk).1]; exact (wi_tm g7 hk).2.2.2
  rw [sdn_fr, fr_0 w, fr_0 w]
  rfl
theorem hb_last {c d : Nat → Int32} (g7 : g ≤ 7) : hbv (-1) (hb (okh c d g f t) (2 ^ g)) = nI (hbB g (okh c d g f t)) := by
  have tg := two_g g7
  have e : 2 ^ g = (2 ^ g - 1) + 1 := by omega
  have E : hb (okh c d g f t) (2 ^ g) = some (hbB g (okh c d g f t)) := by
    rw [e]
    show (match hb (okh c d g f t) (2 ^ g - 1) with | none => _ | some b => _) = _
    unfold hbB
    cases q : hb (okh c d g f t) (2 ^ g - 1) with
    | none => simp only [okh_all g7, if_true]
    | some b =>
      have := hb_lt q
      have pe := (pc_ev g (by omega) b (by omega)).2
      simp only [if_pos pe]
  rw [E]
  rfl
theorem Mo_home_L {a1 : Int32} (s : Shp h) (g7 : g ≤ 7) (j : Jga g h) (hf : f < 2 ^ 31) (ht : t < 2 ^ 31) (dj : f &&& t = 0) (m1 : hI h 36 7 = nI g) (m2 : hI h 36 8 = nI f) (m3 : hI h 36 9 = nI (f ||| t)) (K : Int32 → Int32 → xH → Option (Int32 × xH)) : f_Mo_home_L23 36 a1 fu (-1 : Int32) (0 : Int32) h K = K (nI (hbB g (okh (hI h 12) (hI h 13) g f t))) (nI (2 ^ g)) h := by
  have tg := two_g g7
  refine lpf (fun n i (v : Int32) => f_Mo_home_L23 36 a1 n v i h K) (fun o => o = _) (fun i v => v = hbv (-1) (hb (okh (hI h 12) (hI h 13) g f t) i)) (2 ^ g) (i := 0) (Nat.zero_le _) (by omega) rfl ?_ ?_
  · intro n i v hi e
    subst e
    refine Or.inr ⟨_, ?_, rfl⟩
    have MA := meetsAll_e s g7 j hf ht dj m2 m3 (show i < 128 by omega)
    rw [f_Mo_home_L23]
    simp only [jn, gd, shp s, if_true, m1, ev_n2 g7]
    rw [if_neg (nI_ge hi (by omega))]
    cases q : hb (okh (hI h 12) (hI h 13) g f t) i with
    | none =>
      have E2 : hb (okh (hI h 12) (hI h 13) g f t) (i + 1) = if okh (hI h 12) (hI h 13) g f t i = true then some i else none := by
        show (match hb (okh (hI h 12) (hI h 13) g f t) i with | none => _ | some b => _) = _
        rw [q]
      rw [E2]
      simp only [hbv, if_true, MA, bind_s, nI_1]
      cases okh (hI h 12) (hI h 13) g f t i <;> rfl
    | some b =>
      have E2 : hb (okh (hI h 12) (hI h 13) g f t) (i + 1) = if pcn 31 b ≤ pcn 31 i then some b else if okh (hI h 12) (hI h 13) g f t i = true then some i else some b := by
        show (match hb (okh (hI h 12) (hI h 13) g f t) i with | none => _ | some b => _) = _
        rw [q]
      have bl := hb_lt q
      have nb' : ¬ nI b = (-1 : Int32) := fun z => nI_pos (n := b) (by omega) (by rw [z]; decide)
      rw [E2]
      simp only [hbv, if_neg nb', Mo_bitsOf_e (show i < 2 ^ 31 by omega), Mo_bitsOf_e (show b < 2 ^ 31 by omega), bind_s, li_le (pcn_lt32 _) (pcn_lt32 _)]
      by_cases c : pcn 31 b ≤ pcn 31 i
      · rw [if_pos c, if_pos c, nI_1]
      · rw [if_neg c, if_neg c]
        simp only [MA, bind_s, nI_1, shp s, if_true]
        cases okh (hI h 12) (hI h 13) g f t i <;> rfl
  · intro n v e
    subst e
    rw [f_Mo_home_L23]
    simp only [gd, shp s, if_true, m1, ev_n2 g7]
    rw [if_pos (nI_le (Nat.le_refl _) (by omega)), hb_last g7]
end P51
section P51
variable {h : xH} {g f t n r : Nat} {T : Nat → Nat → (Nat → Int32) → Int32}
def jys (T : Nat → Nat → (Nat → Int32) → Int32) (g f r B : Nat) (i : Nat) : Int32 := if B.testBit i = true then 0 else joyv T g f r i
theorem Ma_joyOf_e (R : RdC g r T h) (hf : f < 2 ^ 31) (e2 : hI h 7 2 = nI f) {B : Nat} : ∃ h', f_Ma_joyOf 1 (nI (an (2 ^ g - 1) B)) h = some (isum (jys T g f r B) g, h') ∧ Shp h' ∧ Fr dEv h h' := by
  have g7 := R.2.2.2.1.1
  have n51 := R.2.1
  have o := an_128 (x := B) g7
  unfold f_Ma_joyOf
  refine lpf (fun n i (v : Int32 × xH) => f_Ma_joyOf_L4 1 (nI (an (2 ^ g - 1) B)) n v.1 i v.2 (fun v13 v14 h15 => some (v13, h15))) (fun o => ∃ h', o = some (isum (jys T g f r B) g, h') ∧ Shp h' ∧ Fr dEv h h') (fun i v => v.1 = isum (jys T g f r B) i ∧ Shp v.2 ∧ Fr dEv h v.2) g (i := 0) (s := (0, h)) (Nat.zero_le _) (by omega) ⟨rfl, R.1, Fr.refl h⟩ ?_ ?_
  · rintro n i ⟨v, w⟩ hi ⟨rfl, s1, x1⟩
    have e1 : hI w 7 1 = nI g := (x1.v n51 1 (by decide) rfl).trans R.2.2.2.1.2
    obtain ⟨h', a1, a2, a3⟩ := Ru_joy_e (RdC_ev R s1 x1) hf ((x1.v n51 2 (by decide) rfl).trans e2) (show i < 7 by omega)
    have tbb := tb (show an (2 ^ g - 1) B < 2 ^ 31 by omega) (show i < 31 by omega)
    have E : isum (jys T g f r B) (i + 1) = isum (jys T g f r B) i + jys T g f r B i := rfl
    by_cases c : B.testBit i = true
    · refine Or.inr ⟨(isum (jys T g f r B) (i + 1), w), ?_, rfl, s1, x1⟩
      simp only [f_Ma_joyOf_L4, jn, gd, shp s1, if_true, e1, tbb, ev_bit, c, Bool.not_true, Bool.and_false, b2i_1, Bool.false_eq_true, if_false, nI_1]
      rw [if_neg (nI_ge hi (by omega)), E]
      unfold jys
      rw [if_pos c]
      simp
    · rw [Bool.not_eq_true] at c
      refine Or.inr ⟨(isum (jys T g f r B) (i + 1), h'), ?_, rfl, a2, x1.trans a3⟩
      simp only [f_Ma_joyOf_L4, jn, gd, shp s1, if_true, e1, tbb, ev_bit, c, Bool.not_false, Bool.and_true, decide_eq_true hi, b2i_1, a1, bind_s, nI_1]
      rw [if_neg (nI_ge hi (by omega)), E]
      have : jys T g f r B i = joyv T g f r i := by
        unfold jys
        rw [c, if_neg (by decide)]
      rw [this]
  · rintro n ⟨v, w⟩ ⟨rfl, s1, x1⟩
    have e1 : hI w 7 1 = nI g := (x1.v n51 1 (by decide) rfl).trans R.2.2.2.1.2
    refine ⟨w, ?_, s1, x1⟩
    simp only [f_Ma_joyOf_L4, gd, shp s1, if_true, e1]
    rw [if_pos (nI_le (Nat.le_refl _) (by omega))]
theorem Mo_joyOf_e {a1 : Int32} (R : RdM g r T h) (hf : f < 2 ^ 31) (m2 : hI h 36 8 = nI f) {B : Nat} (hB : B < 128) : ∃ h', f_Mo_home_L88 36 a1 (nI B) fu (0 : Int32) (0 : Int32) h (fun v37 v38 h39 => some (v37, h39)) = some (isum (jys T g f r B) g, h') ∧ Shp h' ∧ Fr dSy h h' := by
  have g7 := R.2.2.1.1
  have n51 := R.2.1
  refine lpf (fun n i (v : Int32 × xH) => f_Mo_home_L88 36 a1 (nI B) n v.1 i v.2 (fun v37 v38 h39 => some (v37, h39))) (fun o => ∃ h', o = some (isum (jys T g f r B) g, h') ∧ Shp h' ∧ Fr dSy h h') (fun i v => v.1 = isum (jys T g f r B) i ∧ Shp v.2 ∧ Fr dSy h v.2) g (i := 0) (s := (0, h)) (Nat.zero_le _) (by omega) ⟨rfl, R.1, Fr.refl h⟩ ?_ ?_
  · rintro n i ⟨v, w⟩ hi ⟨rfl, s1, x1⟩
    have e1 : hI w 36 7 = nI g := (x1.v n51 7 (by decide) rfl).trans R.2.2.1.2
    obtain ⟨h', b1, b2, b3⟩ := Mo_joy_e (RdM_sy R s1 x1) hf ((x1.v n51 8 (by decide) rfl).trans m2) (show i < 7 by omega)
    have tbb := tb (show B < 2 ^ 31 by omega) (show i < 31 by omega)
    have E : isum (jys T g f r B) (i + 1) = isum (jys T g f r B) i + jys T g f r B i := rfl
    by_cases c : B.testBit i = true
    · refine Or.inr ⟨(isum (jys T g f r B) (i + 1), w), ?_, rfl, s1, x1⟩
      simp only [f_Mo_home_L88, jn, gd, shp s1, if_true, e1, tbb, c, b2i_1, nI_1]
      rw [if_neg (nI_ge hi (by omega)), E]
      unfold jys
      rw [if_pos c]
    · rw [Bool.not_eq_true] at c
      refine Or.inr ⟨(isum (jys T g f r B) (i + 1), h'), ?_, rfl, b2, x1.trans b3⟩
      simp only [f_Mo_home_L88, jn, gd, shp s1, if_true, e1, tbb, c, b2i_1, Bool.false_eq_true, if_false, b1, bind_s, nI_1]
      rw [if_neg (nI_ge hi (by omega)), E]
      have : jys T g f r B i = joyv T g f r i := by
        unfold jys
        rw [c, if_neg (by decide)]
      rw [this]
  · rintro n ⟨v, w⟩ ⟨rfl, s1, x1⟩
    have e1 : hI w 36 7 = nI g := (x1.v n51 7 (by decide) rfl).trans R.2.2.1.2
    refine ⟨w, ?_, s1, x1⟩
    simp only [f_Mo_home_L88, gd, shp s1, if_true, e1]
    rw [if_pos (nI_le (Nat.le_refl _) (by omega))]
end P51
theorem Y_home : Sp_home Inv := by
  intro w h I
  obtain ⟨g, f, t, n, r, T, j⟩ := I
  have j0 := j
  obtain ⟨sh, hn, z, ⟨⟨g1, g7, hf, ht, hd⟩, e1, e2, e3, m1, m2, m3⟩, jk, jw, jp, js, jst, jx, jr⟩ := j0
  have f24 := lt24 g7 hf
  have t24 := lt24 g7 ht
  have f31 := lt3 f24
  have t31 := lt3 t24
  have s36 : hK h 36 = 11 := by simp only [shp sh]
  cases cw : inr w 2 with
  | false =>
    refine ⟨-2, h, h, ?_, s36, ?_, ⟨g, f, t, n, r, T, j⟩⟩
    · simp only [f_Ma_home, Ma_isWithin_2, cw, bind_s, b2i_f, if_true]
    · simp only [f_Mo_home, Mo_in_2, cw, bind_s, b2i_f, if_true]
  | true =>
    obtain ⟨y, hy, rfl⟩ := inr_ex (by decide) cw
    have SH := sentHome_e sh z g7 e1 e2 e3 f31 t31 jst.1
    have Bl := hbB_lt (g := g) (ok := okh (hI h 12) (hI h 13) g f t) g7
    have tg := two_g g7
    have MO : ∀ h1, Shp h1 → Fr dEv h h1 → ∃ h2, f_Mo_gathers 36 h1 = some ((), h2) ∧ J g f t n r T h2 ∧ (∀ (a1 : Int32) K, f_Mo_home_L23 36 a1 fu (-1 : Int32) (0 : Int32) h2 K = K (nI (hbB g (okh (hI h 12) (hI h 13) g f t))) (nI (2 ^ g)) h2) ∧ hI h2 36 8 = nI f := by
      intro h1 s1 x1
      have n51 := Nat.le_trans hn x1.1
      have j1 := J_ev j s1 x1
      obtain ⟨h2, b1, s2, x2, jg⟩ := Mo_gathers_e (J_M j1) (by
        exact ⟨(x1.v hn 3 (by decide) rfl).trans jst.1, fun i jj k a b c => ⟨(x1.v hn _ (by decide) rfl).trans (jst.2 i jj k a b c).1, (x1.v hn _ (by decide) rfl).trans (jst.2 i jj k a b c).2⟩⟩)
      have j2 := J_ga j1 s2 x2
      have v36 : ∀ k, 7 ≤ k → k ≤ 9 → hI h2 36 k = hI h 36 k := fun k p1 p2 => (x2.v n51 k (by decide) (by simp [dGa]; omega)).trans (x1.v hn k (by decide) rfl)
      refine ⟨h2, b1, j2, fun a1 K => ?_, (v36 8 (by omega) (by omega)).trans m2⟩
      have L := Mo_home_L (a1 := a1) s2 g7 jg f31 t31 hd ((v36 7 (by omega) (by omega)).trans m1) ((v36 8 (by omega) (by omega)).trans m2) ((v36 9 (by omega) (by omega)).trans m3) K
      rw [show hI h2 12 = hI h 12 from funext fun k => (x2.v n51 k (by decide) rfl).trans (x1.v hn k (by decide) rfl), show hI h2 13 = hI h 13 from funext fun k => (x2.v n51 k (by decide) rfl).trans (x1.v hn k (by decide) rfl)] at L
      exact L
    generalize hbB g (okh (hI h 12) (hI h 13) g f t) = B at *
    by_cases y2 : y = 2
    · subst y2
      obtain ⟨h1, a1, a2, a3⟩ := Ma_joyOf_e (B := B) (J_C j) f31 e2
      have j1 := J_ev j a2 a3
      obtain ⟨h2, b1, j2, b2, b3⟩ := MO h1 a2 a3
      obtain ⟨h3, c1, c2, c3⟩ := Mo_joyOf_e (a1 := nI 2) (B := B) (J_M j2) f31 b3 (by omega)
      refine ⟨isum (jys T g f r B) g, h1, h3, ?_, by simp only [shp a2], ?_, ⟨g, f, t, n, r, T, J_sy j2 c2 c3⟩⟩
      · simp only [f_Ma_home, jn, Ma_isWithin_2, cw, bind_s, b2i_t, i10, if_false, gd, shp sh, if_true, SH, if_neg (show ¬ nI 2 = (0 : Int32) by decide), if_neg (show ¬ nI 2 = (1 : Int32) by decide), Ta_everyone_n sh g7 e1, an_I, a1]
      · simp only [f_Mo_home, Mo_in_2, cw, bind_s, b2i_t, i10, if_false, gd, shp a2, if_true, b1]
        rw [b2, if_pos (show (2 : Int32) ≤ nI 2 by decide)]
        exact c1
    · obtain ⟨h2, b1, j2, b2, b3⟩ := MO h sh (Fr.refl h)
      have ny : ¬ (2 : Int32) ≤ nI y := nI_ge (b := 2) (by omega) (by decide)
      refine ⟨if y = 0 then nI (pcn 31 B) else nI B, h, h2, ?_, s36, ?_, ⟨g, f, t, n, r, T, j2⟩⟩
      · rcases (by omega : y = 0 ∨ y = 1) with rfl | rfl
        · simp only [f_Ma_home, jn, Ma_isWithin_2, cw, bind_s, b2i_t, i10, if_false, gd, shp sh, if_true, SH, if_pos (show nI 0 = (0 : Int32) from rfl), pcI (show B < 2 ^ 24 by omega)]
        · simp only [f_Ma_home, jn, Ma_isWithin_2, cw, bind_s, b2i_t, i10, if_false, gd, shp sh, if_true, SH, if_neg (show ¬ nI 1 = (0 : Int32) by decide), if_pos (show nI 1 = (1 : Int32) from rfl), if_neg (show ¬ 1 = 0 by decide)]
      · show f_Mo_home 36 (nI y) h = _
        simp only [f_Mo_home, jn, Mo_in_2, cw, bind_s, b2i_t, i10, if_false, gd, shp sh, if_true, b1]
        rw [b2, if_neg ny]
        rcases (by omega : y = 0 ∨ y = 1) with rfl | rfl
        · rw [if_pos (show nI 0 = (0 : Int32) from rfl), Mo_bitsOf_e (show B < 2 ^ 31 by omega)]
          rfl
        · rw [if_neg (show ¬ nI 1 = (0 : Int32) by decide)]
          rfl

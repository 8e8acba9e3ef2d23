/-! most who are all friends, all strangers; two halves; friends in common -/
theorem wi_bit0 : ∀ s, s < 128 → ∀ p, p < 21 → (wi s).testBit p = (s.testBit (lo p) && s.testBit (hi p)) := by decide +kernel
theorem hi_c2 : ∀ g, g < 8 → ∀ p, p < 21 → hi p < g → p < c2 g := by decide +kernel
theorem lohi_c2 : ∀ g, g < 8 → ∀ p, p < c2 g → lo p < g ∧ hi p < g ∧ lo p < hi p := by decide +kernel
theorem wi_bit {s p : Nat} (hs : s < 128) : (wi s).testBit p = (decide (p < 21) && (s.testBit (lo p) && s.testBit (hi p))) := by
  by_cases hp : p < 21
  · rw [wi_bit0 s hs p hp, decide_eq_true hp, Bool.true_and]
  · rw [decide_eq_false hp, Bool.false_and, Nat.testBit_lt_two_pow (Nat.lt_of_lt_of_le (wi_lt s hs) (Nat.pow_le_pow_right (by decide) (by omega)))]
/-- a pair within a set that isn't of the sort -/
def badp (f t so s p : Nat) : Bool := (s.testBit (lo p) && s.testBit (hi p)) && lkv f t p != so
def okA (A s : Nat) : Bool := A &&& wi s == wi s
theorem lk_1 {f t p : Nat} : (lkv f t p != 1) = !f.testBit p := by
  unfold lkv
  cases f.testBit p
  · cases t.testBit p <;> rfl
  · rfl
theorem lk_0 {f t p : Nat} (d : f &&& t = 0) : (lkv f t p != 0) = !t.testBit p := by
  have := and_nil.mp d p
  unfold lkv
  revert this
  cases f.testBit p <;> cases t.testBit p <;> simp
theorem okA_bad {g f t so s : Nat} (g7 : g ≤ 7) (d : f &&& t = 0) (hso : so ≤ 1) (hs : s < 2 ^ g) : okA (if so = 1 then f else t) s = true ↔ ∀ p, p < c2 g → badp f t so s p = false := by
  have s7 : s < 128 := Nat.lt_of_lt_of_le hs (two_g g7).2
  have lk : ∀ p, (lkv f t p != so) = !(if so = 1 then f else t).testBit p := by
    intro p
    rcases (by omega : so = 0 ∨ so = 1) with rfl | rfl
    · rw [if_neg (by decide)]
      exact lk_0 d
    · rw [if_pos rfl]
      exact lk_1
  unfold okA badp
  rw [beq_iff_eq, and_full]
  constructor
  · intro q p hp
    rw [lk]
    have hc := c2_le g g7
    cases e : (s.testBit (lo p) && s.testBit (hi p)) with
    | false => rfl
    | true =>
      have := q p (by rw [wi_bit s7, decide_eq_true (show p < 21 by omega), e]; rfl)
      rw [this]
      rfl
  · intro q p hp
    rw [wi_bit s7, Bool.and_eq_true, decide_eq_true_eq] at hp
    have h2 := hp.2
    rw [Bool.and_eq_true] at h2
    have hl : p < c2 g := hi_c2 g (by omega) p hp.1 (lt_bit hs h2.2)
    have := q p hl
    rw [lk, hp.2] at this
    simpa using this
section P54
variable {h : xH} {g f t : Nat}
theorem areAll_e (s : Shp h) (g1 : 1 ≤ g) (g7 : g ≤ 7) (m1 : hI h 36 7 = nI g) (hf : f < 2 ^ 31) (ht : t < 2 ^ 31) (m2 : hI h 36 8 = nI f) (m3 : hI h 36 9 = nI (f ||| t)) (d : f &&& t = 0) {so S : Nat} (hso : so ≤ 1) (hS : S < 2 ^ g) : f_Mo_areAll 36 (nI S) (nI so) h = some (b2i (okA (if so = 1 then f else t) S), h) := by
  have S31 : S < 2 ^ 31 := by have := two_g g7; omega
  have link := okA_bad g7 d hso hS
  have inner : ∀ k K, k < g → (∀ q, q < c2 k → badp f t so S q = false) → (f_Mo_areAll_L13 36 (nI S) (nI so) (nI k) fu (0 : Int32) h K = some (b2i (okA (if so = 1 then f else t) S), h)) ∨ (f_Mo_areAll_L13 36 (nI S) (nI so) (nI k) fu (0 : Int32) h K = K (nI k) h ∧ ∀ q, q < c2 (k + 1) → badp f t so S q = false) := by
    intro k K hk7 P
    refine lpf (fun n i (v : Unit) => f_Mo_areAll_L13 36 (nI S) (nI so) (nI k) n i h K) (fun o => o = some (b2i (okA (if so = 1 then f else t) S), h) ∨ (o = K (nI k) h ∧ ∀ q, q < c2 (k + 1) → badp f t so S q = false)) (fun i v => ∀ q, q < c2 k + i → badp f t so S q = false) k (i := 0) (s := ()) (Nat.zero_le _) (by omega) P ?_ ?_
    · intro n i v hi P
      obtain ⟨p1, p2, p3, p4, p5⟩ := prs_c2 k (by omega) i hi
      have lk3 : lkv f t (c2 k + i) < 3 := by unfold lkv; split <;> (try split) <;> decide
      have E : f_Mo_areAll_L13 36 (nI S) (nI so) (nI k) (n + 1) (nI i) h K = if badp f t so S (c2 k + i) = true then some ((0 : Int32), h) else f_Mo_areAll_L13 36 (nI S) (nI so) (nI k) n (nI (i + 1)) h K := by
        rw [f_Mo_areAll_L13]
        simp only [jn, gd, tb S31 (show i < 31 by omega), tb S31 (show k < 31 by omega), b2i_1, Mo_seat_n (show i < 7 by omega) (show k < 7 by omega), p1, bind_s, shp s, if_true, Mo_pairAt_n s hf ht m2 m3 (show c2 k + i < 31 by omega), nI_1, show (nI (lkv f t (c2 k + i)) = nI so) = (lkv f t (c2 k + i) = so) from li_eq (by omega) (by omega)]
        rw [if_neg (nI_ge hi (by omega))]
        unfold badp
        rw [p2, p3]
        cases S.testBit i
        · rfl
        · cases S.testBit k
          · rfl
          · by_cases c : lkv f t (c2 k + i) = so
            · rw [if_pos rfl, if_pos rfl, if_pos c, show (lkv f t (c2 k + i) != so) = false by rw [c]; simp]
              rfl
            · rw [if_pos rfl, if_pos rfl, if_neg c, show (lkv f t (c2 k + i) != so) = true from bne_iff_ne.mpr c]
              rfl
      cases c : badp f t so S (c2 k + i) with
      | true =>
        rw [c, if_pos rfl] at E
        left
        left
        rw [E]
        cases c2' : okA (if so = 1 then f else t) S with
        | false => rfl
        | true =>
          have := (link.mp c2') (c2 k + i) (Nat.lt_of_lt_of_le p5 (c2_mono g (by omega) (k + 1) (by omega)))
          rw [c] at this
          cases this
      | false =>
        rw [c, if_neg (by decide)] at E
        refine Or.inr ⟨(), E, fun q hq => ?_⟩
        rcases (by omega : q < c2 k + i ∨ q = c2 k + i) with u | u
        · exact P q u
        · rw [u, c]
    · intro n v P
      right
      refine ⟨?_, ?_⟩
      · simp only [f_Mo_areAll_L13]
        rw [if_pos (nI_le (Nat.le_refl _) (by omega))]
      · rw [← c2_succ k (by omega)]
        exact P
  unfold f_Mo_areAll
  refine lpf (fun n k (v : Unit) => f_Mo_areAll_L2 36 (nI S) (nI so) n k h (fun v18 h19 => some ((1 : Int32), h19))) (fun o => o = some (b2i (okA (if so = 1 then f else t) S), h)) (fun k v => ∀ q, q < c2 k → badp f t so S q = false) g (i := 1) (s := ()) g1 (by omega) (fun q hq => by rw [c2_0] at hq; omega) ?_ ?_
  · intro n k v hk P
    have E : f_Mo_areAll_L2 36 (nI S) (nI so) (n + 1) (nI k) h (fun v18 h19 => some ((1 : Int32), h19)) = f_Mo_areAll_L13 36 (nI S) (nI so) (nI k) fu (0 : Int32) h (fun v16 h17 => f_Mo_areAll_L2 36 (nI S) (nI so) n (nI (k + 1)) h17 (fun v18 h19 => some ((1 : Int32), h19))) := by
      rw [f_Mo_areAll_L2]
      simp only [gd, shp s, if_true, m1]
      rw [if_neg (nI_ge hk (by omega)), nI_1]
    rcases inner k (fun v16 h17 => f_Mo_areAll_L2 36 (nI S) (nI so) n (nI (k + 1)) h17 (fun v18 h19 => some ((1 : Int32), h19))) hk P with q | ⟨q1, q2⟩
    · exact Or.inl (E.trans q)
    · exact Or.inr ⟨(), E.trans q1, q2⟩
  · intro n v P
    rw [link.mpr P]
    simp only [f_Mo_areAll_L2, gd, shp s, if_true, m1]
    rw [if_pos (nI_le (Nat.le_refl _) (by omega))]
    rfl
end P54
def ab (ok : Nat → Bool) : Nat → Nat
  | 0 => 0
  | i + 1 => if pcn 31 i ≤ pcn 31 (ab ok i) then ab ok i else if ok i = true then i else ab ok i
theorem ab_le (ok : Nat → Bool) : ∀ i, ab ok i ≤ i
  | 0 => Nat.le_refl 0
  | i + 1 => by
    have := ab_le ok i
    unfold ab
    split
    · omega
    · split <;> omega
theorem ab_1 (ok : Nat → Bool) : ab ok 1 = 0 := by
  show (if pcn 31 0 ≤ pcn 31 0 then 0 else _) = 0
  rw [if_pos (Nat.le_refl _)]
section P54
variable {h : xH} {g f t : Nat}
theorem ae_ok {A i : Nat} (hA : A < 2 ^ 31) (hw : wi i < 2 ^ 31) : (nI A &&& nI (wi i) = nI (wi i)) ↔ okA A i = true := by
  unfold okA
  generalize wi i = w at *
  rw [and_eqI hA hw]
theorem Ma_all_s {a1 a2 : Int32} {A n i b wv p1 p2 : Nat} {ok : Bool} (s : Shp h) (g7 : g ≤ 7) (e1 : hI h 7 1 = nI g) (ng : ¬ nI (2 ^ g - 1) < nI i) (sw : f_Se_within 2 (nI i) h = some (nI wv, h)) (bc1 : f_In_bitCount (nI i) h = some (nI p1, h)) (bc2 : f_In_bitCount (nI b) h = some (nI p2, h)) (lc : (nI p1 ≤ nI p2) ↔ p1 ≤ p2) (ae : (nI A &&& nI wv = nI wv) ↔ ok = true) (K : Int32 → Int32 → xH → Option (Int32 × xH)) : f_Ma_all_L48 1 a1 a2 (nI A) (n + 1) (nI b) (nI i) h K = f_Ma_all_L48 1 a1 a2 (nI A) n (nI (if p1 ≤ p2 then b else if ok = true then i else b)) (nI (i + 1)) h K := by
  rw [f_Ma_all_L48]
  simp only [gd, shp s, if_true, Ta_everyone_n s g7 e1, bind_s]
  rw [if_neg ng, sw, bind_s, bc1, bind_s, bc2, bind_s, nI_1]
  by_cases c : p1 ≤ p2
  · rw [if_pos (lc.mpr c), if_pos c]
  · rw [if_neg (fun q => c (lc.mp q)), if_neg c]
    by_cases d : ok = true
    · rw [if_pos (ae.mpr d), if_pos d]
    · rw [if_neg (fun q => d (ae.mp q)), if_neg d]
theorem Ma_all_L {a1 a2 : Int32} {A : Nat} (s : Shp h) (z : Jseat h) (g7 : g ≤ 7) (e1 : hI h 7 1 = nI g) (hA : A < 2 ^ 31) (K : Int32 → Int32 → xH → Option (Int32 × xH)) : f_Ma_all_L48 1 a1 a2 (nI A) fu (0 : Int32) (1 : Int32) h K = K (nI (ab (okA A) (2 ^ g))) (nI (2 ^ g)) h := by
  have tg := two_g g7
  refine lpf (fun n i (v : Int32) => f_Ma_all_L48 1 a1 a2 (nI A) n v i h K) (fun o => o = K (nI (ab (okA A) (2 ^ g))) (nI (2 ^ g)) h) (fun i v => v = nI (ab (okA A) i)) (2 ^ g) (i := 1) (by omega) (by omega) (by rw [ab_1]; rfl) ?_ ?_
  · intro n i v hx e
    refine Or.inr ⟨nI (ab (okA A) (i + 1)), ?_, rfl⟩
    subst e
    have wl := wi_lt i (by omega)
    have al := ab_le (okA A) i
    exact Ma_all_s s g7 e1 (nI_nlt (by omega) (by omega)) (Se_within_e s z (show i < 128 by omega)) (pcI (by omega)) (pcI (by omega)) (nI_leI (pcn_lt32 _) (pcn_lt32 _)) (ae_ok hA (by omega)) K
  · intro n v e
    subst e
    have ng : nI (2 ^ g - 1) < nI (2 ^ g) := nI_lt (by omega) (by omega)
    show f_Ma_all_L48 1 a1 a2 (nI A) (n + 1) _ _ h K = _
    rw [f_Ma_all_L48]
    simp only [gd, shp s, if_true, Ta_everyone_n s g7 e1, bind_s]
    rw [if_pos ng]
theorem Mo_all_L {a2 : Int32} {so : Nat} (s : Shp h) (g1 : 1 ≤ g) (g7 : g ≤ 7) (m1 : hI h 36 7 = nI g) (hf : f < 2 ^ 31) (ht : t < 2 ^ 31) (m2 : hI h 36 8 = nI f) (m3 : hI h 36 9 = nI (f ||| t)) (d : f &&& t = 0) (hso : so ≤ 1) (K : Int32 → Int32 → xH → Option (Int32 × xH)) : f_Mo_all_L28 36 (nI so) a2 fu (0 : Int32) (1 : Int32) h K = K (nI (ab (okA (if so = 1 then f else t)) (2 ^ g))) (nI (2 ^ g)) h := by
  have tg := two_g g7
  refine lpf (fun n i (v : Int32) => f_Mo_all_L28 36 (nI so) a2 n v i h K) (fun o => o = _) (fun i v => v = nI (ab (okA (if so = 1 then f else t)) i)) (2 ^ g) (i := 1) (by omega) (by omega) (by rw [ab_1]; rfl) ?_ ?_
  · intro n i v hi e
    subst e
    refine Or.inr ⟨_, ?_, rfl⟩
    have al := ab_le (okA (if so = 1 then f else t)) i
    rw [f_Mo_all_L28]
    simp only [jn, gd, shp s, if_true, m1, ev_n2 g7]
    rw [if_neg (nI_ge hi (by omega)), Mo_bitsOf_e (by omega), bind_s, Mo_bitsOf_e (show ab (okA (if so = 1 then f else t)) i < 2 ^ 31 by omega), bind_s]
    simp only [li_le (pcn_lt32 _) (pcn_lt32 _), areAll_e s g1 g7 m1 hf ht m2 m3 d hso hi, bind_s, shp s, if_true, nI_1]
    show _ = f_Mo_all_L28 36 (nI so) a2 n (nI (if pcn 31 i ≤ pcn 31 (ab (okA (if so = 1 then f else t)) i) then ab (okA (if so = 1 then f else t)) i else if okA (if so = 1 then f else t) i = true then i else ab (okA (if so = 1 then f else t)) i)) (nI (i + 1)) h K
    by_cases c : pcn 31 i ≤ pcn 31 (ab (okA (if so = 1 then f else t)) i)
    · rw [if_pos c, if_pos c]
    · rw [if_neg c, if_neg c]
      cases okA (if so = 1 then f else t) i <;> rfl
  · intro n v e
    subst e
    rw [f_Mo_all_L28]
    simp only [gd, shp s, if_true, m1, ev_n2 g7]
    rw [if_pos (nI_le (Nat.le_refl _) (by omega))]
end P54
theorem Y_all : Sp_all Inv := by
  intro x w h I
  obtain ⟨g, f, t, n, r, T, j⟩ := I
  have j0 := j
  obtain ⟨sh, hn, z, ⟨⟨g1, g7, hf, ht, hd⟩, e1, e2, e3, m1, m2, m3⟩, jk, jw, jp, js, jst, jx, jr⟩ := j0
  have f24 := lt24 g7 hf
  have t24 := lt24 g7 ht
  have f31 := lt3 f24
  have t31 := lt3 t24
  have s36 : hK h 36 = 11 := by simp only [shp sh]
  by_cases c : inr x 1 = true ∧ inr w 1 = true
  · obtain ⟨cx, cw⟩ := c
    obtain ⟨so, hso, rfl⟩ := inr_ex (by decide) cx
    obtain ⟨y, hy, rfl⟩ := inr_ex (by decide) cw
    have tg := two_g g7
    have A31 : (if so = 1 then f else t) < 2 ^ 31 := by split <;> assumption
    have ea : (if nI so = (1 : Int32) then nI f else nI t) = nI (if so = 1 then f else t) := by
      rcases (by omega : so = 0 ∨ so = 1) with rfl | rfl <;> rfl
    have al := ab_le (okA (if so = 1 then f else t)) (2 ^ g)
    have CL := Ma_all_L (a1 := nI so) (a2 := nI y) sh z g7 e1 A31
    have ML := Mo_all_L (a2 := nI y) sh g1 g7 m1 f31 t31 m2 m3 hd hso
    refine ⟨if nI y = 0 then nI (pcn 31 (ab (okA (if so = 1 then f else t)) (2 ^ g))) else nI (ab (okA (if so = 1 then f else t)) (2 ^ g)), h, h, ?_, s36, ?_, ⟨g, f, t, n, r, T, j⟩⟩
    · simp only [f_Ma_all, jn, Ma_isWithin_1, cx, cw, bind_s, b2i_t, i10, if_false, gd, shp sh, if_true, e2, e3]
      have AA : ∀ (X : Int32 → Option (Int32 × xH)), (if nI so = (1 : Int32) then X (nI f) else X (nI t)) = X (nI (if so = 1 then f else t)) := fun X => by rw [← ea]; split <;> rfl
      rw [AA (fun q => f_Ma_all_L48 1 (nI so) (nI y) q fu (0 : Int32) (1 : Int32) h (fun v34 v35 h36 => if nI y = 0 then (f_In_bitCount v34 h36).bind fun q40 => some (q40.1, q40.2) else some (v34, h36))), CL, pcI (by omega)]
      simp only [bind_s]
      split
      · rfl
      · rfl
    · simp only [f_Mo_all, jn, Mo_in_1, cx, cw, bind_s, b2i_t, i10, if_false]
      rw [ML, Mo_bitsOf_e (by omega)]
      simp only [bind_s]
      split
      · rfl
      · rfl
  · refine ⟨-2, h, h, ?_, s36, ?_, ⟨g, f, t, n, r, T, j⟩⟩
    · simp only [f_Ma_all, jn, Ma_isWithin_1, bind_s]
      cases cx : inr x 1 with
      | false => simp only [b2i_f, if_true]
      | true =>
        cases cw : inr w 1 with
        | false => simp only [b2i_f, b2i_t, i10, if_false, if_true]
        | true => exact absurd ⟨cx, cw⟩ c
    · simp only [f_Mo_all, jn, Mo_in_1, bind_s]
      cases cx : inr x 1 with
      | false => simp only [b2i_f, if_true]
      | true =>
        cases cw : inr w 1 with
        | false => simp only [b2i_f, b2i_t, i10, if_false, if_true]
        | true => exact absurd ⟨cx, cw⟩ c
/-! two halves -/
def hvc (g f s : Nat) : Nat := fb_ct (fun p => f.testBit p && (s.testBit (lo p) == s.testBit (hi p))) (c2 g)
theorem hvc_le (g f s : Nat) : hvc g f s ≤ c2 g := fb_ct_le _ _
theorem hvc_e {g f s : Nat} (g7 : g ≤ 7) (hf : f < 2 ^ c2 g) (hs : s < 2 ^ g) : pcn 31 (f &&& wi s) + pcn 31 (f &&& wi (an (2 ^ g - 1) s)) = hvc g f s := by
  have hc := c2_le g g7
  have s7 : s < 128 := Nat.lt_of_lt_of_le hs (two_g g7).2
  have o := an_128 (x := s) g7
  have B : ∀ x, f &&& x < 2 ^ c2 g := fun x => Nat.lt_of_le_of_lt Nat.and_le_left hf
  rw [pcn_lt (B _) (by omega), pcn_lt (B _) (by omega), ← fb_ct_or]
  · unfold hvc
    refine fb_ct_cong (fun p hp => ?_)
    obtain ⟨l1, l2, l3⟩ := lohi_c2 g (by omega) p hp
    rw [Nat.testBit_and, Nat.testBit_and, wi_bit s7, wi_bit o, decide_eq_true (show p < 21 by omega), ev_bit, ev_bit, decide_eq_true l1, decide_eq_true l2]
    cases f.testBit p <;> cases s.testBit (lo p) <;> cases s.testBit (hi p) <;> rfl
  · intro p hp
    obtain ⟨l1, l2, l3⟩ := lohi_c2 g (by omega) p hp
    rw [Nat.testBit_and, Nat.testBit_and, wi_bit s7, wi_bit o, ev_bit, ev_bit]
    cases s.testBit (lo p) <;> simp
def hvr (v : Nat → Nat) : Nat → Nat × Nat
  | 0 => (0, 22)
  | i + 1 => if (hvr v i).2 ≤ v (2 * i + 1) then hvr v i else (2 * i + 1, v (2 * i + 1))
theorem hvr_lt {v : Nat → Nat} (hv : ∀ s, v s ≤ 21) : ∀ i, (hvr v i).2 ≤ 22 ∧ (1 ≤ i → (hvr v i).2 ≤ 21) ∧ (hvr v i).1 ≤ 2 * i
  | 0 => ⟨Nat.le_refl _, fun q => absurd q (by decide), Nat.zero_le _⟩
  | i + 1 => by
    obtain ⟨a, b, c⟩ := hvr_lt hv i
    have := hv (2 * i + 1)
    unfold hvr
    split
    · rename_i q
      exact ⟨a, fun _ => by omega, by omega⟩
    · exact ⟨by show v (2 * i + 1) ≤ 22; omega, fun _ => this, by show 2 * i + 1 ≤ 2 * (i + 1); omega⟩
theorem two_h : ∀ g, g < 8 → 1 ≤ g → 2 ^ g = 2 * 2 ^ (g - 1) ∧ 1 ≤ 2 ^ (g - 1) ∧ 2 ^ (g - 1) ≤ 64 := by decide +kernel
theorem nI_2 (a : Nat) : nI a + (2 : Int32) = nI (a + 2) := by rw [k2, nI_add]
section P54
variable {h : xH} {g f t : Nat}
theorem friendsWithin_e (s : Shp h) (z : Jseat h) (hf : f < 2 ^ 24) (e2 : hI h 7 2 = nI f) {S : Nat} (hS : S < 128) : f_Ma_friendsWithin 1 (nI S) h = some (nI (pcn 31 (f &&& wi S)), h) := by
  simp only [f_Ma_friendsWithin, gd, shp s, if_true, Se_within_e s z hS, bind_s, e2, fa_and, pcI (Nat.lt_of_le_of_lt (Nat.and_le_left (n := f) (m := wi S)) hf)]
theorem Ma_halved_L {a1 : Int32} (s : Shp h) (z : Jseat h) (g1 : 1 ≤ g) (g7 : g ≤ 7) (e1 : hI h 7 1 = nI g) (hf : f < 2 ^ c2 g) (e2 : hI h 7 2 = nI f) (K : Int32 → Int32 → Int32 → xH → Option (Int32 × xH)) : f_Ma_halved_L19 1 a1 fu (0 : Int32) (22 : Int32) (1 : Int32) h K = K (nI (hvr (hvc g f) (2 ^ (g - 1))).1) (nI (hvr (hvc g f) (2 ^ (g - 1))).2) (nI (2 * 2 ^ (g - 1) + 1)) h := by
  obtain ⟨t1, t2, t3⟩ := two_h g (by omega) g1
  have f24 := lt24 g7 hf
  have hv : ∀ s, hvc g f s ≤ 21 := fun s => Nat.le_trans (hvc_le g f s) (c2_le g g7)
  refine lp2x (fun n i (v : Int32 × Int32) => f_Ma_halved_L19 1 a1 n v.1 v.2 i h K) (fun o => o = _) (fun i v => v = (nI (hvr (hvc g f) i).1, nI (hvr (hvc g f) i).2)) (2 ^ (g - 1)) ?_ ?_ (2 ^ (g - 1)) 0 (0, 22) fu (by omega) (by show _ < 2000; omega) rfl
  · intro n i v hi e
    subst e
    refine Or.inr ⟨_, ?_, rfl⟩
    obtain ⟨b1, b2, b3⟩ := hvr_lt hv i
    have hS : 2 * i + 1 < 2 ^ g := by omega
    have hc := hvc_e g7 hf hS
    show f_Ma_halved_L19 1 a1 (n + 1) (nI (hvr (hvc g f) i).1) (nI (hvr (hvc g f) i).2) (nI (2 * i + 1)) h K = f_Ma_halved_L19 1 a1 n (nI (hvr (hvc g f) (i + 1)).1) (nI (hvr (hvc g f) (i + 1)).2) (nI (2 * (i + 1) + 1)) h K
    have HS : hvr (hvc g f) (i + 1) = if (hvr (hvc g f) i).2 ≤ hvc g f (2 * i + 1) then hvr (hvc g f) i else (2 * i + 1, hvc g f (2 * i + 1)) := rfl
    have hle := hv (2 * i + 1)
    rw [f_Ma_halved_L19, HS]
    simp only [gd, shp s, if_true, Ta_everyone_n s g7 e1, bind_s]
    rw [if_neg (show ¬ nI (2 ^ g - 1) < nI (2 * i + 1) from nI_nlt (by omega) (by omega)), friendsWithin_e s z f24 e2 (by omega)]
    simp only [bind_s, shp s, if_true, Ta_everyone_n s g7 e1, an_I, friendsWithin_e s z f24 e2 (an_128 (x := 2 * i + 1) g7), nI_add, hc, li_le (show (hvr (hvc g f) i).2 < 2 ^ 31 by omega) (show hvc g f (2 * i + 1) < 2 ^ 31 by omega), nI_2]
    rw [show 2 * i + 1 + 2 = 2 * (i + 1) + 1 by omega]
    split
    · rfl
    · rfl
  · intro n v e
    subst e
    show f_Ma_halved_L19 1 a1 (n + 1) _ _ (nI (2 * 2 ^ (g - 1) + 1)) h K = _
    rw [f_Ma_halved_L19]
    simp only [gd, shp s, if_true, Ta_everyone_n s g7 e1, bind_s]
    rw [if_pos (nI_lt (by omega) (by omega))]
theorem Mo_half_in {a1 a2 a3 : Int32} {S : Nat} (s : Shp h) (g1 : 1 ≤ g) (g7 : g ≤ 7) (m1 : hI h 36 7 = nI g) (hf : f < 2 ^ 31) (m2 : hI h 36 8 = nI f) (hS : S < 2 ^ 31) (K : Int32 → Int32 → xH → Option (Int32 × xH)) : f_Mo_halved_L37 36 a1 a2 a3 (nI S) fu (0 : Int32) (1 : Int32) h K = K (nI (hvc g f S)) (nI g) h := by
  have inner : ∀ k K, k < g → f_Mo_halved_L49 36 a1 a2 a3 (nI S) (nI k) fu (nI (fb_ct (fun p => f.testBit p && (S.testBit (lo p) == S.testBit (hi p))) (c2 k))) (0 : Int32) h K = K (nI (fb_ct (fun p => f.testBit p && (S.testBit (lo p) == S.testBit (hi p))) (c2 (k + 1)))) (nI k) h := by
    intro k K hk7
    refine lpf (fun n i (v : Int32) => f_Mo_halved_L49 36 a1 a2 a3 (nI S) (nI k) n v i h K) (fun o => o = _) (fun i v => v = nI (fb_ct (fun p => f.testBit p && (S.testBit (lo p) == S.testBit (hi p))) (c2 k + i))) k (i := 0) (Nat.zero_le _) (by omega) rfl ?_ ?_
    · intro n i v hx e
      subst e
      obtain ⟨p1, p2, p3, p4, p5⟩ := prs_c2 k (by omega) i hx
      refine Or.inr ⟨_, ?_, rfl⟩
      show _ = f_Mo_halved_L49 36 a1 a2 a3 (nI S) (nI k) n (nI (fb_ct (fun p => f.testBit p && (S.testBit (lo p) == S.testBit (hi p))) (c2 k + i) + (if (f.testBit (c2 k + i) && (S.testBit (lo (c2 k + i)) == S.testBit (hi (c2 k + i)))) = true then 1 else 0))) (nI (i + 1)) h K
      rw [f_Mo_halved_L49, p2, p3]
      simp only [jn, gd, shp s, if_true, Mo_know_n s hf m2 (show i < 7 by omega) (show k < 7 by omega) (show prs i k < 31 by omega), p1, bind_s, tb hS (show i < 31 by omega), tb hS (show k < 31 by omega), nI_1]
      rw [if_neg (nI_ge hx (by omega))]
      cases f.testBit (c2 k + i)
      · rw [if_pos b2i_f]
        show f_Mo_halved_L49 36 a1 a2 a3 (nI S) (nI k) n (nI _ + nI 0) _ h K = _
        rw [nI_add]
        rfl
      · rw [if_neg (show ¬ b2i true = 0 by decide)]
        cases S.testBit i <;> cases S.testBit k
        · rw [if_pos rfl]
          rfl
        · rw [if_neg (by decide)]
          show f_Mo_halved_L49 36 a1 a2 a3 (nI S) (nI k) n (nI _ + nI 0) _ h K = _
          rw [nI_add]
          rfl
        · rw [if_neg (by decide)]
          show f_Mo_halved_L49 36 a1 a2 a3 (nI S) (nI k) n (nI _ + nI 0) _ h K = _
          rw [nI_add]
          rfl
        · rw [if_pos rfl]
          rfl
    · intro n v e
      subst e
      simp only [f_Mo_halved_L49]
      rw [if_pos (nI_le (Nat.le_refl _) (by omega)), c2_succ k (by omega)]
  refine lpf (fun n i (v : Int32) => f_Mo_halved_L37 36 a1 a2 a3 (nI S) n v i h K) (fun o => o = K (nI (hvc g f S)) (nI g) h) (fun i v => v = nI (fb_ct (fun p => f.testBit p && (S.testBit (lo p) == S.testBit (hi p))) (c2 i))) g (i := 1) g1 (by omega) (by rw [c2_0]; rfl) ?_ ?_
  · intro n i v hi e
    subst e
    refine Or.inr ⟨_, ?_, rfl⟩
    simp only [f_Mo_halved_L37, gd, shp s, if_true, m1]
    rw [if_neg (nI_ge hi (by omega)), inner i _ hi, nI_1]
  · intro n v e
    subst e
    simp only [f_Mo_halved_L37, gd, shp s, if_true, m1]
    rw [if_pos (nI_le (Nat.le_refl _) (by omega))]
    rfl
theorem Mo_halved_L {a1 : Int32} (s : Shp h) (g1 : 1 ≤ g) (g7 : g ≤ 7) (m1 : hI h 36 7 = nI g) (hf : f < 2 ^ c2 g) (m2 : hI h 36 8 = nI f) (K : Int32 → Int32 → Int32 → xH → Option (Int32 × xH)) : f_Mo_halved_L20 36 a1 fu (-1 : Int32) (0 : Int32) (1 : Int32) h K = K (nI (hvr (hvc g f) (2 ^ (g - 1))).1) (nI (hvr (hvc g f) (2 ^ (g - 1))).2) (nI (2 * 2 ^ (g - 1) + 1)) h := by
  obtain ⟨t1, t2, t3⟩ := two_h g (by omega) g1
  have f31 := lt3 (lt24 g7 hf)
  have hv : ∀ s, hvc g f s ≤ 21 := fun s => Nat.le_trans (hvc_le g f s) (c2_le g g7)
  have IN := fun (a2 a3 : Int32) (S : Nat) (hS : S < 2 ^ 31) => Mo_half_in (a1 := a1) (a2 := a2) (a3 := a3) s g1 g7 m1 f31 m2 hS
  refine lp2x (fun n i (v : Int32 × Int32) => f_Mo_halved_L20 36 a1 n v.1 v.2 i h K) (fun o => o = _) (fun i v => v = if i = 0 then (-1, 0) else (nI (hvr (hvc g f) i).1, nI (hvr (hvc g f) i).2)) (2 ^ (g - 1)) ?_ ?_ (2 ^ (g - 1)) 0 (-1, 0) fu (by omega) (by show _ < 2000; omega) rfl
  · intro n i v hi e
    obtain ⟨b1, b2, b3⟩ := hvr_lt hv i
    have hle := hv (2 * i + 1)
    have HS : hvr (hvc g f) (i + 1) = if (hvr (hvc g f) i).2 ≤ hvc g f (2 * i + 1) then hvr (hvc g f) i else (2 * i + 1, hvc g f (2 * i + 1)) := rfl
    have E : ∀ x y : Int32, f_Mo_halved_L20 36 a1 (n + 1) x y (nI (2 * i + 1)) h K = if x = (-1 : Int32) then f_Mo_halved_L20 36 a1 n (nI (2 * i + 1)) (nI (hvc g f (2 * i + 1))) (nI (2 * (i + 1) + 1)) h K else if y ≤ nI (hvc g f (2 * i + 1)) then f_Mo_halved_L20 36 a1 n x y (nI (2 * (i + 1) + 1)) h K else f_Mo_halved_L20 36 a1 n (nI (2 * i + 1)) (nI (hvc g f (2 * i + 1))) (nI (2 * (i + 1) + 1)) h K := by
      intro x y
      rw [f_Mo_halved_L20]
      simp only [jn, gd, shp s, if_true, m1, ev_n2 g7]
      rw [if_neg (nI_ge (by omega) (by omega)), IN x y _ (by omega), nI_2, show 2 * i + 1 + 2 = 2 * (i + 1) + 1 by omega]
    refine Or.inr ⟨(nI (hvr (hvc g f) (i + 1)).1, nI (hvr (hvc g f) (i + 1)).2), ?_, by rw [if_neg (by omega)]⟩
    subst e
    by_cases c : i = 0
    · subst c
      rw [if_pos rfl]
      show f_Mo_halved_L20 36 a1 (n + 1) (-1) 0 (nI (2 * 0 + 1)) h K = f_Mo_halved_L20 36 a1 n (nI (hvr (hvc g f) (0 + 1)).1) (nI (hvr (hvc g f) (0 + 1)).2) (nI (2 * (0 + 1) + 1)) h K
      rw [E, if_pos rfl, HS, if_neg (show ¬ (hvr (hvc g f) 0).2 ≤ hvc g f (2 * 0 + 1) by show ¬ 22 ≤ _; omega)]
    · rw [if_neg c]
      show f_Mo_halved_L20 36 a1 (n + 1) (nI (hvr (hvc g f) i).1) (nI (hvr (hvc g f) i).2) (nI (2 * i + 1)) h K = f_Mo_halved_L20 36 a1 n (nI (hvr (hvc g f) (i + 1)).1) (nI (hvr (hvc g f) (i + 1)).2) (nI (2 * (i + 1) + 1)) h K
      have nb' : ¬ nI (hvr (hvc g f) i).1 = (-1 : Int32) := fun z => nI_pos (n := (hvr (hvc g f) i).1) (by omega) (by rw [z]; decide)
      rw [E, if_neg nb', HS]
      simp only [li_le (show (hvr (hvc g f) i).2 < 2 ^ 31 by omega) (show hvc g f (2 * i + 1) < 2 ^ 31 by omega)]
      split
      · rfl
      · rfl
  · intro n v e
    subst e
    rw [if_neg (by omega)]
    show f_Mo_halved_L20 36 a1 (n + 1) _ _ (nI (2 * 2 ^ (g - 1) + 1)) h K = _
    rw [f_Mo_halved_L20]
    simp only [gd, shp s, if_true, m1, ev_n2 g7]
    rw [if_pos (nI_le (by omega) (by omega))]
end P54
theorem Y_halved : Sp_halved Inv := by
  intro w h I
  obtain ⟨g, f, t, n, r, T, j⟩ := I
  have j0 := j
  obtain ⟨sh, hn, z, ⟨⟨g1, g7, hf, ht, hd⟩, e1, e2, e3, m1, m2, m3⟩, jk, jw, jp, js, jst, jx, jr⟩ := j0
  have f24 := lt24 g7 hf
  have t24 := lt24 g7 ht
  have f31 := lt3 f24
  have t31 := lt3 t24
  have s36 : hK h 36 = 11 := by simp only [shp sh]
  cases cw : inr w 1 with
  | false =>
    refine ⟨-2, h, h, ?_, s36, ?_, ⟨g, f, t, n, r, T, j⟩⟩
    · simp only [f_Ma_halved, Ma_isWithin_1, cw, bind_s, b2i_f, if_true]
    · simp only [f_Mo_halved, Mo_in_1, cw, bind_s, b2i_f, if_true]
  | true =>
    refine ⟨if w = 0 then nI (hvr (hvc g f) (2 ^ (g - 1))).2 else nI (hvr (hvc g f) (2 ^ (g - 1))).1, h, h, ?_, s36, ?_, ⟨g, f, t, n, r, T, j⟩⟩
    · simp only [f_Ma_halved, Ma_isWithin_1, cw, bind_s, b2i_t, i10, if_false]
      rw [Ma_halved_L sh z g1 g7 e1 hf e2]
    · simp only [f_Mo_halved, Mo_in_1, cw, bind_s, b2i_t, i10, if_false]
      rw [Mo_halved_L sh g1 g7 m1 hf m2]
/-! friends in common -/
def cob (g f i j : Nat) : Nat := fb_ct (fun k => (k != i && f.testBit (prs i k)) && (k != j && f.testBit (prs j k))) g
theorem cob_le (g f i j : Nat) : cob g f i j ≤ g := fb_ct_le _ _
section P54
variable {h : xH} {g f : Nat}
theorem knownByBoth_e (s : Shp h) (g7 : g ≤ 7) (e1 : hI h 7 1 = nI g) (hf : f < 2 ^ 31) (e2 : hI h 7 2 = nI f) {i j : Nat} (hi : i < 7) (hj : j < 7) : f_Ma_knownByBoth 1 (nI i) (nI j) h = some (nI (cob g f i j), h) := by
  have l1 := kb_lt f i g
  have l2 : kb f i g &&& kb f j g < 2 ^ g := Nat.lt_of_le_of_lt Nat.and_le_left l1
  have tg := two_g g7
  have E : pcn 31 (kb f i g &&& kb f j g) = cob g f i j := by
    rw [pcn_lt l2 (by omega)]
    refine fb_ct_cong (fun k hk => ?_)
    rw [Nat.testBit_and, kb_bit, kb_bit, decide_eq_true hk, Bool.true_and, Bool.true_and]
  simp only [f_Ma_knownByBoth, gd, shp s, if_true, Ta_knownBy_e s g7 e1 hf e2 hi, Ta_knownBy_e s g7 e1 hf e2 hj, bind_s, fa_and, pcI (show kb f i g &&& kb f j g < 2 ^ 24 by omega), E]
theorem prs7 {i k : Nat} (hi : i < 7) (hk : k < 7) (n : i ≠ k) : prs i k < 31 := by
  have := prs_lt 7 (by decide) i hi k hk n
  have := c2_le 7 (by decide)
  omega
theorem Mo_cob_e {a1 : Int32} (s : Shp h) (g7 : g ≤ 7) (m1 : hI h 36 7 = nI g) (hf : f < 2 ^ 31) (m2 : hI h 36 8 = nI f) {i j : Nat} (hi : i < 7) (hj : j < 7) (K : Int32 → Int32 → xH → Option (Int32 × xH)) : f_Mo_common_L75 36 a1 (nI j) (nI i) fu (0 : Int32) (0 : Int32) h K = K (nI (cob g f i j)) (nI g) h := by
  refine lpf (fun n k (v : Int32) => f_Mo_common_L75 36 a1 (nI j) (nI i) n v k h K) (fun o => o = K (nI (cob g f i j)) (nI g) h) (fun k v => v = nI (fb_ct (fun k => (k != i && f.testBit (prs i k)) && (k != j && f.testBit (prs j k))) k)) g (i := 0) (Nat.zero_le _) (by omega) rfl ?_ ?_
  · intro n k v hk e
    subst e
    refine Or.inr ⟨_, ?_, rfl⟩
    show _ = f_Mo_common_L75 36 a1 (nI j) (nI i) n (nI (fb_ct (fun k => (k != i && f.testBit (prs i k)) && (k != j && f.testBit (prs j k))) k + (if ((k != i && f.testBit (prs i k)) && (k != j && f.testBit (prs j k))) = true then 1 else 0))) (nI (k + 1)) h K
    generalize fb_ct (fun k => (k != i && f.testBit (prs i k)) && (k != j && f.testBit (prs j k))) k = ct
    have z0 : nI ct + (0 : Int32) = nI (ct + 0) := by rw [k0, nI_add]
    have z1 : nI ct + (1 : Int32) = nI (ct + 1) := by rw [k1, nI_add]
    rw [f_Mo_common_L75]
    simp only [jn, gd, shp s, if_true, m1, li_eq (show k < 2 ^ 31 by omega) (show i < 2 ^ 31 by omega), li_eq (show k < 2 ^ 31 by omega) (show j < 2 ^ 31 by omega), nI_1, z0, z1]
    rw [if_neg (nI_ge hk (by omega))]
    by_cases c1 : k = i
    · rw [if_pos c1, show (k != i) = false by rw [c1]; simp]
      rfl
    · rw [if_neg c1, show (k != i) = true from bne_iff_ne.mpr c1]
      by_cases c2 : k = j
      · rw [if_pos c2, show (k != j) = false by rw [c2]; simp, Bool.false_and, Bool.and_false]
        rfl
      · rw [if_neg c2, show (k != j) = true from bne_iff_ne.mpr c2, Mo_know_n s hf m2 hi (by omega) (prs7 hi (by omega) (fun q => c1 q.symm))]
        simp only [bind_s, shp s, if_true, Mo_know_n s hf m2 hj (show k < 7 by omega) (prs7 hj (by omega) (fun q => c2 q.symm))]
        cases f.testBit (prs i k)
        · rfl
        · cases f.testBit (prs j k)
          · rfl
          · rfl
  · intro n v e
    subst e
    rw [f_Mo_common_L75]
    simp only [gd, shp s, if_true, m1]
    rw [if_pos (nI_le (Nat.le_refl _) (by omega))]
    rfl
/-- a walk over pairs that stops at the first that isn't so -/
theorem Ma_common_L {a1 : Int32} (s : Shp h) (g1 : 1 ≤ g) (g7 : g ≤ 7) (e1 : hI h 7 1 = nI g) (hf : f < 2 ^ 31) (e2 : hI h 7 2 = nI f) : f_Ma_common_L23 1 a1 fu (1 : Int32) h (fun v19 h20 => some ((1 : Int32), h20)) = some (b2i (fb_ct (fun p => cob g f (lo p) (hi p) != 1) (c2 g) == 0), h) := by
  generalize hW : (fun p => cob g f (lo p) (hi p) != 1) = W
  have hWp : ∀ p, W p = (cob g f (lo p) (hi p) != 1) := fun p => by rw [← hW]
  have bad : ∀ p, p < c2 g → W p = true → some ((0 : Int32), h) = some (b2i (fb_ct W (c2 g) == 0), h) := fun p hp hw => by
    rw [beq_eq_false_iff_ne.mpr]
    · rfl
    · intro q
      have := fb_ct_zero.mp q p hp
      rw [hw] at this
      cases this
  have inner : ∀ k K, k < g → (∀ q, q < c2 k → W q = false) → (f_Ma_common_L36 1 a1 (nI k) fu (0 : Int32) h K = some (b2i (fb_ct W (c2 g) == 0), h)) ∨ (f_Ma_common_L36 1 a1 (nI k) fu (0 : Int32) h K = K (nI k) h ∧ ∀ q, q < c2 (k + 1) → W q = false) := by
    intro k K hk7 P
    refine lpf (fun n i (v : Unit) => f_Ma_common_L36 1 a1 (nI k) n i h K) (fun o => o = some (b2i (fb_ct W (c2 g) == 0), h) ∨ (o = K (nI k) h ∧ ∀ q, q < c2 (k + 1) → W q = false)) (fun i v => ∀ q, q < c2 k + i → W q = false) k (i := 0) (s := ()) (Nat.zero_le _) (by omega) P ?_ ?_
    · intro n i v hx P
      obtain ⟨p1, p2, p3, p4, p5⟩ := prs_c2 k (by omega) i hx
      have E : f_Ma_common_L36 1 a1 (nI k) (n + 1) (nI i) h K = if W (c2 k + i) = true then some ((0 : Int32), h) else f_Ma_common_L36 1 a1 (nI k) n (nI (i + 1)) h K := by
        rw [f_Ma_common_L36, hWp, p2, p3]
        have cl := cob_le g f i k
        simp only [gd, shp s, if_true, knownByBoth_e s g7 e1 hf e2 (show i < 7 by omega) (show k < 7 by omega), bind_s, nI_1, show (nI (cob g f i k) = (1 : Int32)) = (cob g f i k = 1) from li_eq (by omega) (by decide)]
        rw [if_neg (nI_ge hx (by omega))]
        by_cases c : cob g f i k = 1
        · rw [if_pos c, if_neg (by rw [c]; simp)]
        · rw [if_neg c, if_pos (bne_iff_ne.mpr c)]
      cases c : W (c2 k + i) with
      | true =>
        rw [c, if_pos rfl] at E
        exact Or.inl (Or.inl (E.trans (bad _ (Nat.lt_of_lt_of_le p5 (c2_mono g (by omega) (k + 1) (by omega))) c)))
      | false =>
        rw [c, if_neg (by decide)] at E
        refine Or.inr ⟨(), E, fun q hq => ?_⟩
        rcases (by omega : q < c2 k + i ∨ q = c2 k + i) with u | u
        · exact P q u
        · rw [u, c]
    · intro n v P
      right
      refine ⟨?_, ?_⟩
      · simp only [f_Ma_common_L36]
        rw [if_pos (nI_le (Nat.le_refl _) (by omega))]
      · rw [← c2_succ k (by omega)]
        exact P
  refine lpf (fun n k (v : Unit) => f_Ma_common_L23 1 a1 n k h (fun v19 h20 => some ((1 : Int32), h20))) (fun o => o = some (b2i (fb_ct W (c2 g) == 0), h)) (fun k v => ∀ q, q < c2 k → W q = false) g (i := 1) (s := ()) g1 (by omega) (fun q hq => by rw [c2_0] at hq; omega) ?_ ?_
  · intro n k v hk P
    have E : f_Ma_common_L23 1 a1 (n + 1) (nI k) h (fun v19 h20 => some ((1 : Int32), h20)) = f_Ma_common_L36 1 a1 (nI k) fu (0 : Int32) h (fun v17 h18 => f_Ma_common_L23 1 a1 n (nI (k + 1)) h18 (fun v19 h20 => some ((1 : Int32), h20))) := by
      rw [f_Ma_common_L23]
      simp only [gd, shp s, if_true, e1]
      rw [if_neg (nI_ge hk (by omega)), nI_1]
    rcases inner k (fun v17 h18 => f_Ma_common_L23 1 a1 n (nI (k + 1)) h18 (fun v19 h20 => some ((1 : Int32), h20))) hk P with q | ⟨q1, q2⟩
    · exact Or.inl (E.trans q)
    · exact Or.inr ⟨(), E.trans q1, q2⟩
  · intro n v P
    rw [beq_iff_eq.mpr (fb_ct_zero.mpr P)]
    simp only [f_Ma_common_L23, gd, shp s, if_true, e1]
    rw [if_pos (nI_le (Nat.le_refl _) (by omega))]
    rfl
theorem Mo_common_L {a1 : Int32} (s : Shp h) (g1 : 1 ≤ g) (g7 : g ≤ 7) (m1 : hI h 36 7 = nI g) (hf : f < 2 ^ 31) (m2 : hI h 36 8 = nI f) : f_Mo_common_L54 36 a1 fu (1 : Int32) h (fun v34 h35 => some ((1 : Int32), h35)) = some (b2i (fb_ct (fun p => cob g f (lo p) (hi p) != 1) (c2 g) == 0), h) := by
  generalize hW : (fun p => cob g f (lo p) (hi p) != 1) = W
  have hWp : ∀ p, W p = (cob g f (lo p) (hi p) != 1) := fun p => by rw [← hW]
  have bad : ∀ p, p < c2 g → W p = true → some ((0 : Int32), h) = some (b2i (fb_ct W (c2 g) == 0), h) := fun p hp hw => by
    rw [beq_eq_false_iff_ne.mpr]
    · rfl
    · intro q
      have := fb_ct_zero.mp q p hp
      rw [hw] at this
      cases this
  have inner : ∀ k K, k < g → (∀ q, q < c2 k → W q = false) → (f_Mo_common_L64 36 a1 (nI k) fu (0 : Int32) h K = some (b2i (fb_ct W (c2 g) == 0), h)) ∨ (f_Mo_common_L64 36 a1 (nI k) fu (0 : Int32) h K = K (nI k) h ∧ ∀ q, q < c2 (k + 1) → W q = false) := by
    intro k K hk7 P
    refine lpf (fun n i (v : Unit) => f_Mo_common_L64 36 a1 (nI k) n i h K) (fun o => o = some (b2i (fb_ct W (c2 g) == 0), h) ∨ (o = K (nI k) h ∧ ∀ q, q < c2 (k + 1) → W q = false)) (fun i v => ∀ q, q < c2 k + i → W q = false) k (i := 0) (s := ()) (Nat.zero_le _) (by omega) P ?_ ?_
    · intro n i v hx P
      obtain ⟨p1, p2, p3, p4, p5⟩ := prs_c2 k (by omega) i hx
      have E : f_Mo_common_L64 36 a1 (nI k) (n + 1) (nI i) h K = if W (c2 k + i) = true then some ((0 : Int32), h) else f_Mo_common_L64 36 a1 (nI k) n (nI (i + 1)) h K := by
        rw [f_Mo_common_L64, hWp, p2, p3]
        have cl := cob_le g f i k
        rw [if_neg (nI_ge hx (by omega)), Mo_cob_e s g7 m1 hf m2 (by omega) (by omega), nI_1]
        simp only [show (nI (cob g f i k) = (1 : Int32)) = (cob g f i k = 1) from li_eq (by omega) (by decide)]
        by_cases c : cob g f i k = 1
        · rw [if_pos c, if_neg (by rw [c]; simp)]
        · rw [if_neg c, if_pos (bne_iff_ne.mpr c)]
      cases c : W (c2 k + i) with
      | true =>
        rw [c, if_pos rfl] at E
        exact Or.inl (Or.inl (E.trans (bad _ (Nat.lt_of_lt_of_le p5 (c2_mono g (by omega) (k + 1) (by omega))) c)))
      | false =>
        rw [c, if_neg (by decide)] at E
        refine Or.inr ⟨(), E, fun q hq => ?_⟩
        rcases (by omega : q < c2 k + i ∨ q = c2 k + i) with u | u
        · exact P q u
        · rw [u, c]
    · intro n v P
      right
      refine ⟨?_, ?_⟩
      · simp only [f_Mo_common_L64]
        rw [if_pos (nI_le (Nat.le_refl _) (by omega))]
      · rw [← c2_succ k (by omega)]
        exact P
  refine lpf (fun n k (v : Unit) => f_Mo_common_L54 36 a1 n k h (fun v34 h35 => some ((1 : Int32), h35))) (fun o => o = some (b2i (fb_ct W (c2 g) == 0), h)) (fun k v => ∀ q, q < c2 k → W q = false) g (i := 1) (s := ()) g1 (by omega) (fun q hq => by rw [c2_0] at hq; omega) ?_ ?_
  · intro n k v hk P
    have E : f_Mo_common_L54 36 a1 (n + 1) (nI k) h (fun v34 h35 => some ((1 : Int32), h35)) = f_Mo_common_L64 36 a1 (nI k) fu (0 : Int32) h (fun v32 h33 => f_Mo_common_L54 36 a1 n (nI (k + 1)) h33 (fun v34 h35 => some ((1 : Int32), h35))) := by
      rw [f_Mo_common_L54]
      simp only [gd, shp s, if_true, m1]
      rw [if_neg (nI_ge hk (by omega)), nI_1]
    rcases inner k (fun v32 h33 => f_Mo_common_L54 36 a1 n (nI (k + 1)) h33 (fun v34 h35 => some ((1 : Int32), h35))) hk P with q | ⟨q1, q2⟩
    · exact Or.inl (E.trans q)
    · exact Or.inr ⟨(), E.trans q1, q2⟩
  · intro n v P
    rw [beq_iff_eq.mpr (fb_ct_zero.mpr P)]
    simp only [f_Mo_common_L54, gd, shp s, if_true, m1]
    rw [if_pos (nI_le (Nat.le_refl _) (by omega))]
    rfl
def who (g f : Nat) : Int32 := if fa_first (fun i => deg g f i == g - 1) g < g then nI (fa_first (fun i => deg g f i == g - 1) g) else -1
theorem deg_le (g f i : Nat) : deg g f i ≤ g := fb_ct_le _ _
theorem Ma_who_e (s : Shp h) (g1 : 1 ≤ g) (g7 : g ≤ 7) (e1 : hI h 7 1 = nI g) (hf : f < 2 ^ 31) (e2 : hI h 7 2 = nI f) : f_Ma_whoKnowsAll 1 h = some (who g f, h) := by
  unfold f_Ma_whoKnowsAll
  refine lpf (fun n k (v : Unit) => f_Ma_whoKnowsAll_L2 1 n k h (fun v15 h16 => some ((-1 : Int32), h16))) (fun o => o = some (who g f, h)) (fun k v => ∀ q, q < k → (deg g f q == g - 1) = false) g (i := 0) (s := ()) (Nat.zero_le _) (by omega) (fun q hq => by omega) ?_ ?_
  · intro n k v hk P
    have dl := deg_le g f k
    obtain ⟨x, x1, x2⟩ := Ma_deg_e s g7 e1 hf e2 (show k < 7 by omega)
    have E : f_Ma_whoKnowsAll_L2 1 (n + 1) (nI k) h (fun v15 h16 => some ((-1 : Int32), h16)) = if (deg g f k == g - 1) = true then some (nI k, h) else f_Ma_whoKnowsAll_L2 1 n (nI (k + 1)) h (fun v15 h16 => some ((-1 : Int32), h16)) := by
      rw [f_Ma_whoKnowsAll_L2]
      simp only [gd, shp s, if_true, e1]
      rw [if_neg (nI_ge hk (by omega)), x1]
      simp only [bind_s, x2, shp s, if_true, e1, nI_1, show nI g - (1 : Int32) = nI (g - 1) from li_sub g1, li_eq (show deg g f k < 2 ^ 31 by omega) (show g - 1 < 2 ^ 31 by omega)]
      by_cases c : deg g f k = g - 1
      · rw [if_pos c, if_pos (beq_iff_eq.mpr c)]
      · rw [if_neg c, if_neg (fun q => c (eq_of_beq q))]
    cases c : (deg g f k == g - 1) with
    | true =>
      rw [c, if_pos rfl] at E
      left
      show _ = some (who g f, h)
      unfold who
      rw [E, first_eq (p := fun i => deg g f i == g - 1) c P hk, if_pos hk]
    | false =>
      rw [c, if_neg (by decide)] at E
      refine Or.inr ⟨(), E, fun q hq => ?_⟩
      rcases (by omega : q < k ∨ q = k) with u | u
      · exact P q u
      · rw [u, c]
  · intro n v P
    show _ = some (who g f, h)
    unfold who
    rw [first_none P, if_neg (by omega)]
    simp only [f_Ma_whoKnowsAll_L2, gd, shp s, if_true, e1]
    rw [if_pos (nI_le (Nat.le_refl _) (by omega))]
theorem Mo_who_e {a1 : Int32} (s : Shp h) (g1 : 1 ≤ g) (g7 : g ≤ 7) (m1 : hI h 36 7 = nI g) (hf : f < 2 ^ 31) (m2 : hI h 36 8 = nI f) : f_Mo_common_L20 36 a1 fu (0 : Int32) h (fun v41 h42 => some ((-1 : Int32), h42)) = some (who g f, h) := by
  refine lpf (fun n k (v : Unit) => f_Mo_common_L20 36 a1 n k h (fun v41 h42 => some ((-1 : Int32), h42))) (fun o => o = some (who g f, h)) (fun k v => ∀ q, q < k → (deg g f q == g - 1) = false) g (i := 0) (s := ()) (Nat.zero_le _) (by omega) (fun q hq => by omega) ?_ ?_
  · intro n k v hk P
    have dl := deg_le g f k
    have E : f_Mo_common_L20 36 a1 (n + 1) (nI k) h (fun v41 h42 => some ((-1 : Int32), h42)) = if (deg g f k == g - 1) = true then some (nI k, h) else f_Mo_common_L20 36 a1 n (nI (k + 1)) h (fun v41 h42 => some ((-1 : Int32), h42)) := by
      rw [f_Mo_common_L20]
      simp only [gd, shp s, if_true, m1]
      rw [if_neg (nI_ge hk (by omega)), Mo_degree_e s g7 m1 hf m2 (by omega)]
      simp only [bind_s, shp s, if_true, m1, nI_1, show nI g - (1 : Int32) = nI (g - 1) from li_sub g1, li_eq (show deg g f k < 2 ^ 31 by omega) (show g - 1 < 2 ^ 31 by omega)]
      by_cases c : deg g f k = g - 1
      · rw [if_pos c, if_pos (beq_iff_eq.mpr c)]
      · rw [if_neg c, if_neg (fun q => c (eq_of_beq q))]
    cases c : (deg g f k == g - 1) with
    | true =>
      rw [c, if_pos rfl] at E
      left
      show _ = some (who g f, h)
      unfold who
      rw [E, first_eq (p := fun i => deg g f i == g - 1) c P hk, if_pos hk]
    | false =>
      rw [c, if_neg (by decide)] at E
      refine Or.inr ⟨(), E, fun q hq => ?_⟩
      rcases (by omega : q < k ∨ q = k) with u | u
      · exact P q u
      · rw [u, c]
  · intro n v P
    show _ = some (who g f, h)
    unfold who
    rw [first_none P, if_neg (by omega)]
    simp only [f_Mo_common_L20, gd, shp s, if_true, m1]
    rw [if_pos (nI_le (Nat.le_refl _) (by omega))]
end P54
theorem Y_common : Sp_common Inv := by
  intro w h I
  obtain ⟨g, f, t, n, r, T, j⟩ := I
  have j0 := j
  obtain ⟨sh, hn, z, ⟨⟨g1, g7, hf, ht, hd⟩, e1, e2, e3, m1, m2, m3⟩, jk, jw, jp, js, jst, jx, jr⟩ := j0
  have f24 := lt24 g7 hf
  have t24 := lt24 g7 ht
  have f31 := lt3 f24
  have t31 := lt3 t24
  have s36 : hK h 36 = 11 := by simp only [shp sh]
  cases cw : inr w 1 with
  | false =>
    refine ⟨-2, h, h, ?_, s36, ?_, ⟨g, f, t, n, r, T, j⟩⟩
    · simp only [f_Ma_common, Ma_isWithin_1, cw, bind_s, b2i_f, if_true]
    · simp only [f_Mo_common, Mo_in_1, cw, bind_s, b2i_f, if_true]
  | true =>
    by_cases w1 : w = (1 : Int32)
    · refine ⟨who g f, h, h, ?_, s36, ?_, ⟨g, f, t, n, r, T, j⟩⟩
      · simp only [f_Ma_common, Ma_isWithin_1, cw, bind_s, b2i_t, i10, if_false, if_pos w1, gd, shp sh, if_true, Ma_who_e sh g1 g7 e1 f31 e2]
      · simp only [f_Mo_common, Mo_in_1, cw, bind_s, b2i_t, i10, if_false, if_pos w1]
        exact Mo_who_e sh g1 g7 m1 f31 m2
    · refine ⟨b2i (fb_ct (fun p => cob g f (lo p) (hi p) != 1) (c2 g) == 0), h, h, ?_, s36, ?_, ⟨g, f, t, n, r, T, j⟩⟩
      · simp only [f_Ma_common, Ma_isWithin_1, cw, bind_s, b2i_t, i10, if_false, if_neg w1]
        exact Ma_common_L sh g1 g7 e1 f31 e2
      · simp only [f_Mo_common, Mo_in_1, cw, bind_s, b2i_t, i10, if_false, if_neg w1]
        exact Mo_common_L sh g1 g7 m1 f31 m2

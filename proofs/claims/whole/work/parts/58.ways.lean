/-! what may come of a half known table: all ways, in two orders -/
def upd2 (v : Nat → Nat) (s : Nat × Nat) (x : Nat) : Nat × Nat := (s.1 + (if v x = 0 then 1 else 0), max s.2 (v x))
def Fw (v : Nat → Nat) : List Nat → Nat → Nat × Nat → Nat × Nat
  | [], x, s => upd2 v s x
  | p :: ps, x, s => Fw v ps x (Fw v ps (x ||| 2 ^ p) s)
theorem upd2_c (v : Nat → Nat) (s : Nat × Nat) (a b : Nat) : upd2 v (upd2 v s a) b = upd2 v (upd2 v s b) a := by
  unfold upd2
  simp only
  rw [Nat.add_right_comm, Nat.max_right_comm]
theorem Fw_u (v : Nat → Nat) : ∀ ps x y s, Fw v ps x (upd2 v s y) = upd2 v (Fw v ps x s) y
  | [], x, y, s => upd2_c v s y x
  | p :: ps, x, y, s => by
    show Fw v ps x (Fw v ps (x ||| 2 ^ p) (upd2 v s y)) = _
    rw [Fw_u v ps, Fw_u v ps]
    rfl
theorem Fw_c (v : Nat → Nat) : ∀ ps qs x y s, Fw v ps x (Fw v qs y s) = Fw v qs y (Fw v ps x s)
  | [], qs, x, y, s => (Fw_u v qs y x s).symm
  | p :: ps, qs, x, y, s => by
    show Fw v ps x (Fw v ps (x ||| 2 ^ p) (Fw v qs y s)) = Fw v qs y (Fw v ps x (Fw v ps (x ||| 2 ^ p) s))
    rw [Fw_c v ps qs (x ||| 2 ^ p) y s, Fw_c v ps qs x y]
theorem or_sw (x a b : Nat) : x ||| a ||| b = x ||| b ||| a := by rw [Nat.or_assoc, Nat.or_assoc, Nat.or_comm a b]
theorem Fw_perm (v : Nat → Nat) {ps qs : List Nat} (h : ps.Perm qs) : ∀ x s, Fw v ps x s = Fw v qs x s := by
  induction h with
  | nil => intro x s; rfl
  | cons p _ ih =>
    intro x s
    show Fw v _ x (Fw v _ (x ||| 2 ^ p) s) = Fw v _ x (Fw v _ (x ||| 2 ^ p) s)
    rw [ih, ih]
  | swap p q ps =>
    intro x s
    show Fw v ps x (Fw v ps (x ||| 2 ^ p) (Fw v ps (x ||| 2 ^ q) (Fw v ps (x ||| 2 ^ q ||| 2 ^ p) s))) = Fw v ps x (Fw v ps (x ||| 2 ^ q) (Fw v ps (x ||| 2 ^ p) (Fw v ps (x ||| 2 ^ p ||| 2 ^ q) s)))
    rw [or_sw x (2 ^ q) (2 ^ p), Fw_c v ps ps (x ||| 2 ^ p) (x ||| 2 ^ q)]
  | trans _ _ ih1 ih2 =>
    intro x s
    rw [ih1, ih2]
theorem Fw_le (v : Nat → Nat) {c : Nat} (hv : ∀ x, v x ≤ c) : ∀ ps x s, (Fw v ps x s).1 ≤ s.1 + 2 ^ ps.length ∧ (s.2 ≤ c → (Fw v ps x s).2 ≤ c)
  | [], x, s => by
    refine ⟨?_, fun h => ?_⟩
    · show s.1 + _ ≤ s.1 + 1
      split <;> omega
    · show max s.2 (v x) ≤ c
      have := hv x
      omega
  | p :: ps, x, s => by
    obtain ⟨a1, a2⟩ := Fw_le v hv ps (x ||| 2 ^ p) s
    obtain ⟨b1, b2⟩ := Fw_le v hv ps x (Fw v ps (x ||| 2 ^ p) s)
    refine ⟨?_, fun h => b2 (a2 h)⟩
    show (Fw v ps x (Fw v ps (x ||| 2 ^ p) s)).1 ≤ _
    rw [List.length_cons, Nat.pow_succ]
    omega
/-! threes with one pair -/
def hwc (c d : Nat → Int32) (p F U : Nat) : Nat := fb_ct (fun k => !(two2 p).testBit k && sdn c d (two2 p ||| 2 ^ k) F U) 7
def thA (g p : Nat) : List Nat := ((List.range 7).filter (fun k => !(two2 p).testBit k && decide (k < g))).map (fun k => two2 p ||| 2 ^ k)
def thB (g p : Nat) : List Nat := ((List.range (c3 g)).filter (fun k => (pm3 (tmn g k)).testBit p)).map (fun k => st3 (tmn g k))
theorem th_perm : ∀ g, g < 8 → ∀ p, p < c2 g → (thA g p).isPerm (thB g p) = true := by decide +kernel
theorem th_out : ∀ g, g < 8 → ∀ p, p < c2 g → ∀ k, k < 7 → g ≤ k → ((wi (two2 p ||| 2 ^ k)).testBit (prs (lo p) k) && decide (c2 g ≤ prs (lo p) k)) = true := by decide +kernel
/-- over the thirds of a pair, or over the threes that have it -/
theorem th_count {g p : Nat} (g7 : g ≤ 7) (hp : p < c2 g) (X : Nat → Bool) (hX : ∀ k, k < 7 → g ≤ k → X (two2 p ||| 2 ^ k) = false) : fb_ct (fun k => !(two2 p).testBit k && X (two2 p ||| 2 ^ k)) 7 = fb_ct (fun k => X (st3 (tmn g k)) && (pm3 (tmn g k)).testBit p) (c3 g) := by
  have e := List.Perm.countP_eq X (List.isPerm_iff.mp (th_perm g (by omega) p hp))
  unfold thA thB at e
  rw [List.countP_map, List.countP_map, List.countP_filter, List.countP_filter] at e
  rw [ct_range, ct_range]
  refine Eq.trans ?_ (e.trans ?_)
  · apply List.countP_congr
    intro k hk
    have hk7 := List.mem_range.mp hk
    show _ ↔ (X (two2 p ||| 2 ^ k) && (!(two2 p).testBit k && decide (k < g))) = true
    by_cases c : k < g
    · rw [decide_eq_true c, Bool.and_true, Bool.and_comm]
    · rw [hX k hk7 (by omega)]
      simp
  · rfl
theorem X_out {c : Nat → Int32} {g p F k : Nat} (hp : p < c2 g) (g7 : g ≤ 7) (hF : F < 2 ^ c2 g) (hk : k < 7) (hg : g ≤ k) : (F &&& wi (two2 p ||| 2 ^ k) == wi (two2 p ||| 2 ^ k)) = false := by
  have e := th_out g (by omega) p hp k hk hg
  rw [Bool.and_eq_true, decide_eq_true_eq] at e
  rw [beq_eq_false_iff_ne]
  intro q
  have := lt_bit hF (and_full.mp q _ e.1)
  omega
theorem sdn_out {c d : Nat → Int32} {g p F U k : Nat} (hp : p < c2 g) (g7 : g ≤ 7) (hF : F < 2 ^ c2 g) (hU : U < 2 ^ c2 g) (hk : k < 7) (hg : g ≤ k) : sdn c d (two2 p ||| 2 ^ k) F U = false := by
  unfold sdn
  rw [X_out (c := c) hp g7 hF hk hg, X_out (c := c) hp g7 hU hk hg]
  rfl
theorem and_bit_out {f m p : Nat} (h : m.testBit p = false) : (f ||| 2 ^ p) &&& m = f &&& m := by
  apply Nat.eq_of_testBit_eq
  intro i
  rw [Nat.testBit_and, Nat.testBit_and, Nat.testBit_or, Nat.testBit_two_pow]
  by_cases e : p = i
  · subst e
    rw [h, Bool.and_false, Bool.and_false]
  · rw [decide_eq_false e, Bool.or_false]
theorem and_bit_no {f m p : Nat} (h : m.testBit p = true) (hf : f.testBit p = false) : (f &&& m == m) = false := by
  rw [beq_eq_false_iff_ne]
  intro q
  rw [and_full.mp q p h] at hf
  cases hf
/-- the threes counted as their last pair comes -/
theorem hw_add {c d : Nat → Int32} {g p f t : Nat} (g7 : g ≤ 7) (hp : p < c2 g) (hf : f < 2 ^ c2 g) (ht : t < 2 ^ c2 g) (nf : f.testBit p = false) (nt : t.testBit p = false) : hmt c d g (f ||| 2 ^ p) t = hmt c d g f t + hwc c d p (f ||| 2 ^ p) t ∧ hmt c d g f (t ||| 2 ^ p) = hmt c d g f t + hwc c d p f (t ||| 2 ^ p) := by
  have f2 := or2_lt hf hp
  have t2 := or2_lt ht hp
  have key : ∀ F U : Nat, F < 2 ^ c2 g → U < 2 ^ c2 g → (∀ k, k < c3 g → (pm3 (tmn g k)).testBit p = false → sdn c d (st3 (tmn g k)) F U = sdn c d (st3 (tmn g k)) f t) → hmt c d g F U = hmt c d g f t + hwc c d p F U := by
    intro F U hF hU hs
    have e0 : hwc c d p F U = fb_ct (fun k => sdn c d (st3 (tmn g k)) F U && (pm3 (tmn g k)).testBit p) (c3 g) := th_count g7 hp (fun x => sdn c d x F U) (fun k hk hg => sdn_out hp g7 hF hU hk hg)
    have e1 : hmt c d g F U = fb_ct (fun k => sdn c d (st3 (tmn g k)) F U && (pm3 (tmn g k)).testBit p) (c3 g) + fb_ct (fun k => sdn c d (st3 (tmn g k)) F U && !(pm3 (tmn g k)).testBit p) (c3 g) := ct_sub_or (p := fun k => sdn c d (st3 (tmn g k)) F U) (q := fun k => (pm3 (tmn g k)).testBit p)
    have e2 : hmt c d g f t = fb_ct (fun k => sdn c d (st3 (tmn g k)) F U && !(pm3 (tmn g k)).testBit p) (c3 g) := by
      unfold hmt
      refine fb_ct_cong (fun k hk => ?_)
      cases e : (pm3 (tmn g k)).testBit p with
      | false =>
        rw [hs k hk e]
        simp
      | true =>
        unfold sdn
        rw [(wi_tm g7 hk).1, and_bit_no e nf, and_bit_no e nt]
        simp
    rw [e1, e2, e0, Nat.add_comm]
  refine ⟨key _ _ f2 ht (fun k hk e => ?_), key _ _ hf t2 (fun k hk e => ?_)⟩
  · unfold sdn
    rw [(wi_tm g7 hk).1, and_bit_out e]
  · unfold sdn
    rw [(wi_tm g7 hk).1, and_bit_out e]
section P58
variable {h : xH}
theorem hmw_s {n k ct p F U tw sc : Nat} {b tk : Bool} (s : Shp h) (hk : k < 7) (tbb : jShr (nI tw) (nI k) &&& (1 : Int32) = b2i tk) (oo : nI tw ||| jShl (1 : Int32) (nI k) = nI sc) (SS : f_St_stands 11 (nI sc) (nI F) (nI U) h = some (b2i b, h)) (K : Int32 → Int32 → xH → Option (Int32 × xH)) : f_St_howManyWith_L29 11 (nI p) (nI F) (nI U) (nI tw) (n + 1) (nI ct) (nI k) h K = f_St_howManyWith_L29 11 (nI p) (nI F) (nI U) (nI tw) n (nI (ct + (if (!tk && b) = true then 1 else 0))) (nI (k + 1)) h K := by
  rw [f_St_howManyWith_L29, if_neg (show ¬ (7 : Int32) ≤ nI k from nI_ge (b := 7) hk (by decide)), tbb, oo, nI_1]
  simp only [jn]
  cases tk
  · rw [if_pos b2i_f, gd_t (by simp only [shp s]), SS, bind_s]
    cases b
    · rw [if_pos b2i_f]
      rfl
    · rw [if_neg (show ¬ b2i true = 0 by decide), nI_1]
      rfl
  · rw [if_neg (show ¬ b2i true = 0 by decide)]
    rfl
theorem hmw_0 {p F U lw hw tw : Nat} (s : Shp h) (e1 : f_Se_lower 2 (nI p) h = some (nI lw, h)) (e2 : f_Se_higher 2 (nI p) h = some (nI hw, h)) (oo : jShl (1 : Int32) (nI lw) ||| jShl (1 : Int32) (nI hw) = nI tw) : f_St_howManyWith 11 (nI p) (nI F) (nI U) h = f_St_howManyWith_L29 11 (nI p) (nI F) (nI U) (nI tw) fu (0 : Int32) (0 : Int32) h (fun v22 v23 h24 => some (v22, h24)) := by
  unfold f_St_howManyWith
  rw [gd_t (by simp only [shp s]), gd_t (by simp only [shp s]), show hR h 11 0 = 2 by simp only [shp s], e1, bind_s, gd_t (by simp only [shp s]), gd_t (by simp only [shp s]), show hR h 11 0 = 2 by simp only [shp s], e2, bind_s, oo]
theorem howManyWith_e (s : Shp h) (z : Jseat h) {p F U : Nat} (hp : p < 21) (hF : F < 2 ^ 31) (hU : U < 2 ^ 31) : f_St_howManyWith 11 (nI p) (nI F) (nI U) h = some (nI (hwc (hI h 12) (hI h 13) p F U), h) := by
  obtain ⟨t1, t2⟩ := two2_e p hp
  rw [hmw_0 s (Se_lower_e s z hp) (Se_higher_e s z hp) t1]
  unfold hwc
  generalize hq : (fun k => !(two2 p).testBit k && sdn (hI h 12) (hI h 13) (two2 p ||| 2 ^ k) F U) = q
  have hqk : ∀ k, q k = (!(two2 p).testBit k && sdn (hI h 12) (hI h 13) (two2 p ||| 2 ^ k) F U) := fun k => by rw [← hq]
  refine lpf (fun n k (v : Int32) => f_St_howManyWith_L29 11 (nI p) (nI F) (nI U) (nI (two2 p)) n v k h (fun v22 v23 h24 => some (v22, h24))) (fun o => o = some (nI (fb_ct q 7), h)) (fun k v => v = nI (fb_ct q k)) 7 (i := 0) (Nat.zero_le _) (by omega) rfl ?_ ?_
  · intro n k v hk e
    subst e
    refine Or.inr ⟨nI (fb_ct q (k + 1)), ?_, rfl⟩
    have o7 : two2 p ||| 2 ^ k < 128 := Nat.or_lt_two_pow (n := 7) t2 (Nat.pow_lt_pow_right (by decide) hk)
    rw [fb_ct_succ, hqk]
    exact hmw_s s hk (tb (show two2 p < 2 ^ 31 by omega) (show k < 31 by omega)) (by rw [ss k (by omega), fa_or]) (St_stands_e s z o7 hF hU) _
  · intro n v e
    subst e
    rw [f_St_howManyWith_L29, if_pos (show (7 : Int32) ≤ nI 7 by decide)]
end P58

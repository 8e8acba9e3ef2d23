/-! a text that is kept, and one that is not -/
theorem runs_len {nm : Nat → Int32} : ∀ (l : List Int32) (st : List Int32), Gs_ok l st.length → (runs nm l st).length = hgt l st.length
  | [], st, _ => rfl
  | c :: l, st, h => by
    have e : (stp nm c st).length = st.length - ned c + 1 := by
      have h2 := h.2.1
      have e3 : ∀ q : Prop, ¬ ((10000 : Int32) ≤ c ∧ ¬ (0 : Int32) ≤ c) := fun _ x => x.2 (by
        have a := x.1
        rw [fa_le] at a ⊢
        exact Int.le_trans (by decide) a)
      unfold stp ned at *
      by_cases c1 : (10000 : Int32) ≤ c
      · have c0 : (0 : Int32) ≤ c := Classical.byContradiction (fun z => e3 True ⟨c1, z⟩)
        rw [if_pos c1, if_pos c0]
        rfl
      · rw [if_neg c1]
        by_cases c0 : (0 : Int32) ≤ c
        · rw [if_pos c0, if_pos c0]
          rfl
        · rw [if_neg c0, if_neg c0]
          by_cases c8 : c = -8
          · rw [if_pos c8, if_pos c8, List.length_cons, List.length_tail]
          · rw [if_neg c8, if_neg c8]
            by_cases c9 : c = -9
            · rw [if_pos c9, if_pos c9, List.length_cons, List.length_tail]
            · rw [if_neg c9, if_neg c9, List.length_cons, List.length_tail, List.length_tail]
              omega
    show (runs nm l (stp nm c st)).length = hgt l (st.length - ned c + 1)
    rw [runs_len l _ (by rw [e]; exact h.2.2.2), e]
theorem runs_one {nm : Nat → Int32} {l : List Int32} (o : Okc 31 l) : runs nm l [] = [(runs nm l []).headD 0] := by
  obtain ⟨a, b⟩ := o 0 (by decide)
  have e := runs_len (nm := nm) l [] a
  rw [show hgt l ([] : List Int32).length = 1 from b] at e
  cases c : runs nm l [] with
  | nil => rw [c] at e; cases e
  | cons v l2 =>
    rw [c] at e
    cases l2 with
    | nil => rfl
    | cons _ _ => simp at e
theorem runs_congr {nm nm2 : Nat → Int32} (hn : ∀ x, x < 6 → nm x = nm2 x) : ∀ (l : List Int32) (n : Nat) (st : List Int32), Gs_ok l n → runs nm l st = runs nm2 l st
  | [], _, _, _ => rfl
  | c :: l, n, st, h => by
    have e : stp nm c st = stp nm2 c st := by
      unfold stp
      by_cases c1 : (10000 : Int32) ≤ c
      · rw [if_pos c1, if_pos c1]
        rcases h.1 with ⟨k, hk, rfl⟩ | ⟨a, -⟩
        · have k4 : 10000 ≤ k := Classical.byContradiction (fun q => (nI_ge (a := k) (b := 10000) (by omega) (by decide)) c1)
          have e2 : (nI k - (10000 : Int32)).toNatClampNeg = k - 10000 := by
            rw [show nI k - (10000 : Int32) = nI (k - 10000) from li_sub (b := 10000) k4, nI_clamp (by omega)]
          rw [e2, hn (k - 10000) (by omega)]
        · exfalso
          rw [fa_le] at c1
          have : (10000 : Int32).toInt = 10000 := by decide
          omega
      · rw [if_neg c1, if_neg c1]
    show runs nm l (stp nm c st) = runs nm2 l (stp nm2 c st)
    rw [e]
    exact runs_congr hn l _ _ h.2.2.2
section P76
variable {h : xH} {B : Nat → Nat} {t z p d : Nat}
theorem rdO_c (o : rdO B z = true) : (rd0 B z).1 = true ∧ (rd1 B z).1 = true ∧ (rd2 B z).1 = true := by
  unfold rdO at o
  rw [Bool.and_eq_true, Bool.and_eq_true, Bool.and_eq_true] at o
  exact ⟨o.1, o.2.1, o.2.2.1⟩
theorem rdC_ok (o : rdO B z = true) (w : Nat) : Okc 31 (rdC B z w) := by
  obtain ⟨o0, o1, o2⟩ := rdO_c o
  have P0 := rp_p (B := B) (z := z) 0 0 (Nat.zero_le _)
  have P1 := rp_p (B := B) (z := z) 1 (rd0 B z).2.1 P0.1
  have P2 := rp_p (B := B) (z := z) 2 (rd1 B z).2.1 P1.1
  unfold rdC
  split
  · exact (P0.2 o0).2.2
  · split
    · exact (P1.2 o1).2.2
    · exact (P2.2 o2).2.2
def Tn (B : Nat → Nat) (z w : Nat) (nm : Nat → Int32) : Int32 := (runs nm (rdC B z w) []).headD 0
theorem Tn_m (o : rdO B z = true) (t6 : t < 6) (z160 : z ≤ 160) (ez : hI h 38 t = nI z) (eb : ∀ i, i < z → hI h 37 (160 * t + i) = nI (B i) ∧ B i < 256) : Tmo t (Tn B z) h := by
  refine ⟨z, z160, ez, fun h' s e1 e2 w hw => ?_⟩
  obtain ⟨v, h2, a1, a2, a3, a4, a5⟩ := read_m (B := B) s (Nat.zero_le _) z160 t6 hw e1 (fun i hi => ⟨(e2 i hi).trans (eb i hi).1, (eb i hi).2⟩)
  refine ⟨h2, ?_, a2, a4.fr⟩
  rcases a5 with ⟨-, -, ev⟩ | ⟨f, -, -⟩
  · rw [a1]
    have : Tn B z w (fun x => hI h' 36 (13 + x)) = v := by
      unfold Tn
      rw [ev]
      rfl
    rw [this]
  · rw [o] at f
    cases f
theorem cds_of {c a b : Nat} {pre l post : List Int32} (e : ∀ i, i < (pre ++ l ++ post).length → hI h c i = (pre ++ l ++ post).getD i 0) (ha : a = pre.length) (hb : b = (pre ++ l).length) : cds h c a b = l := by
  subst ha
  subst hb
  unfold cds
  rw [List.length_append, Nat.add_sub_cancel_left]
  refine List.ext_getElem (by simp) (fun i h1 h2 => ?_)
  simp only [List.getElem_map, List.getElem_range]
  rw [e (pre.length + i) (by simp only [List.length_append]; omega), List.append_assoc]
  simp only [List.getD, List.getElem?_append_right (Nat.le_add_right _ _), Nat.add_sub_cancel_left]
  rw [List.getElem?_append_left h2, List.getElem?_eq_getElem h2]
  rfl
theorem Tn_c {x c e : Nat} (o : rdO B z = true) (hx : hR h 21 t = x) (x51 : 51 ≤ x) (xN : x < hN h) (xk : hK h x = 7) (x0 : hR h x 0 = c) (x1 : hR h x 1 = e) (c51 : 51 ≤ c) (cN : c < hN h) (ck : hK h c = 12) (e51 : 51 ≤ e) (eN : e < hN h) (ek : hK h e = 12) (el : hL h e = 3) (cl : (rdC B z 0 ++ rdC B z 1 ++ rdC B z 2).length ≤ hL h c) (cl2 : hL h c ≤ 160) (e0 : hI h e 0 = nI (rdC B z 0).length) (e1 : hI h e 1 = nI (rdC B z 0 ++ rdC B z 1).length) (e2 : hI h e 2 = nI (rdC B z 0 ++ rdC B z 1 ++ rdC B z 2).length) (cv : ∀ i, i < (rdC B z 0 ++ rdC B z 1 ++ rdC B z 2).length → hI h c i = (rdC B z 0 ++ rdC B z 1 ++ rdC B z 2).getD i 0) : Tcl t (Tn B z) h := by
  refine ⟨x, c, e, (rdC B z 0).length, (rdC B z 0 ++ rdC B z 1).length, (rdC B z 0 ++ rdC B z 1 ++ rdC B z 2).length, hx, Or.inr x51, xN, xk, x0, x1, Or.inr c51, cN, ck, Or.inr e51, eN, ek, el, by rw [List.length_append]; omega, by rw [List.length_append (as := rdC B z 0 ++ rdC B z 1)]; omega, cl, cl2, e0, e1, e2, ?_⟩
  have F : ∀ w, Gs_ok (rdC B z w) 0 ∧ ∀ nm, runs nm (rdC B z w) [] = [Tn B z w nm] := fun w => ⟨(rdC_ok o w 0 (by decide)).1, fun nm => runs_one (rdC_ok o w)⟩
  rintro w a b (⟨rfl, rfl, rfl⟩ | ⟨rfl, rfl, rfl⟩ | ⟨rfl, rfl, rfl⟩)
  · rw [cds_of (a := 0) (b := (rdC B z 0).length) (pre := []) (l := rdC B z 0) (post := rdC B z 1 ++ rdC B z 2) (by rw [List.nil_append, ← List.append_assoc]; exact cv) rfl (by rw [List.nil_append])]
    exact F 0
  · rw [cds_of (pre := rdC B z 0) (l := rdC B z 1) (post := rdC B z 2) cv rfl rfl]
    exact F 1
  · rw [cds_of (pre := rdC B z 0 ++ rdC B z 1) (l := rdC B z 2) (post := []) (by rw [List.append_nil]; exact cv) rfl rfl]
    exact F 2
def dTx (m p k : Nat) : Bool := !(decide (p = 17) || (decide (p = 19) || (decide (p = 20) || ((decide (p = 1) && decide (k = 11)) || ((decide (p = 21) && decide (k = m)) || ((decide (p = 36) && (decide (k = 3) || (decide (k = 6) || (decide (19 ≤ k) && decide (k ≤ 27))))) || ((decide (p = 37) && decide (160 * m ≤ k)) || (decide (p = 38) && decide (k = m)))))))))
theorem J_tx {g f s n n' r m : Nat} {T T' : Nat → Nat → (Nat → Int32) → Int32} {h' : xH} (j : J g f s n r T h) (sh : Shp h') (x : Fr (dTx m) h h') (nn : n ≤ n') (nm : n ≤ m) (eT : ∀ t, t < n → T' t = T t) (e17 : hI h' 17 1 = 0) (e36 : hI h' 36 6 = 0) (jt : Jtext n' T' h') : J g f s n' r T' h' := by
  obtain ⟨-, a, b1, b2, b3, b4, b5, b6, b7, b8, b9⟩ := j
  have rn := b9.1
  refine ⟨sh, Nat.le_trans a x.1, J_seat a x (fun p k h1 h2 => by simp [dTx]; omega) b1, J_tab a x (fun k => rfl) (fun k h1 h2 => by simp [dTx]; omega) b2, ?_, J_town a x rfl rfl (fun k => ⟨rfl, rfl, rfl⟩) (fun p k h1 => by simp [dTx]; omega) b4, ⟨0, Nat.zero_le _, e17, e36, fun i hi => absurd hi (Nat.not_lt_zero _)⟩, J_sheet a x (fun p k h1 h2 => by simp [dTx]; omega) (fun p k h1 h2 => by simp [dTx]; omega) b6, ?_, jt, ?_⟩
  · have := J_kept a x rfl (fun k => rfl) (fun k h1 h2 => by simp [dTx]; omega) b3
    rcases this with q | ⟨g', r', f', s', q0, q1, q2⟩
    · exact Or.inl q
    · exact Or.inr ⟨g', r', f', s', q0, by omega, q2⟩
  · have := J_st a x rfl (fun k => ⟨rfl, rfl⟩) b7
    unfold Jst at this ⊢
    rw [eT r rn]
    exact this
  · obtain ⟨c1, c2, c3, c4⟩ := J_rule a x rfl rfl rfl (by simp [dTx]; omega) b9
    exact ⟨by omega, c2, c3, c4⟩
end P76

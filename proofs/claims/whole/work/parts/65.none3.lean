def FnI (w : Nat → Nat) (c d : Nat → Int32) (g f t i : Nat) (b : Option Nat) : Prop := (b = none ∧ ∀ S, Gd c d g f t S → i ≤ szz S) ∨ ∃ k B, b = some B ∧ k ≤ 3 ∧ (∀ S, Gd c d g f t S → k ≤ szz S) ∧ Bst w (fun S => Gd c d g f t S ∧ szz S = k) b
theorem FnI_u {w : Nat → Nat} {c d : Nat → Int32} {g f t : Nat} {b b' : Option Nat} (h : FnI w c d g f t 4 b) (h2 : FnI w c d g f t 4 b') : b = b' := by
  have mem : ∀ {k : Nat} {b : Option Nat} {B : Nat}, b = some B → Bst w (fun S => Gd c d g f t S ∧ szz S = k) b → Gd c d g f t B ∧ szz B = k := by
    intro k b B e q
    rcases q with ⟨a, -⟩ | ⟨B', a, p, -⟩
    · rw [e] at a
      cases a
    · rw [e] at a
      cases a
      exact p
  rcases h with ⟨e, n⟩ | ⟨k, B, e, k3, n, q⟩
  · rcases h2 with ⟨e', n'⟩ | ⟨k', B', e', k3', n', q'⟩
    · rw [e, e']
    · obtain ⟨m1, m2⟩ := mem e' q'
      have := n B' m1
      omega
  · rcases h2 with ⟨e', n'⟩ | ⟨k', B', e', k3', n', q'⟩
    · obtain ⟨m1, m2⟩ := mem e q
      have := n' B m1
      omega
    · obtain ⟨m1, m2⟩ := mem e q
      obtain ⟨m1', m2'⟩ := mem e' q'
      have a1 := n B' m1'
      have a2 := n' B m1
      have kk : k = k' := by omega
      subst kk
      exact Bst_u q q'
theorem FnI_s {w : Nat → Nat} {c d : Nat → Int32} {g f t i : Nat} {b : Option Nat} (i3 : i ≤ 3) (NG : ∀ S, Gd c d g f t S → i ≤ szz S) (q : Bst w (fun S => Gd c d g f t S ∧ szz S = i) b) : FnI w c d g f t (i + 1) b := by
  rcases q with ⟨e, n⟩ | ⟨B, e, p, m⟩
  · exact Or.inl ⟨e, fun S h => by
      have a := NG S h
      have := n S
      by_cases u : szz S = i
      · exact absurd ⟨h, u⟩ this
      · omega⟩
  · exact Or.inr ⟨i, B, e, i3, NG, Or.inr ⟨B, e, p, m⟩⟩
theorem szz_0 : szz 0 = 0 := by decide
theorem csum_0 (w : Nat → Nat) : csum w 0 = 0 := by
  unfold csum
  rw [fb_sm_cong (g := fun _ => 0) (fun k _ => by rw [Nat.zero_testBit, if_neg (by decide)])]
  exact Nat.le_zero.mp (fb_sm_bound (c := 0) (n := 21) (fun k _ => Nat.le_refl _))
def dSk (p k : Nat) : Bool := dEv p k && !(decide (p = 15)) && dCh p k
section P65
variable {h : xH} {g f t n r : Nat} {T : Nat → Nat → (Nat → Int32) → Int32}
theorem dAll_sk {p k : Nat} (h : dAll p k = true) : dSk p k = true := by
  have a := dAll_ev h
  unfold dSk
  rw [a]
  have b : p ≠ 15 := by
    rintro rfl
    revert h
    unfold dAll
    simp
  have c : p ≠ 14 := by
    rintro rfl
    revert h
    unfold dAll
    simp
  simp [dCh, b, c]
theorem seek_rows (j : J g f t n r T h) : ∀ (K : Int32 → xH → Option (Int32 × xH)), ∃ h', f_Ch_seek_L2 14 7 8 fu (0 : Int32) h K = K (nI 21) h' ∧ Shp h' ∧ Fr dSk h h' ∧ ∀ p, p < 21 → hI h' 15 p = nI (cnn T g f t r p) := by
  intro K
  have j0 := j
  obtain ⟨sh, hn, z, ⟨⟨g1, g7, hf, ht, hd⟩, e1, e2, e3, m1, m2, m3⟩, jk, jw, jp, js, jst, jx, jr⟩ := j0
  have f31 := lt3 (lt24 g7 hf)
  have t31 := lt3 (lt24 g7 ht)
  refine lpf (fun k p (v : xH) => f_Ch_seek_L2 14 7 8 k p v K) (fun o => ∃ h', o = K (nI 21) h' ∧ Shp h' ∧ Fr dSk h h' ∧ ∀ p, p < 21 → hI h' 15 p = nI (cnn T g f t r p)) (fun p v => Shp v ∧ Fr dSk h v ∧ ∀ q, q < p → hI v 15 q = nI (cnn T g f t r q)) 21 (i := 0) (Nat.zero_le _) (by omega) ⟨sh, Fr.refl h, fun q hq => absurd hq (Nat.not_lt_zero _)⟩ ?_ ?_
  · rintro k p v hp ⟨s, x, y⟩
    have jv := J_all s (x.mono (fun p k => dAll_sk)) j
    have nv := Nat.le_trans hn x.1
    obtain ⟨v', c1, c2', c3'⟩ := Ru_costs_e (J_C jv) f31 t31 ((x.v hn 2 (by decide) rfl).trans e2) ((x.v hn 3 (by decide) rfl).trans e3) hp
    right
    refine ⟨hIu v' 15 p (nI (cnn T g f t r p)), ?_, c2', ?_, ?_⟩
    · rw [f_Ch_seek_L2, if_neg (show ¬ (21 : Int32) ≤ nI p from nI_ge (b := 21) hp (by decide)), gd_t (by simp only [shp s]), gd_t (by simp only [shp s]), c1, bind_s, show hR v 14 2 = 15 by simp only [shp s], gd_t (by simp only [shp c2']), gd_t (by simp only [shp c2']; exact nI_in hp (by decide)), nI_clamp (show p < 2 ^ 31 by omega), (cnn_e T g f t r p).1, nI_1]
    · refine (x.trans (c3'.mono (fun p k hh => ?_))).I rfl
      unfold dSk at hh
      rw [Bool.and_eq_true, Bool.and_eq_true] at hh
      exact hh.1.1
    · intro q hq
      by_cases e : q = p
      · rw [e, iI, if_pos ⟨rfl, rfl⟩]
      · rw [iI, if_neg (fun z => e z.2), c3'.v nv q (by decide) rfl]
        exact y q (by omega)
  · rintro k v ⟨s, x, y⟩
    exact ⟨v, by rw [f_Ch_seek_L2, if_pos (show (21 : Int32) ≤ nI 21 by decide)], s, x, y⟩
theorem seek_e (j : J g f t n r T h) : ∃ b h', f_Ch_seek 14 7 8 h = some (b2i (Option.isSome b), h') ∧ Shp h' ∧ Fr dSk h h' ∧ FnI (cnn T g f t r) (hI h 12) (hI h 13) g f t 4 b ∧ CB (cnn T g f t r) b h' ∧ ∀ B, b = some B → B < 2 ^ 21 := by
  have j0 := j
  obtain ⟨sh, hn, z, ⟨⟨g1, g7, hf, ht, hd⟩, e1, e2, e3, m1, m2, m3⟩, jk, jw, jp, js, jst, jx, jr⟩ := j0
  have hw : ∀ p, cnn T g f t r p ≤ 99 := fun p => (cnn_e T g f t r p).2
  generalize hwc : cnn T g f t r = w at *
  obtain ⟨h1, a1, a2, a3, a4⟩ := seek_rows j (fun v15 h16 => gd (hK h16 14 = 0) (f_Ch_seek_L32 14 7 8 fu (0 : Int32) (hIu h16 14 3 (0 : Int32)) (fun v23 h24 => gd (hK h24 14 = 0) (some (nb (hI h24 14 3), h24)))))
  have n1 := Nat.le_trans hn a3.1
  have X2 : Fr dSk h (hIu h1 14 3 (0 : Int32)) := a3.I rfl
  have j2 : J g f t n r T (hIu h1 14 3 (0 : Int32)) := J_all (h' := hIu h1 14 3 (0 : Int32)) a2 (X2.mono (fun p k => dAll_sk)) j
  rw [hwc] at a4
  have H2 : ChS w g (hI h 12) (hI h 13) none (hIu h1 14 3 (0 : Int32)) := ⟨a2, n1, j2.2.2.1, (X2.v hn 3 (by decide) rfl).trans jst.1, funext fun k => X2.v hn k (by decide) rfl, funext fun k => X2.v hn k (by decide) rfl, fun p hp => by rw [iI, if_neg (by omega)]; exact a4 p hp, by show hI _ 14 3 = 0; rw [iI, if_pos ⟨rfl, rfl⟩]⟩
  have f7 : hI (hIu h1 14 3 (0 : Int32)) 7 2 = nI f := (X2.v hn 2 (by decide) rfl).trans e2
  have t7 : hI (hIu h1 14 3 (0 : Int32)) 7 3 = nI t := (X2.v hn 3 (by decide) rfl).trans e3
  generalize hIu h1 14 3 (0 : Int32) = h2 at *
  have FIN : ∀ b v, ChS w g (hI h 12) (hI h 13) b v → gd (hK v 14 = 0) (some (nb (hI v 14 3), v)) = some (b2i (Option.isSome b), v) := by
    intro b v H
    rw [gd_t (by simp only [shp H.1])]
    have cb := H.2.2.2.2.2.2.2
    cases b with
    | none => rw [show hI v 14 3 = 0 from cb]; rfl
    | some B => rw [show hI v 14 3 = 1 from cb.1]; rfl
  have LOOP : ∃ b h', f_Ch_seek_L32 14 7 8 fu (0 : Int32) h2 (fun v23 h24 => gd (hK h24 14 = 0) (some (nb (hI h24 14 3), h24))) = some (b2i (Option.isSome b), h') ∧ ChS w g (hI h 12) (hI h 13) b h' ∧ Fr dCh h2 h' ∧ FnI w (hI h 12) (hI h 13) g f t 4 b ∧ ∀ B, b = some B → B < 2 ^ 21 := by
    refine lpf (fun k i (v : Option Nat × xH) => f_Ch_seek_L32 14 7 8 k i v.2 (fun v23 h24 => gd (hK h24 14 = 0) (some (nb (hI h24 14 3), h24)))) (fun o => ∃ b h', o = some (b2i (Option.isSome b), h') ∧ ChS w g (hI h 12) (hI h 13) b h' ∧ Fr dCh h2 h' ∧ FnI w (hI h 12) (hI h 13) g f t 4 b ∧ ∀ B, b = some B → B < 2 ^ 21) (fun i v => ChS w g (hI h 12) (hI h 13) v.1 v.2 ∧ Fr dCh h2 v.2 ∧ FnI w (hI h 12) (hI h 13) g f t i v.1 ∧ ∀ B, v.1 = some B → B < 2 ^ 21) 4 (i := 0) (s := (none, h2)) (Nat.zero_le _) (by omega) ⟨H2, Fr.refl h2, Or.inl ⟨rfl, fun _ _ => Nat.zero_le _⟩, fun B e => by cases e⟩ ?_ ?_
    · rintro k i ⟨vb, v⟩ hi' ⟨H, X, FN, bl⟩
      have H : ChS w g (hI h 12) (hI h 13) vb v := H
      have s := H.1
      have E1 : f_Ch_seek_L32 14 7 8 (k + 1) (nI i) v (fun v23 h24 => gd (hK h24 14 = 0) (some (nb (hI h24 14 3), h24))) = (if (hI v 14 3) = 0 then (Option.bind (G_Ch_tryChanges 24 14 (nI f) (nI t) (0 : Int32) (nI i) v) (fun q22 => f_Ch_seek_L32 14 7 8 k (nI (i + 1)) q22.2 (fun v23 h24 => gd (hK h24 14 = 0) (some (nb (hI h24 14 3), h24))))) else gd (hK v 14 = 0) (some (nb (hI v 14 3), v))) := by
        rw [f_Ch_seek_L32, if_neg (show ¬ (3 : Int32) < nI i from nI_nlt (a := 3) (by omega) (by omega)), gd_t (by simp only [shp s]), gd_t (by simp only [shp s]), show hI v 7 2 = nI f from (X.v H2.2.1 2 (p := 7) (by decide) rfl).trans f7, show hI v 7 3 = nI t from (X.v H2.2.1 3 (p := 7) (by decide) rfl).trans t7, nI_1]
        rfl
      rcases FN with ⟨e, NG⟩ | ⟨k', B, e, k3, NG, q⟩
      · have e : vb = none := e
        subst e
        have h3 : hI v 14 3 = 0 := H.2.2.2.2.2.2.2
        obtain ⟨b', h', r1, r2, r3, r4, r5⟩ := tryChanges_e (k := i) hw g7 hf ht hd NG i 24 0 none (fun _ => False) v (by omega) (by omega) (by rw [szz_0, Nat.zero_add]) (fun p hp => by rw [Nat.zero_testBit] at hp; cases hp) H (Or.inl ⟨rfl, fun _ q => q⟩) (fun B e => by cases e)
        right
        refine ⟨(b', h'), ?_, r2, X.trans r3, FnI_s (by omega) NG (Bst_c r4 (fun S => ?_)), r5⟩
        · refine E1.trans ?_
          rw [if_pos h3]
          rw [Nat.xor_zero, Nat.xor_zero] at r1
          rw [show (0 : Int32) = nI 0 from rfl, r1, bind_s]
        · constructor
          · rintro (q | ⟨q1, -, q2⟩)
            · exact q.elim
            · exact ⟨q1, q2⟩
          · rintro ⟨q1, q2⟩
            exact Or.inr ⟨q1, (fun p hp => by rw [Nat.zero_testBit] at hp; cases hp), q2⟩
      · left
        have e : vb = some B := e
        subst e
        refine ⟨some B, v, ?_, H, X, Or.inr ⟨k', B, rfl, k3, NG, q⟩, bl⟩
        refine E1.trans ?_
        have h3 : hI v 14 3 = 1 := H.2.2.2.2.2.2.2.1
        rw [if_neg (by rw [h3]; decide)]
        exact FIN _ _ H
    · rintro k ⟨vb, v⟩ ⟨H, X, FN, bl⟩
      refine ⟨vb, v, ?_, H, X, FN, bl⟩
      show f_Ch_seek_L32 14 7 8 (k + 1) (nI 4) v _ = _
      rw [f_Ch_seek_L32, if_pos (show (3 : Int32) < nI 4 by decide)]
      exact FIN _ _ H
  obtain ⟨b, h', r1, r2, r3, r4, r5⟩ := LOOP
  refine ⟨b, h', ?_, r2.1, X2.trans (r3.mono (fun p k hh => ?_)), r4, r2.2.2.2.2.2.2.2, r5⟩
  · unfold f_Ch_seek
    rw [a1, gd_t (by simp only [shp a2]), r1]
  · unfold dSk at hh
    rw [Bool.and_eq_true] at hh
    exact hh.2
theorem modelSeek_e {w : Nat → Nat} {c d : Nat → Int32} {a1 : Int32} (hw : ∀ p, w p ≤ 99) (g7 : g ≤ 7) (hf : f < 2 ^ c2 g) (ht : t < 2 ^ c2 g) (dj : f &&& t = 0) (H0 : MoS w g f t c d none h) (K' : xH → Option (Int32 × xH)) : ∃ b h', f_Mo_noneLeft_L30 36 a1 fu (0 : Int32) h (fun _ v => K' v) = K' h' ∧ MoS w g f t c d b h' ∧ Fr dLe h h' ∧ FnI w c d g f t 4 b ∧ ∀ B, b = some B → B < 2 ^ 21 := by
  refine lpf (fun k i (v : Option Nat × xH) => f_Mo_noneLeft_L30 36 a1 k i v.2 (fun _ v => K' v)) (fun o => ∃ b h', o = K' h' ∧ MoS w g f t c d b h' ∧ Fr dLe h h' ∧ FnI w c d g f t 4 b ∧ ∀ B, b = some B → B < 2 ^ 21) (fun i v => MoS w g f t c d v.1 v.2 ∧ Fr dLe h v.2 ∧ FnI w c d g f t i v.1 ∧ ∀ B, v.1 = some B → B < 2 ^ 21) 4 (i := 0) (s := (none, h)) (Nat.zero_le _) (by omega) ⟨H0, Fr.refl h, Or.inl ⟨rfl, fun _ _ => Nat.zero_le _⟩, fun B e => by cases e⟩ ?_ ?_
  · rintro k i ⟨vb, v⟩ hi' ⟨H, X, FN, bl⟩
    have H : MoS w g f t c d vb v := H
    have s := H.1
    have E1 : f_Mo_noneLeft_L30 36 a1 (k + 1) (nI i) v (fun _ v => K' v) = (if (hI v 36 34) = (-1 : Int32) then (Option.bind (G_Mo_leaves 24 36 (0 : Int32) (nI i) (0 : Int32) (0 : Int32) v) (fun q19 => f_Mo_noneLeft_L30 36 a1 k (nI (i + 1)) q19.2 (fun _ v => K' v))) else K' v) := by
      rw [f_Mo_noneLeft_L30, if_neg (show ¬ (3 : Int32) < nI i from nI_nlt (a := 3) (by omega) (by omega)), gd_t (by simp only [shp s]), nI_1]
      rfl
    rcases FN with ⟨e, NG⟩ | ⟨k', B, e, k3, NG, q⟩
    · have e : vb = none := e
      subst e
      have h3 : hI v 36 34 = -1 := H.2.2.2.2.2.2.2.2.2
      obtain ⟨b', h', r1, r2, r3, r4, r5⟩ := leaves_e hw g7 hf ht dj i 24 0 0 none (fun _ => False) v (by omega) (by omega) (Nat.zero_le _) (fun p hp => by rw [Nat.zero_testBit] at hp; cases hp) (fun p hp => by rw [Nat.zero_testBit] at hp; cases hp) H (Or.inl ⟨rfl, fun _ q => q⟩) (fun B e => by cases e)
      right
      refine ⟨(b', h'), ?_, r2, X.trans r3, FnI_s (by omega) NG (Bst_c r4 (fun S => ?_)), r5⟩
      · refine E1.trans ?_
        rw [if_pos h3]
        rw [csum_0] at r1
        rw [show (0 : Int32) = nI 0 from rfl, r1, bind_s]
      · unfold LvS
        rw [szz_0, Nat.zero_add]
        constructor
        · rintro (q | ⟨q1, q2, -⟩)
          · exact q.elim
          · exact ⟨q1, q2⟩
        · rintro ⟨q1, q2⟩
          exact Or.inr ⟨q1, q2, fun p hp => absurd hp (Nat.not_lt_zero _)⟩
    · left
      have e : vb = some B := e
      subst e
      refine ⟨some B, v, ?_, H, X, Or.inr ⟨k', B, rfl, k3, NG, q⟩, bl⟩
      refine E1.trans ?_
      have h3 : hI v 36 34 = nI B := H.2.2.2.2.2.2.2.2.2.1
      rw [if_neg (by rw [h3]; exact nI_nm1 (by have := bl B rfl; omega))]
  · rintro k ⟨vb, v⟩ ⟨H, X, FN, bl⟩
    refine ⟨vb, v, ?_, H, X, FN, bl⟩
    show f_Mo_noneLeft_L30 36 a1 (k + 1) (nI 4) v _ = _
    rw [f_Mo_noneLeft_L30, if_pos (show (3 : Int32) < nI 4 by decide)]
end P65
theorem Y_noneLeft : Sp_noneLeft Inv := by
  intro w h I
  obtain ⟨g, f, t, n, r, T, j⟩ := I
  have j0 := j
  obtain ⟨sh, hn, z, ⟨⟨g1, g7, hf, ht, hd⟩, e1, e2, e3, m1, m2, m3⟩, jk, jw, jp, js, jst, jx, jr⟩ := j0
  have f24 := lt24 g7 hf
  have t24 := lt24 g7 ht
  have f31 := lt3 f24
  have t31 := lt3 t24
  have s36 : hK h 36 = 11 := by simp only [shp sh]
  cases cw : inr w 2 with
  | false =>
    refine ⟨-2, h, h, ?_, s36, ?_, ⟨g, f, t, n, r, T, j⟩⟩
    · simp only [f_Ma_noneLeft, Ma_isWithin_2, cw, bind_s, b2i_f, if_true]
    · simp only [f_Mo_noneLeft, Mo_in_2, cw, bind_s, b2i_f, if_true]
  | true =>
    obtain ⟨b, h1, a1, a2, a3, a4, a5, a6⟩ := seek_e j
    have j1 := J_all a2 (a3.mono (fun p k => dAll_sk)) j
    have n1 := Nat.le_trans hn a3.1
    obtain ⟨h2, b1, b2, b3, jg⟩ := Mo_gathers_e (J_M j1) (Jst_fr hn a3 rfl (fun k => ⟨rfl, rfl⟩) jst)
    have j2 := J_ga j1 b2 b3
    have n2 := Nat.le_trans n1 b3.1
    have v36 : ∀ k, 7 ≤ k → k ≤ 9 → hI h2 36 k = hI h 36 k := fun k p1 p2 => (b3.v n1 k (by decide) (by simp [dGa]; omega)).trans (a3.v hn k (by decide) rfl)
    obtain ⟨h3, c1, c2', c3', c4⟩ := Mo_gathersCosts_e (J_M j2) g1 f31 t31 hd ((v36 8 (by omega) (by omega)).trans m2) ((v36 9 (by omega) (by omega)).trans m3)
    have j3 := J_co j2 c2' c3'
    have n3 := Nat.le_trans n2 c3'.1
    have w36 : ∀ k, 7 ≤ k → k ≤ 9 → hI h3 36 k = hI h 36 k := fun k p1 p2 => (c3'.v n2 k (by decide) (by simp [dCo]; omega)).trans (v36 k p1 p2)
    have jg3 : Jga g h3 := Jga_fr n2 c3' rfl (fun k => ⟨rfl, rfl, rfl, rfl⟩) (fun k => ⟨rfl, rfl⟩) jg
    have r12 : hI h3 12 = hI h 12 := funext fun k => ((c3'.v n2 k (by decide) rfl).trans (b3.v n1 k (by decide) rfl)).trans (a3.v hn k (by decide) rfl)
    have r13 : hI h3 13 = hI h 13 := funext fun k => ((c3'.v n2 k (by decide) rfl).trans (b3.v n1 k (by decide) rfl)).trans (a3.v hn k (by decide) rfl)
    have hw : ∀ p, cnn T g f t r p ≤ 99 := fun p => (cnn_e T g f t r p).2
    have FF : Fr dLe h3 (hIu h3 36 34 (-1 : Int32)) := (Fr.refl h3).I rfl
    have H4 : MoS (cnn T g f t r) g f t (hI h 12) (hI h 13) none (hIu h3 36 34 (-1 : Int32)) := MoS_fr (b := none) (h := hIu h3 36 34 (-1 : Int32)) ⟨c2', n3, by rw [iI, if_neg (by omega)]; exact (w36 7 (by omega) (by omega)).trans m1, by rw [iI, if_neg (by omega)]; exact (w36 8 (by omega) (by omega)).trans m2, by rw [iI, if_neg (by omega)]; exact (w36 9 (by omega) (by omega)).trans m3, Jga_fr n3 FF rfl (fun k => ⟨rfl, rfl, rfl, rfl⟩) (fun k => ⟨rfl, rfl⟩) jg3, (funext fun k => FF.v n3 k (by decide) rfl).trans r12, (funext fun k => FF.v n3 k (by decide) rfl).trans r13, fun p hp hs => by rw [iI, if_neg (by omega)]; exact (c4 p hp hs).trans (cnn_e T g f t r p).1, by show hI _ 36 34 = -1; rw [iI, if_pos ⟨rfl, rfl⟩]⟩ c2' (Fr.refl _) (by show hI _ 36 34 = -1; rw [iI, if_pos ⟨rfl, rfl⟩])
    obtain ⟨b', h4, d1, d2, d3, d4, d5⟩ := modelSeek_e (a1 := w) hw g7 hf ht hd H4 (fun h21 => gd (hK h21 36 = 11) (if (hI h21 36 34) = (-1 : Int32) then some ((-1 : Int32), h21) else jn (fun (x24 : Int32 × xH) => some (x24.1, x24.2)) (fun k25 => if w = 0 then Option.bind (f_Mo_bitsOf (hI h21 36 34) h21) (fun q28 => k25 (q28.1, q28.2)) else if w = (1 : Int32) then k25 ((hI h21 36 34), h21) else k25 ((hI h21 36 35), h21))))
    have bb := FnI_u a4 d4
    subst bb
    have j4 : J g f t n r T h4 := J_all d2.1 ((FF.trans d3).mono (fun p k hh => by
      cases e : dLe p k with
      | true => rfl
      | false =>
        have e2 : p = 36 ∧ 34 ≤ k ∧ k ≤ 36 := by
          simp [dLe] at e
          omega
        obtain ⟨rfl, q1, q2⟩ := e2
        have : k = 34 ∨ k = 35 ∨ k = 36 := by omega
        rcases this with rfl | rfl | rfl
        · cases hh
        · cases hh
        · cases hh)) j3
    refine ⟨match b with | none => -1 | some B => if w = 0 then nI (pcn 31 B) else if w = 1 then nI B else nI (csum (cnn T g f t r) B), h1, h4, ?_, by simp only [shp a2], ?_, ⟨g, f, t, n, r, T, j4⟩⟩
    · simp only [f_Ma_noneLeft, jn, Ma_isWithin_2, cw, bind_s, b2i_t, i10, if_false, gd, shp sh, if_true, a1]
      cases b with
      | none => rfl
      | some B =>
        obtain ⟨q1, q2, q3⟩ : hI h1 14 3 = 1 ∧ hI h1 14 4 = nI B ∧ hI h1 14 5 = nI (csum (cnn T g f t r) B) := a5
        have bl := a6 B rfl
        simp only [Option.isSome, b2i_t, i10, if_false, shp a2, if_true, q2, q3, pcI (show B < 2 ^ 24 by omega), bind_s]
        split
        · rfl
        · split
          · rfl
          · rfl
    · simp only [f_Mo_noneLeft, Mo_in_2, cw, bind_s, b2i_t, i10, if_false, gd, shp a2, if_true, b1, shp b2, c1, shp c2']
      refine Eq.trans d1 ?_
      simp only [gd, shp d2.1, if_true, jn]
      cases b with
      | none =>
        rw [show hI h4 36 34 = -1 from d2.2.2.2.2.2.2.2.2.2, if_pos rfl]
      | some B =>
        obtain ⟨q1, q2⟩ : hI h4 36 34 = nI B ∧ hI h4 36 35 = nI (csum (cnn T g f t r) B) := d2.2.2.2.2.2.2.2.2.2
        have bl := a6 B rfl
        rw [q1, q2, if_neg (nI_nm1 (by omega)), Mo_bitsOf_e (by omega)]
        simp only [bind_s]
        split
        · rfl
        · split
          · rfl
          · rfl

/-! the text's own reading -/
def dRd (p k : Nat) : Bool := !((decide (p = 17) && !(decide (k = 1))) || decide (p = 19))
theorem dRd_lx {p k : Nat} (h : dRd p k = true) : dLx p k = true := by
  simp [dRd] at h
  simp [dLx]
  omega
def CS0 (B : Nat → Nat) (z : Nat) (a : List Int32) (p : Nat) (h : xH) : Prop := ClB B z h ∧ ClT B z p h ∧ p ≤ z ∧ hI h 17 7 = nI a.length ∧ ∀ i, i < a.length → hI h 19 i = a.getD i 0
def CR (B : Nat → Nat) (z : Nat) (r : Rs) (b : List Int32) (h : xH) (o : Option (Int32 × xH)) : Prop := ∃ h', o = some (b2i r.1, h') ∧ Shp h' ∧ Fr dRd h h' ∧ hI h' 17 2 = nI (sta B z r.2.1) ∧ (r.1 = true → CS0 B z (b ++ r.2.2) r.2.1 h')
theorem tk_lt {B : Nat → Nat} {z p : Nat} (hB : ∀ i, i < z → B i < 256) : tk B z p < 268 := by
  unfold tk
  by_cases c : z ≤ sta B z p
  · rw [if_pos c]
    decide
  · rw [if_neg c]
    have := hB (sta B z p) (by omega)
    split
    · rcases wix_c (slc B (sta B z p) (nx B z p)) with e | ⟨w, _, e⟩
      · omega
      · omega
    · split
      · split
        · decide
        · decide
      · split
        · omega
        · decide
section P68
variable {B : Nat → Nat} {z : Nat} {h : xH} {a b : List Int32} {p : Nat}
theorem CS0_sh (C : CS0 B z a p h) : Shp h := C.1.1
theorem advance_c (C : CS0 B z a p h) : ∃ h', f_Re_advance 17 h = some ((), h') ∧ CS0 B z a (nx B z p) h' ∧ Fr dRd h h' := by
  have ni := nx_i (B := B) C.2.2.1
  obtain ⟨h', a1, a2, a3, a4⟩ := advance_e C.1 C.2.1.2.1 ni.2.1
  have n51 := C.1.2.1
  exact ⟨h', a1, ⟨ClB_fr C.1 a2 a3 rfl (fun _ => rfl), a4, ni.2.1, (a3.v n51 7 (by decide) rfl).trans C.2.2.2.1, fun i hi => (a3.v n51 i (by decide) rfl).trans (C.2.2.2.2 i hi)⟩, a3.mono (fun p k => dRd_lx)⟩
theorem write_c (C : CS0 B z a p h) (hl : a.length < 160) (c : Int32) : ∃ h', f_Re_write 17 c h = some ((), h') ∧ CS0 B z (a ++ [c]) p h' ∧ Fr dRd h h' := by
  have s := C.1.1
  have n51 := C.1.2.1
  have X : Fr dRd h (hIu (hIu h 17 7 (nI (a.length + 1))) 19 a.length c) := ((Fr.refl h).I rfl).I rfl
  refine ⟨hIu (hIu h 17 7 (nI (a.length + 1))) 19 a.length c, ?_, ⟨ClB_fr C.1 s X rfl (fun _ => rfl), ⟨by rw [iI, if_neg (by omega), iI, if_neg (by omega)]; exact C.2.1.1, by rw [iI, if_neg (by omega), iI, if_neg (by omega)]; exact C.2.1.2.1, by rw [iI, if_neg (by omega), iI, if_neg (by omega)]; exact C.2.1.2.2.1, fun q => by rw [iI, if_neg (by omega), iI, if_neg (by omega)]; exact C.2.1.2.2.2 q⟩, C.2.2.1, by rw [iI, if_neg (by omega), iI, if_pos ⟨rfl, rfl⟩, List.length_append, List.length_singleton], fun i hi => ?_⟩, X⟩
  · unfold f_Re_write
    rw [gd_t (by simp only [shp s]), gd_t (by simp only [shp s]), show hR h 17 6 = 19 by simp only [shp s], show hL h 19 = 160 by simp only [shp s], C.2.2.2.1]
    simp only [jn]
    rw [if_neg (show ¬ Int32.ofNat 160 ≤ nI a.length from nI_ge (b := 160) hl (by decide)), nI_clamp (show a.length < 2 ^ 31 by omega), gd_t (nin hl (by omega)), nI_1]
  · rw [List.length_append, List.length_singleton] at hi
    by_cases e : i = a.length
    · rw [iI, if_pos ⟨rfl, e⟩, e]
      simp [List.getD]
    · rw [iI, if_neg (fun z => e z.2), iI, if_neg (by omega), C.2.2.2.2 i (by omega)]
      simp [List.getD, List.getElem?_append_left (show i < a.length by omega)]
theorem takes_c (C : CS0 B z a p h) {w : Nat} (hw : w < 2 ^ 31) : if tk B z p = w then ∃ h', f_Re_takes 17 (nI w) h = some (1, h') ∧ CS0 B z a (nx B z p) h' ∧ Fr dRd h h' else f_Re_takes 17 (nI w) h = some (0, h) := by
  have s := C.1.1
  have t := tk_lt (p := p) (fun i hi => (C.1.2.2.2.2 i hi).2)
  unfold f_Re_takes
  rw [gd_t (by simp only [shp s]), C.2.1.2.2.1]
  by_cases c : tk B z p = w
  · rw [if_pos c, if_pos (by rw [c])]
    obtain ⟨h', a1, a2, a3⟩ := advance_c C
    exact ⟨h', by rw [a1, bind_s], a2, a3⟩
  · rw [if_neg c, if_neg (fun q => c ((nI_eq (by omega) hw).mp q))]
theorem CR_no (C : CS0 B z a p h) (l : List Int32) : CR B z (false, p, l) a h (some (0, h)) := ⟨h, rfl, C.1.1, Fr.refl h, C.2.1.1, fun q => by cases q⟩
theorem CR_tr {r : Rs} {h' : xH} {o o' : Option (Int32 × xH)} (x : Fr dRd h h') (C : CR B z r a h' o) (e : o' = o) : CR B z r a h o' := by
  obtain ⟨h2, a1, a2, a3, a4, a5⟩ := C
  exact ⟨h2, e.trans a1, a2, x.trans a3, a4, a5⟩
theorem chain_c {L : Nat → Int32 → xH → Option (Int32 × xH)} {F : xH → Option (Int32 × xH)} {op : Nat → Option Int32} {sub : Nat → Rs} {k : Nat} (PQ : Pp z k sub) (o0 : op 0 = none)
    (SN : ∀ n i p a h, i < 160 → CS0 B z a p h → op (tk B z p) = none → L (n + 1) (nI i) h = some (1, h))
    (SF : ∀ n i p a c h h1 h2, i < 160 → CS0 B z a p h → op (tk B z p) = some c → f_Re_advance 17 h = some ((), h1) → Shp h1 → F h1 = some (0, h2) → L (n + 1) (nI i) h = some (0, h2))
    (SS : ∀ n i p a c h h1 h2 h3, i < 160 → CS0 B z a p h → op (tk B z p) = some c → f_Re_advance 17 h = some ((), h1) → Shp h1 → F h1 = some (1, h2) → Shp h2 → f_Re_write 17 c h2 = some ((), h3) → L (n + 1) (nI i) h = L n (nI (i + 1)) h3)
    (SE : ∀ p b h, b.length ≤ p → CS0 B z b p h → CR B z (sub p) b h (F h)) :
    ∀ m n i p b a h, m + i = 161 → m < n → i < p → (b ++ a).length ≤ p → CS0 B z (b ++ a) p h → CR B z (chn (tk B z) (nx B z) op sub m p a) b h (L n (nI i) h) := by
  intro m
  induction m with
  | zero =>
    intro n i p b a h hm hn hi' hl C
    have := C.1.2.2.1
    have := C.2.2.1
    omega
  | succ m ih =>
    intro n i p b a h hm hn hi' hl C
    obtain ⟨n, rfl⟩ : ∃ q, n = q + 1 := ⟨n - 1, by omega⟩
    have z160 := C.1.2.2.1
    have pz := C.2.2.1
    unfold chn
    cases e : op (tk B z p) with
    | none =>
      exact ⟨h, SN n i p _ h (by omega) C e, C.1.1, Fr.refl h, C.2.1.1, fun _ => C⟩
    | some c =>
      have t0 : tk B z p ≠ 0 := fun q => by rw [q, o0] at e; cases e
      have ni := nx_i (B := B) pz
      have si := sta_i (B := B) pz
      have n3 := ni.2.2 t0
      obtain ⟨h1, a1, a2, a3⟩ := advance_c C
      have R := SE (nx B z p) (b ++ a) h1 (by omega) a2
      have Q := PQ (nx B z p) ni.2.1
      simp only
      cases s : (sub (nx B z p)).1 with
      | false =>
        rw [if_neg Bool.false_ne_true]
        obtain ⟨h2, b1, b2, b3, b4, b5⟩ := R
        rw [s] at b1
        exact ⟨h2, by rw [s]; exact SF n i p _ c h h1 h2 (by omega) C e a1 a2.1.1 b1, b2, a3.trans b3, b4, fun q => by rw [s] at q; cases q⟩
      | true =>
        rw [if_pos rfl]
        obtain ⟨h2, b1, b2, b3, b4, b5⟩ := R
        rw [s] at b1
        obtain ⟨q1, q2, q3⟩ := Q.2 s
        have C2 := b5 s
        have len : ((b ++ a) ++ (sub (nx B z p)).2.2).length + 1 ≤ (sub (nx B z p)).2.1 := by
          rw [List.length_append]
          omega
        have := C2.2.2.1
        obtain ⟨h3, c1, c2', c3⟩ := write_c C2 (by omega) c
        have ea : b ++ a ++ (sub (nx B z p)).2.2 ++ [c] = b ++ (a ++ (sub (nx B z p)).2.2 ++ [c]) := by simp [List.append_assoc]
        rw [ea] at c2'
        have r := ih n (i + 1) (sub (nx B z p)).2.1 b (a ++ (sub (nx B z p)).2.2 ++ [c]) h3 (by omega) (by omega) (by omega) (by rw [← ea, List.length_append, List.length_singleton]; omega) c2'
        exact CR_tr ((a3.trans b3).trans c3) r (SS n i p _ c h h1 h2 h3 (by omega) C e a1 a2.1.1 b1 b2 c1)
theorem seq_c {L : Nat → Int32 → xH → Option (Int32 × xH)} {F : xH → Option (Int32 × xH)} {op : Nat → Option Int32} {sub : Nat → Rs} {k : Nat} (PQ : Pp z k sub) (o0 : op 0 = none)
    (SN : ∀ n i p a h, i < 160 → CS0 B z a p h → op (tk B z p) = none → L (n + 1) (nI i) h = some (1, h))
    (SF : ∀ n i p a c h h1 h2, i < 160 → CS0 B z a p h → op (tk B z p) = some c → f_Re_advance 17 h = some ((), h1) → Shp h1 → F h1 = some (0, h2) → L (n + 1) (nI i) h = some (0, h2))
    (SS : ∀ n i p a c h h1 h2 h3, i < 160 → CS0 B z a p h → op (tk B z p) = some c → f_Re_advance 17 h = some ((), h1) → Shp h1 → F h1 = some (1, h2) → Shp h2 → f_Re_write 17 c h2 = some ((), h3) → L (n + 1) (nI i) h = L n (nI (i + 1)) h3)
    (SE : ∀ p b h, b.length ≤ p → CS0 B z b p h → CR B z (sub p) b h (F h)) (hl : b.length ≤ p) (C : CS0 B z b p h) : CR B z (sqn (tk B z) (nx B z) op sub p) b h (Option.bind (F h) (fun q9 => if q9.1 = 0 then some ((0 : Int32), q9.2) else L fu (0 : Int32) q9.2)) := by
  have R := SE p b h hl C
  have Q := PQ p C.2.2.1
  unfold sqn
  cases s : (sub p).1 with
  | false =>
    rw [if_neg Bool.false_ne_true]
    obtain ⟨h2, b1, b2, b3, b4, b5⟩ := R
    rw [s] at b1
    exact ⟨h2, by rw [b1, s]; rfl, b2, b3, b4, fun q => by rw [s] at q; cases q⟩
  | true =>
    rw [if_pos rfl]
    obtain ⟨h2, b1, b2, b3, b4, b5⟩ := R
    rw [s] at b1
    obtain ⟨q1, q2, q3⟩ := Q.2 s
    have C2 := b5 s
    have r := chain_c PQ o0 SN SF SS SE 161 fu 0 (sub p).2.1 b (sub p).2.2 h2 rfl (by decide) (by omega) (by rw [List.length_append]; omega) C2
    exact CR_tr b3 r (by rw [b1]; rfl)
variable {R0 : Nat → Int32 → xH → Option (Int32 × xH)} {R : Nat → Nat → Rs}
def HR0 (B : Nat → Nat) (z : Nat) (R0 : Nat → Int32 → xH → Option (Int32 × xH)) (R : Nat → Nat → Rs) (d0 : Nat) : Prop := ∀ d p b h, d < d0 → b.length ≤ p → CS0 B z b p h → CR B z (R d p) b h (R0 17 (nI (5 - d)) h)
theorem readPlain_c {d : Nat} (d5 : d ≤ 5) (HR : HR0 B z R0 R d) (hl : b.length ≤ p) (C : CS0 B z b p h) : CR B z (pPl (tk B z) (nx B z) (nv B z) R d p) b h (f_Re_readPlain R0 17 (nI (5 - d)) h) := by
  have s := C.1.1
  have t := tk_lt (p := p) (fun i hi => (C.1.2.2.2.2 i hi).2)
  have e4 := C.2.1.2.2.1
  have z160 := C.1.2.2.1
  have pz := C.2.2.1
  have ni := nx_i (B := B) pz
  have si := sta_i (B := B) pz
  have WR : ∀ c : Int32, tk B z p ≠ 0 → CR B z (true, nx B z p, [c]) b h (Option.bind (f_Re_write 17 c h) (fun q37 => gd (hK q37.2 17 = 1) (Option.bind (f_Re_advance 17 q37.2) (fun q14 => some ((1 : Int32), q14.2))))) := by
    intro c t0
    have := ni.2.2 t0
    obtain ⟨h1, a1, a2, a3⟩ := write_c C (by omega) c
    obtain ⟨h2, b1, b2, b3⟩ := advance_c a2
    exact ⟨h2, by rw [a1, bind_s, gd_t (by simp only [shp a2.1.1]), b1]; rfl, b2.1.1, a3.trans b3, b2.2.1.1, fun _ => b2⟩
  unfold f_Re_readPlain pPl
  rw [gd_t (by simp only [shp s]), e4]
  simp only [jn]
  by_cases c1 : tk B z p = 1
  · rw [if_pos c1, if_pos (by rw [c1]; rfl), C.2.1.2.2.2 c1]
    exact WR _ (by omega)
  · rw [if_neg c1, if_neg (show ¬ nI (tk B z p) = (1 : Int32) from fun q => c1 ((nI_eq (b := 1) (by omega) (by decide)).mp q))]
    by_cases c2 : 256 ≤ tk B z p ∧ tk B z p < 262
    · rw [if_pos c2, if_neg (show ¬ nI (tk B z p) < (256 : Int32) from nI_nlt (b := 256) c2.1 (by omega)), if_neg (show ¬ (262 : Int32) ≤ nI (tk B z p) from nI_ge (b := 262) c2.2 (by decide)), show (10000 : Int32) + nI (tk B z p) - (256 : Int32) = nI (10000 + (tk B z p - 256)) by
        show nI 10000 + nI (tk B z p) - nI 256 = _
        rw [nI_add, li_sub (by omega), Nat.add_sub_assoc c2.1]]
      exact WR _ (by omega)
    · rw [if_neg c2]
      have NB : ∀ {o : Option (Int32 × xH)}, (if nI (tk B z p) < (256 : Int32) then o else if (262 : Int32) ≤ nI (tk B z p) then o else Option.bind (f_Re_write 17 ((10000 : Int32) + nI (tk B z p) - (256 : Int32)) h) (fun q36 => gd (hK q36.2 17 = 1) (Option.bind (f_Re_advance 17 q36.2) (fun q14 => some ((1 : Int32), q14.2))))) = o := by
        intro o
        by_cases c : tk B z p < 256
        · rw [if_pos (show nI (tk B z p) < (256 : Int32) from nI_lt (b := 256) c (by decide))]
        · rw [if_neg (show ¬ nI (tk B z p) < (256 : Int32) from nI_nlt (b := 256) (by omega) (by omega)), if_pos (show (262 : Int32) ≤ nI (tk B z p) from nI_le (a := 262) (by omega) (by omega))]
      rw [NB]
      by_cases c3 : tk B z p = 40
      · rw [if_pos (show nI (tk B z p) = (40 : Int32) by rw [c3]; rfl)]
        by_cases c4 : 0 < d
        · rw [if_pos ⟨c3, c4⟩, if_pos (show nI (5 - d) < (5 : Int32) from nI_lt (b := 5) (by omega) (by decide))]
          have n3 := ni.2.2 (by omega)
          obtain ⟨h1, a1, a2, a3⟩ := advance_c C
          obtain ⟨h2, b1, b2, b3, b4, b5⟩ := HR (d - 1) (nx B z p) b h1 (by omega) (by omega) a2
          rw [a1, bind_s, gd_t (by simp only [shp a2.1.1]), nI_1, show 5 - d + 1 = 5 - (d - 1) by omega, b1, bind_s]
          cases s1 : (R (d - 1) (nx B z p)).1 with
          | false =>
            rw [if_pos (show b2i false = 0 from rfl), if_neg Bool.false_ne_true]
            exact ⟨h2, by rw [s1]; rfl, b2, a3.trans b3, b4, fun q => by rw [s1] at q; cases q⟩
          | true =>
            rw [if_neg (show ¬ b2i true = 0 by decide), if_pos (rfl : true = true), gd_t (by simp only [shp b2])]
            have C2 := b5 s1
            have K := takes_c C2 (w := 41) (by decide)
            by_cases c5 : tk B z (R (d - 1) (nx B z p)).2.1 = 41
            · rw [if_pos c5] at K
              obtain ⟨h3, e1, e2, e3⟩ := K
              rw [if_pos c5, show (41 : Int32) = nI 41 from rfl, e1, bind_s]
              exact ⟨h3, rfl, e2.1.1, (a3.trans b3).trans e3, e2.2.1.1, fun _ => e2⟩
            · rw [if_neg c5] at K
              rw [if_neg c5, show (41 : Int32) = nI 41 from rfl, K, bind_s]
              exact ⟨h2, rfl, b2, a3.trans b3, b4, fun q => by cases q⟩
        · rw [if_neg (fun q => c4 q.2), if_neg (show ¬ nI (5 - d) < (5 : Int32) from nI_nlt (b := 5) (by omega) (by omega))]
          exact CR_no C []
      · rw [if_neg (fun q => c3 q.1), if_neg (show ¬ nI (tk B z p) = (40 : Int32) from fun q => c3 ((nI_eq (b := 40) (by omega) (by decide)).mp q))]
        exact CR_no C []
theorem writes_c {L : Nat → Int32 → xH → (Int32 → xH → Option (Int32 × xH)) → Option (Int32 × xH)} {v : Nat} {c : Int32} (LE : ∀ n i h K, ¬ i < v → i < 2 ^ 31 → L (n + 1) (nI i) h K = K (nI i) h) (LS : ∀ n i h h' K, i < v → Shp h → f_Re_write 17 c h = some ((), h') → L (n + 1) (nI i) h K = L n (nI (i + 1)) h' K) (K : Int32 → xH → Option (Int32 × xH)) : ∀ m n i a h, i + m = v → v < 100 → m < n → a.length + m ≤ 160 → CS0 B z a p h → ∃ h', L n (nI i) h K = K (nI v) h' ∧ CS0 B z (a ++ List.replicate m c) p h' ∧ Fr dRd h h' := by
  intro m
  induction m with
  | zero =>
    intro n i a h hm hv hn hl C
    obtain ⟨n, rfl⟩ : ∃ q, n = q + 1 := ⟨n - 1, by omega⟩
    refine ⟨h, ?_, by rw [List.replicate_zero, List.append_nil]; exact C, Fr.refl h⟩
    rw [LE n i h K (by omega) (by omega), show i = v by omega]
  | succ m ih =>
    intro n i a h hm hv hn hl C
    obtain ⟨n, rfl⟩ : ∃ q, n = q + 1 := ⟨n - 1, by omega⟩
    obtain ⟨h1, a1, a2, a3⟩ := write_c C (by omega) c
    obtain ⟨h2, b1, b2, b3⟩ := ih n (i + 1) (a ++ [c]) h1 (by omega) hv (by omega) (by rw [List.length_append, List.length_singleton]; omega) a2
    refine ⟨h2, (LS n i h h1 K (by omega) C.1.1 a1).trans b1, ?_, a3.trans b3⟩
    rw [List.append_assoc] at b2
    exact b2
/-- what stands before, of which the codes come behind -/
def wrp (c : Int32) (v : Nat) (r : Rs) : Rs := if r.1 = true then (true, r.2.1, r.2.2 ++ List.replicate v c) else r
theorem wrp_0 (c : Int32) (r : Rs) : wrp c 0 r = r := by
  unfold wrp
  by_cases s : r.1 = true
  · rw [if_pos s, List.replicate_zero, List.append_nil, ← s]
  · rw [if_neg s]
theorem wrp_s (c : Int32) (v : Nat) (r : Rs) : wrp c v (if r.1 = true then (true, r.2.1, r.2.2 ++ [c]) else r) = wrp c (v + 1) r := by
  unfold wrp
  by_cases s : r.1 = true
  · rw [if_pos s, if_pos rfl, if_pos s]
    show (true, r.2.1, r.2.2 ++ [c] ++ List.replicate v c) = _
    rw [List.append_assoc]
    rfl
  · rw [if_neg s, if_neg s, if_neg s]
theorem readOne_c : ∀ (d v n p : Nat) (b : List Int32) (h : xH), d + v ≤ 5 → d < n → HR0 B z R0 R d → (∀ d', d' < d → Pp z (5 * d' + 6) (R d')) → b.length + v ≤ p → CS0 B z b p h → CR B z (wrp (-9) v (pOn (tk B z) (nx B z) (nv B z) R d p)) b h (f_Re_readOne_L2 R0 17 (nI (5 - (d + v))) n (nI v) h (fun v10 h11 => gd (hK h11 17 = 1) (Option.bind (f_Re_readPlain R0 17 (nI (5 - (d + v)) + v10) h11) (fun q12 => if q12.1 = 0 then some ((0 : Int32), q12.2) else f_Re_readOne_L42 R0 17 (nI (5 - (d + v))) v10 fu (0 : Int32) q12.2 (fun v18 h19 => some ((1 : Int32), h19)))))) := by
  have PL : ∀ (d v p : Nat) (b : List Int32) (h : xH), d + v ≤ 5 → HR0 B z R0 R d → (∀ d', d' < d → Pp z (5 * d' + 6) (R d')) → b.length + v ≤ p → CS0 B z b p h → CR B z (wrp (-9) v (pPl (tk B z) (nx B z) (nv B z) R d p)) b h (gd (hK h 17 = 1) (Option.bind (f_Re_readPlain R0 17 (nI (5 - (d + v)) + nI v) h) (fun q12 => if q12.1 = 0 then some ((0 : Int32), q12.2) else f_Re_readOne_L42 R0 17 (nI (5 - (d + v))) (nI v) fu (0 : Int32) q12.2 (fun v18 h19 => some ((1 : Int32), h19))))) := by
    intro d v p b h hd HR PR hl C
    have R1 := readPlain_c (by omega) HR (show b.length ≤ p by omega) C
    have Q := pPl_p (Tk_of B z) PR p C.2.2.1
    obtain ⟨h2, b1, b2, b3, b4, b5⟩ := R1
    rw [gd_t (by simp only [shp C.1.1]), nI_add, show 5 - (d + v) + v = 5 - d by omega, b1, bind_s]
    unfold wrp
    cases s : (pPl (tk B z) (nx B z) (nv B z) R d p).1 with
    | false =>
      rw [if_neg (by decide), if_pos (show b2i false = 0 from rfl)]
      exact ⟨h2, by rw [s]; rfl, b2, b3, b4, fun q => by rw [s] at q; cases q⟩
    | true =>
      rw [if_pos rfl, if_neg (show ¬ b2i true = 0 by decide)]
      have C2 := b5 s
      obtain ⟨q1, q2, q3⟩ := Q.2 s
      have z160 := C.1.2.2.1
      have pz := C2.2.2.1
      obtain ⟨h3, e1, e2, e3⟩ := writes_c (L := f_Re_readOne_L42 R0 17 (nI (5 - (d + v))) (nI v)) (v := v) (c := -9) (fun n i h K hi' hb => by rw [f_Re_readOne_L42, if_pos (nI_le (by omega) hb)]) (fun n i h h' K hi' s w => by rw [f_Re_readOne_L42, if_neg (nI_ge hi' (by omega)), gd_t (by simp only [shp s]), w, bind_s, nI_1]) (fun v18 h19 => some ((1 : Int32), h19)) v fu 0 _ h2 (by omega) (by omega) (by show v < 2000; omega) (by rw [List.length_append]; omega) C2
      rw [List.append_assoc] at e2
      exact ⟨h3, e1, e2.1.1, b3.trans e3, e2.2.1.1, fun _ => e2⟩
  intro d
  induction d with
  | zero =>
    intro v n p b h hd hn HR PR hl C
    obtain ⟨n, rfl⟩ : ∃ q, n = q + 1 := ⟨n - 1, by omega⟩
    have X := PL 0 v p b h hd HR PR hl C
    have E : f_Re_readOne_L2 R0 17 (nI (5 - (0 + v))) (n + 1) (nI v) h (fun v10 h11 => gd (hK h11 17 = 1) (Option.bind (f_Re_readPlain R0 17 (nI (5 - (0 + v)) + v10) h11) (fun q12 => if q12.1 = 0 then some ((0 : Int32), q12.2) else f_Re_readOne_L42 R0 17 (nI (5 - (0 + v))) v10 fu (0 : Int32) q12.2 (fun v18 h19 => some ((1 : Int32), h19))))) = (gd (hK h 17 = 1) (Option.bind (f_Re_readPlain R0 17 (nI (5 - (0 + v)) + nI v) h) (fun q12 => if q12.1 = 0 then some ((0 : Int32), q12.2) else f_Re_readOne_L42 R0 17 (nI (5 - (0 + v))) (nI v) fu (0 : Int32) q12.2 (fun v18 h19 => some ((1 : Int32), h19))))) := by
      rw [f_Re_readOne_L2, gd_t (by simp only [shp C.1.1]), nI_add, if_pos (show (5 : Int32) ≤ nI (5 - (0 + v) + v) from nI_le (a := 5) (by omega) (by omega))]
      split
      · rfl
      · rfl
    exact CR_tr (Fr.refl h) X E
  | succ d ih =>
    intro v n p b h hd hn HR PR hl C
    obtain ⟨n, rfl⟩ : ∃ q, n = q + 1 := ⟨n - 1, by omega⟩
    have t := tk_lt (p := p) (fun i hi => (C.1.2.2.2.2 i hi).2)
    have ni := nx_i (B := B) C.2.2.1
    have si := sta_i (B := B) C.2.2.1
    unfold pOn
    by_cases c : tk B z p = 45
    · rw [if_pos c, wrp_s]
      have n3 := ni.2.2 (by omega)
      obtain ⟨h1, a1, a2, a3⟩ := advance_c C
      have X := ih (v + 1) n (nx B z p) b h1 (by omega) (by omega) (fun d' p' b' h' q => HR d' p' b' h' (by omega)) (fun d' q => PR d' (by omega)) (by omega) a2
      rw [show d + (v + 1) = d + 1 + v by omega] at X
      refine CR_tr a3 X ?_
      rw [f_Re_readOne_L2, gd_t (by simp only [shp C.1.1]), C.2.1.2.2.1, c, if_pos (show nI 45 = (45 : Int32) from rfl), nI_add, if_neg (show ¬ (5 : Int32) ≤ nI (5 - (d + 1 + v) + v) from nI_ge (b := 5) (by omega) (by decide)), a1, bind_s, nI_1]
    · rw [if_neg c]
      have X := PL (d + 1) v p b h hd HR PR hl C
      refine CR_tr (Fr.refl h) X ?_
      rw [f_Re_readOne_L2, gd_t (by simp only [shp C.1.1]), C.2.1.2.2.1, if_neg (show ¬ nI (tk B z p) = (45 : Int32) from fun q => c ((nI_eq (b := 45) (by omega) (by decide)).mp q))]
end P68

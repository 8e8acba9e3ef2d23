/-! pairs, threes, in whole numbers -/
def pr (i j : Nat) : Nat := j * (j - 1) / 2 + i
def lo (p : Nat) : Nat := [0, 0, 1, 0, 1, 2, 0, 1, 2, 3, 0, 1, 2, 3, 4, 0, 1, 2, 3, 4, 5].getD p 0
def hi (p : Nat) : Nat := [1, 2, 2, 3, 3, 3, 4, 4, 4, 4, 5, 5, 5, 5, 5, 6, 6, 6, 6, 6, 6].getD p 0
def c2 (g : Nat) : Nat := g * (g - 1) / 2
def c3 (g : Nat) : Nat := g * (g - 1) * (g - 2) / 6
def wi (s : Nat) : Nat := (List.range 21).foldl (fun a p => if s.testBit (lo p) && s.testBit (hi p) then a + 2 ^ p else a) 0
def tc : List (Nat × Nat × Nat) := (List.range 7).flatMap (fun k => (List.range k).flatMap (fun j => (List.range j).map (fun i => (i, j, k))))
def tm (g : Nat) : List (Nat × Nat × Nat) := (List.range g).flatMap (fun i => (List.range g).flatMap (fun j => (List.range g).filterMap (fun k => if i < j ∧ j < k then some (i, j, k) else none)))
def st3 (t : Nat × Nat × Nat) : Nat := 2 ^ t.1 + 2 ^ t.2.1 + 2 ^ t.2.2
def pm3 (t : Nat × Nat × Nat) : Nat := 2 ^ pr t.1 t.2.1 + 2 ^ pr t.1 t.2.2 + 2 ^ pr t.2.1 t.2.2
def wh3 (t : Nat × Nat × Nat) : Nat := 100 * t.1 + 10 * t.2.1 + t.2.2
def tcn (t : Nat) : Nat × Nat × Nat := tc.getD t (0, 0, 0)
def b2i (b : Bool) : Int32 := if b then 1 else 0
def nm6 (a b c d e f : Int32) : Nat → Int32 := fun x => if x = 0 then a else if x = 1 then b else if x = 2 then c else if x = 3 then d else if x = 4 then e else f
/-! what is the same in two heaps -/
def Fr (D : Nat → Nat → Bool) (h h' : xH) : Prop := hN h ≤ hN h' ∧ ∀ p, p < hN h → hK h' p = hK h p ∧ hL h' p = hL h p ∧ ∀ k, D p k = true → hI h' p k = hI h p k ∧ hR h' p k = hR h p k
theorem Fr.refl {D : Nat → Nat → Bool} (h : xH) : Fr D h h := ⟨Nat.le_refl _, fun _ _ => ⟨rfl, rfl, fun _ _ => ⟨rfl, rfl⟩⟩⟩
theorem Fr.trans {D : Nat → Nat → Bool} {a b c : xH} (x : Fr D a b) (y : Fr D b c) : Fr D a c := ⟨Nat.le_trans x.1 y.1, fun p hp => by
  obtain ⟨x1, x2, x3⟩ := x.2 p hp
  obtain ⟨y1, y2, y3⟩ := y.2 p (Nat.lt_of_lt_of_le hp x.1)
  exact ⟨y1.trans x1, y2.trans x2, fun k hk => ⟨(y3 k hk).1.trans (x3 k hk).1, (y3 k hk).2.trans (x3 k hk).2⟩⟩⟩
theorem Fr.mono {D E : Nat → Nat → Bool} {a b : xH} (h : ∀ p k, E p k = true → D p k = true) (x : Fr D a b) : Fr E a b := ⟨x.1, fun p hp => ⟨(x.2 p hp).1, (x.2 p hp).2.1, fun k hk => (x.2 p hp).2.2 k (h p k hk)⟩⟩
theorem Fr.I {D : Nat → Nat → Bool} {a b : xH} (x : Fr D a b) {p k : Nat} {v : Int32} (h : D p k = false) : Fr D a (hIu b p k v) := ⟨x.1, fun q hq => ⟨(x.2 q hq).1, (x.2 q hq).2.1, fun j hj => ⟨by
  rw [iI, if_neg (by rintro ⟨rfl, rfl⟩; rw [h] at hj; cases hj)]
  exact ((x.2 q hq).2.2 j hj).1, ((x.2 q hq).2.2 j hj).2⟩⟩⟩
theorem Fr.R {D : Nat → Nat → Bool} {a b : xH} (x : Fr D a b) {p k : Nat} {v : Nat} (h : D p k = false) : Fr D a (hRu b p k v) := ⟨x.1, fun q hq => ⟨(x.2 q hq).1, (x.2 q hq).2.1, fun j hj => ⟨((x.2 q hq).2.2 j hj).1, by
  rw [rR, if_neg (by rintro ⟨rfl, rfl⟩; rw [h] at hj; cases hj)]
  exact ((x.2 q hq).2.2 j hj).2⟩⟩⟩
theorem Fr.X {D : Nat → Nat → Bool} {a b : xH} (x : Fr D a b) {p : Nat} {f : Nat → Int32} (h : ∀ k, D p k = false) : Fr D a (hIr b p f) := ⟨x.1, fun q hq => ⟨(x.2 q hq).1, (x.2 q hq).2.1, fun j hj => ⟨by
  rw [iX, if_neg (by rintro rfl; rw [h] at hj; cases hj)]
  exact ((x.2 q hq).2.2 j hj).1, ((x.2 q hq).2.2 j hj).2⟩⟩⟩
/-- stores into what was made since -/
theorem Fr.I2 {D : Nat → Nat → Bool} {a b : xH} (x : Fr D a b) {p k : Nat} {v : Int32} (h : hN a ≤ p) : Fr D a (hIu b p k v) := ⟨x.1, fun q hq => ⟨(x.2 q hq).1, (x.2 q hq).2.1, fun j hj => ⟨by
  rw [iI, if_neg (by rintro ⟨rfl, rfl⟩; omega)]
  exact ((x.2 q hq).2.2 j hj).1, ((x.2 q hq).2.2 j hj).2⟩⟩⟩
theorem Fr.R2 {D : Nat → Nat → Bool} {a b : xH} (x : Fr D a b) {p k : Nat} {v : Nat} (h : hN a ≤ p) : Fr D a (hRu b p k v) := ⟨x.1, fun q hq => ⟨(x.2 q hq).1, (x.2 q hq).2.1, fun j hj => ⟨((x.2 q hq).2.2 j hj).1, by
  rw [rR, if_neg (by rintro ⟨rfl, rfl⟩; omega)]
  exact ((x.2 q hq).2.2 j hj).2⟩⟩⟩
theorem Fr.X2 {D : Nat → Nat → Bool} {a b : xH} (x : Fr D a b) {p : Nat} {f : Nat → Int32} (h : hN a ≤ p) : Fr D a (hIr b p f) := ⟨x.1, fun q hq => ⟨(x.2 q hq).1, (x.2 q hq).2.1, fun j hj => ⟨by
  rw [iX, if_neg (by rintro rfl; omega)]
  exact ((x.2 q hq).2.2 j hj).1, ((x.2 q hq).2.2 j hj).2⟩⟩⟩
theorem Fr.N {D : Nat → Nat → Bool} {a b : xH} (x : Fr D a b) {kd ln : Nat} : Fr D a (hNw b kd ln) := ⟨Nat.le_succ_of_le x.1, fun q hq => by
  have h : ¬ q = b.1 := by have := x.1; unfold hN at *; omega
  exact ⟨(if_neg h).trans (x.2 q hq).1, (if_neg h).trans (x.2 q hq).2.1, fun j hj => ⟨(if_neg h).trans ((x.2 q hq).2.2 j hj).1, (if_neg h).trans ((x.2 q hq).2.2 j hj).2⟩⟩⟩
/-! the invariant, piece by piece -/
def Jseat (h : xH) : Prop := (∀ s, s < 128 → hI h 3 s = nI (wi s)) ∧ (∀ p, p < 21 → hI h 4 p = nI (lo p) ∧ hI h 5 p = nI (hi p)) ∧ ∀ t, t < 35 → hI h 6 t = nI (st3 (tcn t))
def Jtab (g f s : Nat) (h : xH) : Prop := (1 ≤ g ∧ g ≤ 7 ∧ f < 2 ^ c2 g ∧ s < 2 ^ c2 g ∧ f &&& s = 0) ∧ hI h 7 1 = nI g ∧ hI h 7 2 = nI f ∧ hI h 7 3 = nI s ∧ hI h 36 7 = nI g ∧ hI h 36 8 = nI f ∧ hI h 36 9 = nI (f ||| s)
def Jkept (n : Nat) (h : xH) : Prop := (hI h 1 14 = -1 ∧ hI h 36 37 = -1) ∨ ∃ g r f s, (1 ≤ g ∧ g ≤ 7 ∧ f < 2 ^ c2 g ∧ s < 2 ^ c2 g ∧ f &&& s = 0) ∧ r < n ∧ hI h 1 14 = nI r ∧ hI h 32 1 = nI g ∧ hI h 32 2 = nI f ∧ hI h 32 3 = nI s ∧ hI h 36 37 = nI g ∧ hI h 36 38 = nI f ∧ hI h 36 39 = nI (f ||| s) ∧ hI h 36 40 = nI r
def Jtown (h : xH) : Prop := ∃ n, n ≤ 5 ∧ hI h 1 12 = nI n ∧ hI h 36 12 = nI n ∧ ∀ i, i < n → (51 ≤ hR h 22 i ∧ hR h 22 i < hN h) ∧ hK h (hR h 22 i) = 8 ∧ ∃ kd nb, kd < 6 ∧ nb < 10 ∧ hI h 40 i = nI kd ∧ hI h 41 i = nI nb ∧ hI h (hR h 22 i) 0 = nI kd ∧ hI h (hR h 22 i) 1 = nI nb
def Jtape (h : xH) : Prop := ∃ n, n ≤ 160 ∧ hI h 17 1 = nI n ∧ hI h 36 6 = nI n ∧ ∀ i, i < n → hI h 18 i = hI h 39 i ∧ ∃ b, b < 256 ∧ hI h 39 i = nI b
def Jsheet (h : xH) : Prop := ∀ x, x < 4 → (hI h (24 + 2 * x) 0 = -1 ∧ hI h 47 x = 0) ∨ ∃ so n, so < 3 ∧ n ≤ 40 ∧ hI h (24 + 2 * x) 0 = nI so ∧ hI h (24 + 2 * x) 1 = nI n ∧ hI h 47 x = 1 ∧ hI h 48 x = nI so ∧ hI h 49 x = nI n ∧ ∀ i, i < n → hI h (25 + 2 * x) i = hI h 50 (40 * x + i)
def Jst (g r : Nat) (T : Nat → Nat → (Nat → Int32) → Int32) (h : xH) : Prop := hI h 11 3 = nI (c3 g) ∧ ∀ i j k, i < j → j < k → k < g → hI h 12 (st3 (i, j, k)) = b2i (T r 0 (nm6 (nI i) (nI j) (nI k) 3 3 (nI g)) != 0) ∧ hI h 13 (st3 (i, j, k)) = b2i (T r 0 (nm6 (nI i) (nI j) (nI k) 0 3 (nI g)) != 0)
/-- the scratch of a reading of the reference -/
def dPar (p k : Nat) : Bool := !(p == 36 && (Nat.ble 19 k && Nat.ble k 27))
/-- one step of a text that was kept, over a stack -/
def stp (nm : Nat → Int32) (c : Int32) (st : List Int32) : List Int32 := if (10000 : Int32) ≤ c then nm (c - 10000).toNatClampNeg :: st else if 0 ≤ c then c :: st else if c = -8 then (if st.headD 0 = 0 then 1 else 0) :: st.tail else if c = -9 then (- st.headD 0) :: st.tail else (if c = -7 then (if st.tail.headD 0 = 0 then 0 else if st.headD 0 = 0 then 0 else 1) else if c = -6 then (if st.tail.headD 0 = 0 then (if st.headD 0 = 0 then 0 else 1) else 1) else if c = -5 then (if st.tail.headD 0 = st.headD 0 then 1 else 0) else if c = -4 then (if st.headD 0 ≤ st.tail.headD 0 then 0 else 1) else if c = -3 then st.tail.headD 0 * st.headD 0 else if c = -2 then st.tail.headD 0 - st.headD 0 else if c = -1 then st.tail.headD 0 + st.headD 0 else 0) :: st.tail.tail
/-- a code as a reading writes it -/
def cdk (c : Int32) : Prop := (∃ n, n < 10006 ∧ c = nI n) ∨ (c.toInt < 0 ∧ -9 ≤ c.toInt)
/-- how many a code takes, at least -/
def ned (c : Int32) : Nat := if 0 ≤ c then 0 else if c = -8 then 1 else if c = -9 then 1 else 2
/-- the codes go, from that stack, within 40 -/
def Gs_ok : List Int32 → Nat → Prop
  | [], _ => True
  | c :: l, n => cdk c ∧ ned c ≤ n ∧ n - ned c + 1 ≤ 40 ∧ Gs_ok l (n - ned c + 1)
def runs (nm : Nat → Int32) (l : List Int32) (st : List Int32) : List Int32 := l.foldl (fun a c => stp nm c a) st
def cds (h : xH) (c a b : Nat) : List Int32 := (List.range (b - a)).map (fun i => hI h c (a + i))
/-- the text's own side: the codes of its part w say T -/
def Tcl (t : Nat) (T : Nat → (Nat → Int32) → Int32) (h : xH) : Prop := ∃ x c e n0 n1 n2, hR h 21 t = x ∧ (x = 33 ∨ 51 ≤ x) ∧ x < hN h ∧ hK h x = 7 ∧ hR h x 0 = c ∧ hR h x 1 = e ∧ (c = 34 ∨ 51 ≤ c) ∧ c < hN h ∧ hK h c = 12 ∧ (e = 35 ∨ 51 ≤ e) ∧ e < hN h ∧ hK h e = 12 ∧ hL h e = 3 ∧ n0 ≤ n1 ∧ n1 ≤ n2 ∧ n2 ≤ hL h c ∧ hL h c ≤ 160 ∧ hI h e 0 = nI n0 ∧ hI h e 1 = nI n1 ∧ hI h e 2 = nI n2 ∧ ∀ w a b, (w = 0 ∧ a = 0 ∧ b = n0 ∨ w = 1 ∧ a = n0 ∧ b = n1 ∨ w = 2 ∧ a = n1 ∧ b = n2) → Gs_ok (cds h c a b) 0 ∧ ∀ nm, runs nm (cds h c a b) [] = [T w nm]
/-- the reference's side: what it reads is T -/
def Tmo (t : Nat) (T : Nat → (Nat → Int32) → Int32) (h : xH) : Prop := ∃ z, z ≤ 160 ∧ hI h 38 t = nI z ∧ ∀ h', Shp h' → hI h' 38 t = nI z → (∀ i, i < z → hI h' 37 (160 * t + i) = hI h 37 (160 * t + i)) → ∀ w, w < 3 → ∃ h2, f_Mo_read 36 (nI t) (nI w) h' = some (T w (fun x => hI h' 36 (13 + x)), h2) ∧ Shp h2 ∧ Fr dPar h' h2
def Jtext (n : Nat) (T : Nat → Nat → (Nat → Int32) → Int32) (h : xH) : Prop := 1 ≤ n ∧ n ≤ 6 ∧ hI h 1 11 = nI n ∧ hI h 36 3 = nI n ∧ (∀ t w nm nm2, (∀ x, x < 6 → nm x = nm2 x) → T t w nm = T t w nm2) ∧ ∀ t, t < n → Tcl t (T t) h ∧ Tmo t (T t) h
def Jrule (n r : Nat) (h : xH) : Prop := r < n ∧ hI h 1 13 = nI r ∧ hI h 36 4 = nI r ∧ hR h 8 5 = hR h 21 r
def J (g f s n r : Nat) (T : Nat → Nat → (Nat → Int32) → Int32) (h : xH) : Prop := Shp h ∧ 51 ≤ hN h ∧ Jseat h ∧ Jtab g f s h ∧ Jkept n h ∧ Jtown h ∧ Jtape h ∧ Jsheet h ∧ Jst g r T h ∧ Jtext n T h ∧ Jrule n r h
def Inv (h : xH) : Prop := ∃ g f s n r T, J g f s n r T h

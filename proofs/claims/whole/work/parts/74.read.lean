/-! a text read, on both sides -/
def prt (t nf vf : Nat → Nat) (w p : Nat) : Rs := if t p = 262 + w then (if (pG t nf vf 24 5 (nf p)).1 = true then (if t (pG t nf vf 24 5 (nf p)).2.1 = 59 then (true, nf (pG t nf vf 24 5 (nf p)).2.1, (pG t nf vf 24 5 (nf p)).2.2) else (false, (pG t nf vf 24 5 (nf p)).2.1, [])) else pG t nf vf 24 5 (nf p)) else (false, p, [])
def rp (B : Nat → Nat) (z w p : Nat) : Rs := prt (tk B z) (nx B z) (nv B z) w p
def rd0 (B : Nat → Nat) (z : Nat) : Rs := rp B z 0 0
def rd1 (B : Nat → Nat) (z : Nat) : Rs := rp B z 1 (rd0 B z).2.1
def rd2 (B : Nat → Nat) (z : Nat) : Rs := rp B z 2 (rd1 B z).2.1
def rdO (B : Nat → Nat) (z : Nat) : Bool := (rd0 B z).1 && ((rd1 B z).1 && ((rd2 B z).1 && (tk B z (rd2 B z).2.1 == 0)))
def rdP (B : Nat → Nat) (z : Nat) : Nat := if (rd0 B z).1 = true then (if (rd1 B z).1 = true then (rd2 B z).2.1 else (rd1 B z).2.1) else (rd0 B z).2.1
def rdC (B : Nat → Nat) (z w : Nat) : List Int32 := if w = 0 then (rd0 B z).2.2 else if w = 1 then (rd1 B z).2.2 else (rd2 B z).2.2
section P74
variable {h : xH} {B : Nat → Nat} {t z p d : Nat} {nm : Nat → Int32} {b : List Int32}
theorem rp_p (w : Nat) : Pp z 31 (rp B z w) := by
  intro p hp
  unfold rp prt
  have W := Tk_of B z
  have w1 := W p hp
  by_cases c : tk B z p = 262 + w
  · rw [if_pos c]
    have q := pG_p W 24 5 (by decide) (nx B z p) w1.2.1
    have w3 := w1.2.2.1 (by omega)
    by_cases s : (pG (tk B z) (nx B z) (nv B z) 24 5 (nx B z p)).1 = true
    · rw [if_pos s]
      obtain ⟨q1, q2, q3⟩ := q.2 s
      by_cases c4 : tk B z (pG (tk B z) (nx B z) (nv B z) 24 5 (nx B z p)).2.1 = 59
      · rw [if_pos c4]
        have w' := W _ q.1
        exact ⟨w'.2.1, fun _ => ⟨by have := w'.1; show p < nx B z _; omega, by have := w'.1; show (pG (tk B z) (nx B z) (nv B z) 24 5 (nx B z p)).2.2.length + p ≤ nx B z (pG (tk B z) (nx B z) (nv B z) 24 5 (nx B z p)).2.1; omega, q3⟩⟩
      · rw [if_neg c4]
        exact ⟨q.1, fun x => by cases x⟩
    · rw [if_neg s]
      exact ⟨q.1, fun x => absurd x s⟩
  · rw [if_neg c]
    exact ⟨hp, fun x => by cases x⟩
def dRe (p k : Nat) : Bool := dRd p k && !(decide (p = 20))
theorem dRe_rd {p k : Nat} (h : dRe p k = true) : dRd p k = true := by
  unfold dRe at h
  rw [Bool.and_eq_true] at h
  exact h.1
theorem step_c {i : Nat} (hi' : i < 3) (hl : b.length ≤ p) (C : CS0 B z b p h) (n : Nat) (K : Int32 → xH → Option (Int32 × xH)) : if (rp B z i p).1 = true then (∃ h', f_Re_read_L16 17 (n + 1) (nI i) h K = f_Re_read_L16 17 n (nI (i + 1)) h' K ∧ CS0 B z (b ++ (rp B z i p).2.2) (rp B z i p).2.1 h' ∧ Fr dRe h h' ∧ hI h' 20 i = nI (b ++ (rp B z i p).2.2).length ∧ ∀ j, j ≠ i → hI h' 20 j = hI h 20 j) else ∃ h', f_Re_read_L16 17 (n + 1) (nI i) h K = some (nI (sta B z (rp B z i p).2.1), h') ∧ Shp h' ∧ Fr dRe h h' := by
  have s := C.1.1
  have T := takes_c C (w := 262 + i) (by omega)
  have z160 := C.1.2.2.1
  have e0 : (262 : Int32) + nI i = nI (262 + i) := nI_add _ _
  rw [f_Re_read_L16, if_neg (show ¬ (3 : Int32) ≤ nI i from nI_ge (b := 3) hi' (by decide)), gd_t (by simp only [shp s]), e0]
  have FB : ∀ v, Shp v → hI v 17 2 = nI (sta B z (rp B z i p).2.1) → gd (hK v 17 = 1) (some (hI v 17 2, v)) = some (nI (sta B z (rp B z i p).2.1), v) := by
    intro v sv e
    rw [gd_t (by simp only [shp sv]), e]
  unfold rp prt at FB ⊢
  by_cases c : tk B z p = 262 + i
  · rw [if_pos c] at T FB
    simp only [if_pos c]
    obtain ⟨h1, a1, a2, a3⟩ := T
    have ni := nx_i (B := B) C.2.2.1
    have si := sta_i (B := B) C.2.2.1
    have n3 := ni.2.2 (by omega)
    obtain ⟨h2, b1, b2, b3, b4, b5⟩ := G_Re_c 24 5 (nx B z p) b h1 (by decide) (by decide) (by omega) a2
    have Q := pG_p (Tk_of B z) 24 5 (by decide) (nx B z p) ni.2.1
    have b1 : f_Re_readEither 17 (0 : Int32) h1 = some (b2i (pG (tk B z) (nx B z) (nv B z) 24 5 (nx B z p)).1, h2) := b1
    generalize pG (tk B z) (nx B z) (nv B z) 24 5 (nx B z p) = r at *
    rw [a1, bind_s]
    simp only [jn]
    rw [if_neg (show ¬ (1 : Int32) = 0 by decide), gd_t (by simp only [shp a2.1.1]), b1, bind_s]
    cases s1 : r.1 with
    | false =>
      rw [s1] at FB
      simp only [Bool.false_eq_true, if_false] at FB ⊢
      rw [if_pos (show b2i false = 0 from rfl), s1, if_neg Bool.false_ne_true]
      exact ⟨h2, FB h2 b2 b4, b2, (a3.trans b3).mono (fun p k => dRe_rd)⟩
    | true =>
      rw [s1] at FB
      simp only [if_true] at FB ⊢
      have C2 := b5 s1
      obtain ⟨q1, q2, q3⟩ := Q.2 s1
      have T2 := takes_c C2 (w := 59) (by decide)
      rw [if_neg (show ¬ b2i true = 0 by decide), gd_t (by simp only [shp b2]), show (59 : Int32) = nI 59 from rfl]
      by_cases c4 : tk B z r.2.1 = 59
      · rw [if_pos c4] at T2
        obtain ⟨h3, d1, d2, d3⟩ := T2
        simp only [if_pos c4, if_true]
        have s3 := d2.1.1
        have n51 := C.1.2.1
        have X : Fr dRe h3 (hIu h3 20 i (nI (b ++ r.2.2).length)) := (Fr.refl h3).I rfl
        refine ⟨hIu h3 20 i (nI (b ++ r.2.2).length), ?_, ?_, (((a3.trans b3).trans d3).mono (fun p k => dRe_rd)).trans X, by rw [iI, if_pos ⟨rfl, rfl⟩], fun j hj => ?_⟩
        · rw [d1, bind_s, if_neg (show ¬ (1 : Int32) = 0 by decide), gd_t (by simp only [shp s3]), gd_t (by simp only [shp s3]), nI_clamp (show i < 2 ^ 31 by omega), gd_t (by simp only [shp s3]; exact nin (show i < 3 by omega) (by omega)), show hR h3 17 8 = 20 by simp only [shp s3], d2.2.2.2.1, nI_1]
        · have n3 := d2.1.2.1
          exact ⟨ClB_fr d2.1 s3 X rfl (fun _ => rfl), ⟨by rw [iI, if_neg (by omega)]; exact d2.2.1.1, by rw [iI, if_neg (by omega)]; exact d2.2.1.2.1, by rw [iI, if_neg (by omega)]; exact d2.2.1.2.2.1, fun q => by rw [iI, if_neg (by omega)]; exact d2.2.1.2.2.2 q⟩, d2.2.2.1, by rw [iI, if_neg (by omega)]; exact d2.2.2.2.1, fun j hj => by rw [iI, if_neg (by omega)]; exact d2.2.2.2.2 j hj⟩
        · rw [iI, if_neg (fun q => hj q.2), ((a3.trans b3).trans d3).v n51 j (by decide) rfl]
      · rw [if_neg c4] at T2 FB
        rw [T2, bind_s, if_pos rfl]
        simp only [if_neg c4, Bool.false_eq_true, if_false]
        exact ⟨h2, FB h2 b2 b4, b2, (a3.trans b3).mono (fun p k => dRe_rd)⟩
  · rw [if_neg c] at T FB
    simp only [if_neg c, Bool.false_eq_true, if_false]
    rw [T, bind_s]
    simp only [jn]
    rw [if_pos trivial]
    exact ⟨h, FB h s C.2.1.1, s, Fr.refl h⟩
theorem read_c (C : ClB B z h) : ∃ h', f_Re_read 17 h = some (if rdO B z = true then -1 else nI (sta B z (rdP B z)), h') ∧ Shp h' ∧ Fr dRe h h' ∧ (rdO B z = true → (rdC B z 0 ++ rdC B z 1 ++ rdC B z 2).length ≤ 160 ∧ hI h' 17 7 = nI (rdC B z 0 ++ rdC B z 1 ++ rdC B z 2).length ∧ (∀ i, i < (rdC B z 0 ++ rdC B z 1 ++ rdC B z 2).length → hI h' 19 i = (rdC B z 0 ++ rdC B z 1 ++ rdC B z 2).getD i 0) ∧ hI h' 20 0 = nI (rdC B z 0).length ∧ hI h' 20 1 = nI (rdC B z 0 ++ rdC B z 1).length ∧ hI h' 20 2 = nI (rdC B z 0 ++ rdC B z 1 ++ rdC B z 2).length) := by
  have s := C.1
  have n51 := C.2.1
  have X0 : Fr dRe h (hIu (hIu h 17 3 (0 : Int32)) 17 7 (0 : Int32)) := ((Fr.refl h).I rfl).I rfl
  obtain ⟨h1, a1, a2, a3, a4⟩ := advance_e (B := B) (z := z) (p := 0) (h := hIu (hIu h 17 3 (0 : Int32)) 17 7 (0 : Int32)) (ClB_fr C s X0 rfl (fun _ => rfl)) (by rw [iI, if_neg (by omega), iI, if_pos ⟨rfl, rfl⟩]; rfl) (Nat.zero_le _)
  have X1 : Fr dRe h h1 := X0.trans (a3.mono (fun p k q => dRd_lx (dRe_rd q)))
  have C1 : CS0 B z [] 0 h1 := ⟨ClB_fr C a2 X1 rfl (fun _ => rfl), a4, Nat.zero_le _, (a3.v n51 7 (by decide) rfl).trans (by rw [iI, if_pos ⟨rfl, rfl⟩]; rfl), fun i hi => absurd hi (Nat.not_lt_zero _)⟩
  unfold f_Re_read
  rw [gd_t (by simp only [shp s]), a1, bind_s]
  generalize eK : (fun v32 h33 => _ : Int32 → xH → Option (Int32 × xH)) = K
  have S0 := step_c (i := 0) (by decide) (Nat.zero_le _) C1 1999 K
  have P0 := rp_p (B := B) (z := z) 0 0 (Nat.zero_le _)
  show ∃ h', f_Re_read_L16 17 (1999 + 1) (nI 0) h1 K = _ ∧ _
  by_cases c0 : (rd0 B z).1 = true
  · rw [if_pos (show (rp B z 0 0).1 = true from c0)] at S0
    obtain ⟨h2, b1, b2, b3, b4, b5⟩ := S0
    obtain ⟨p1, p2, p3⟩ := P0.2 c0
    have S1 := step_c (i := 1) (by decide) (show ([] ++ (rp B z 0 0).2.2).length ≤ (rp B z 0 0).2.1 by rw [List.nil_append]; omega) b2 1998 K
    have P1 := rp_p (B := B) (z := z) 1 (rd0 B z).2.1 P0.1
    by_cases c1 : (rd1 B z).1 = true
    · rw [if_pos (show (rp B z 1 (rp B z 0 0).2.1).1 = true from c1)] at S1
      obtain ⟨h3, d1, d2, d3, d4, d5⟩ := S1
      obtain ⟨q1, q2, q3⟩ := P1.2 c1
      have S2 := step_c (i := 2) (by decide) (show ([] ++ (rd0 B z).2.2 ++ (rd1 B z).2.2).length ≤ (rd1 B z).2.1 by rw [List.nil_append, List.length_append]; have : (rd0 B z).2.2.length + 0 ≤ (rd0 B z).2.1 := p2; have : (rd1 B z).2.2.length + (rd0 B z).2.1 ≤ (rd1 B z).2.1 := q2; omega) d2 1997 K
      have P2 := rp_p (B := B) (z := z) 2 (rd1 B z).2.1 P1.1
      by_cases c2 : (rd2 B z).1 = true
      · rw [if_pos (show (rp B z 2 (rp B z 1 (rp B z 0 0).2.1).2.1).1 = true from c2)] at S2
        obtain ⟨h4, e1, e2, e3, e4, e5⟩ := S2
        obtain ⟨r1, r2, r3⟩ := P2.2 c2
        have n4 := e2.1.2.1
        refine ⟨h4, ?_, e2.1.1, ((X1.trans b3).trans d3).trans e3, fun _ => ?_⟩
        · rw [b1, d1, e1]
          show f_Re_read_L16 17 (1996 + 1) (nI 3) h4 K = _
          rw [f_Re_read_L16, if_pos (show (3 : Int32) ≤ nI 3 by decide), ← eK]
          show gd (hK h4 17 = 1) _ = _
          rw [gd_t (by simp only [shp e2.1.1])]
          have tl := tk_lt (p := (rd2 B z).2.1) (fun i hi => (e2.1.2.2.2.2 i hi).2)
          have e4' : hI h4 17 4 = nI (tk B z (rd2 B z).2.1) := e2.2.1.2.2.1
          have e2' : hI h4 17 2 = nI (sta B z (rd2 B z).2.1) := e2.2.1.1
          simp only [jn]
          rw [e4', e2']
          unfold rdO rdP
          rw [c0, c1, c2]
          simp only [Bool.true_and, if_true]
          by_cases q : tk B z (rd2 B z).2.1 = 0
          · rw [if_pos (show nI (tk B z (rd2 B z).2.1) = 0 by rw [q]; rfl), if_pos (show (tk B z (rd2 B z).2.1 == 0) = true by rw [q]; rfl)]
          · rw [if_neg (nI_ne0 (by omega) (by omega)), if_neg (show ¬ (tk B z (rd2 B z).2.1 == 0) = true by rw [beq_eq_false_iff_ne.mpr q]; decide)]
        · have z160 := C.2.2.1
          have l0 : (rd0 B z).2.2.length + 0 ≤ (rd0 B z).2.1 := p2
          have l1 : (rd1 B z).2.2.length + (rd0 B z).2.1 ≤ (rd1 B z).2.1 := q2
          have l2 : (rd2 B z).2.2.length + (rd1 B z).2.1 ≤ (rd2 B z).2.1 := r2
          have lz : (rd2 B z).2.1 ≤ z := P2.1
          show ((rd0 B z).2.2 ++ (rd1 B z).2.2 ++ (rd2 B z).2.2).length ≤ 160 ∧ _
          refine ⟨by rw [List.length_append, List.length_append]; omega, e2.2.2.2.1, e2.2.2.2.2, ?_, ?_, e4⟩
          · exact (e5 0 (by decide)).trans ((d5 0 (by decide)).trans b4)
          · exact (e5 1 (by decide)).trans d4
      · rw [if_neg (show ¬ (rp B z 2 (rp B z 1 (rp B z 0 0).2.1).2.1).1 = true from c2)] at S2
        obtain ⟨h4, e1, e2, e3⟩ := S2
        have c2f : (rd2 B z).1 = false := by simpa using c2
        refine ⟨h4, ?_, e2, ((X1.trans b3).trans d3).trans e3, fun q => by unfold rdO at q; rw [c2f, c0, c1] at q; cases q⟩
        rw [b1, d1, e1]
        unfold rdO rdP
        rw [c0, c1, c2f, if_pos rfl, if_pos rfl, if_neg (show ¬ (true && (true && (false && (tk B z (rd2 B z).2.1 == 0)))) = true by simp)]
        rfl
    · rw [if_neg (show ¬ (rp B z 1 (rp B z 0 0).2.1).1 = true from c1)] at S1
      obtain ⟨h3, d1, d2, d3⟩ := S1
      have c1f : (rd1 B z).1 = false := by simpa using c1
      refine ⟨h3, ?_, d2, (X1.trans b3).trans d3, fun q => by unfold rdO at q; rw [c1f, c0] at q; cases q⟩
      rw [b1, d1]
      unfold rdO rdP
      rw [c0, c1f, if_pos rfl, if_neg Bool.false_ne_true, if_neg (show ¬ (true && (false && ((rd2 B z).1 && tk B z (rd2 B z).2.1 == 0))) = true by simp)]
      rfl
  · rw [if_neg (show ¬ (rp B z 0 0).1 = true from c0)] at S0
    obtain ⟨h2, b1, b2, b3⟩ := S0
    have c0f : (rd0 B z).1 = false := by simpa using c0
    refine ⟨h2, ?_, b2, X1.trans b3, fun q => by unfold rdO at q; rw [c0f] at q; cases q⟩
    rw [b1]
    unfold rdO rdP
    rw [c0f, if_neg Bool.false_ne_true, if_neg (show ¬ (false && ((rd1 B z).1 && ((rd2 B z).1 && tk B z (rd2 B z).2.1 == 0))) = true by simp)]
    rfl
end P74

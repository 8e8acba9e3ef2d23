def dMq (m p k : Nat) : Bool := !((decide (p = 36) && (decide (k = 3) || (decide (k = 6) || (decide (19 ≤ k) && decide (k ≤ 27))))) || ((decide (p = 37) && decide (160 * m ≤ k)) || (decide (p = 38) && decide (k = m))))
theorem dMq_tx {m p k : Nat} (h : dTx m p k = true) : dMq m p k = true := by
  simp [dTx] at h
  simp [dMq]
  omega
theorem dMq_par {m p k : Nat} (h : dMq m p k = true) : dPar p k = true := by
  cases e : dPar p k with
  | true => rfl
  | false =>
    have e2 : p = 36 ∧ 19 ≤ k ∧ k ≤ 27 := by
      unfold dPar at e
      simp at e
      refine ⟨e.1, ?_, ?_⟩
      · exact Nat.le_of_ble_eq_true (by simpa using e.2.1)
      · exact Nat.le_of_ble_eq_true (by simpa using e.2.2)
    obtain ⟨rfl, q1, q2⟩ := e2
    simp [dMq] at h
    omega
section P78
variable {h : xH} {B : Nat → Nat} {z m : Nat}
theorem mtext_e (s : Shp h) (n : 51 ≤ hN h) (m6 : m < 6) (z160 : z ≤ 160) (e3 : hI h 36 3 = nI m) (e6 : hI h 36 6 = nI z) (eb : ∀ i, i < z → hI h 39 i = nI (B i) ∧ B i < 256) : ∃ h', f_Mo_text 36 h = some (if rdO B z = true then nI m else (-100 : Int32) - nI (sta B z (rdP B z)), h') ∧ Shp h' ∧ Fr (dMq m) h h' ∧ hI h' 36 6 = 0 ∧ hI h' 38 m = nI z ∧ (∀ i, i < z → hI h' 37 (160 * m + i) = nI (B i) ∧ B i < 256) ∧ hI h' 36 3 = nI (if rdO B z = true then m + 1 else m) := by
  unfold f_Mo_text
  rw [gd_t (by simp only [shp s]), e3, if_neg (show ¬ nI m = (6 : Int32) from fun q => by have := (nI_eq (b := 6) (by omega) (by decide)).mp q; omega)]
  generalize eK : (fun v18 h19 => _ : Int32 → xH → Option (Int32 × xH)) = K
  obtain ⟨h1, a1, a2, a3, a4⟩ := text_L (K := K) s n m6 z160 e3 e6
  rw [a1, ← eK]
  clear eK a1
  have n1 := Nat.le_trans n a3.1
  have f3 := (a3.v n 3 (p := 36) (by decide) rfl).trans e3
  have f6 := (a3.v n 6 (p := 36) (by decide) rfl).trans e6
  have X1 : Fr (dMq m) h h1 := a3.mono (fun p k hh => by
    simp [dMq] at hh
    simp
    omega)
  have X2 : Fr (dMq m) h (hIu (hIu h1 38 m (nI z)) 36 6 (0 : Int32)) := (X1.I (by simp [dMq])).I (by simp [dMq])
  show ∃ h', gd (hK h1 36 = 11) _ = _ ∧ _
  rw [gd_t (by simp only [shp a2]), gd_t (by simp only [shp a2]), f3, nI_clamp (show m < 2 ^ 31 by omega), gd_t (by simp only [shp a2]; exact nin (show m < 6 by omega) (by omega)), f6, show hR h1 36 2 = 38 by simp only [shp a2]]
  have g3 : hI (hIu (hIu h1 38 m (nI z)) 36 6 (0 : Int32)) 36 3 = nI m := by rw [iI, if_neg (by omega), iI, if_neg (by omega)]; exact f3
  have g6 : hI (hIu (hIu h1 38 m (nI z)) 36 6 (0 : Int32)) 36 6 = 0 := by rw [iI, if_pos ⟨rfl, rfl⟩]
  have g38 : hI (hIu (hIu h1 38 m (nI z)) 36 6 (0 : Int32)) 38 m = nI z := by rw [iI, if_neg (by omega), iI, if_pos ⟨rfl, rfl⟩]
  have g37 : ∀ i, i < z → hI (hIu (hIu h1 38 m (nI z)) 36 6 (0 : Int32)) 37 (160 * m + i) = nI (B i) ∧ B i < 256 := fun i hi' => ⟨by rw [iI, if_neg (by omega), iI, if_neg (by omega), a4 i hi']; exact (eb i hi').1, (eb i hi').2⟩
  have s2 : Shp (hIu (hIu h1 38 m (nI z)) 36 6 (0 : Int32)) := a2
  have n2 := Nat.le_trans n X2.1
  rw [g3]
  generalize hIu (hIu h1 38 m (nI z)) 36 6 (0 : Int32) = h2 at *
  obtain ⟨v, h3, b1, b2, -, b4, b5⟩ := read_m (B := B) (w := 0) s2 (Nat.zero_le _) z160 m6 (by decide) g38 g37
  have b4 := b4.fr
  have x3 : Fr (dMq m) h2 h3 := b4.mono (fun p k => dMq_par)
  have q3 := (b4.v n2 3 (p := 36) (by decide) rfl).trans g3
  have q6 := (b4.v n2 6 (p := 36) (by decide) rfl).trans g6
  have q38 := (b4.v n2 m (p := 38) (by decide) rfl).trans g38
  have q37 : ∀ i, i < z → hI h3 37 (160 * m + i) = nI (B i) ∧ B i < 256 := fun i hi' => ⟨(b4.v n2 _ (p := 37) (by decide) rfl).trans (g37 i hi').1, (g37 i hi').2⟩
  have b1 : f_Mo_read 36 (nI m) (0 : Int32) h2 = some (v, h3) := b1
  rw [b1, bind_s, gd_t (by simp only [shp b2])]
  rcases b5 with ⟨o, o1, -⟩ | ⟨o, o1, o2⟩
  · rw [if_pos o1, o, q3, nI_1]
    refine ⟨hIu h3 36 3 (nI (m + 1)), ?_, b2, (X2.trans x3).I (by simp [dMq]), by rw [iI, if_neg (by omega)]; exact q6, by rw [iI, if_neg (by omega)]; exact q38, fun i hi' => by rw [iI, if_neg (by omega)]; exact q37 i hi', by rw [iI, if_pos ⟨rfl, rfl⟩, if_pos rfl]⟩
    rw [iI, if_pos ⟨rfl, rfl⟩, if_pos rfl, show (1 : Int32) = nI 1 from rfl, li_sub (by omega), Nat.add_sub_cancel]
  · rw [if_neg (by rw [o1]; decide), o, o2]
    exact ⟨h3, by rw [if_neg Bool.false_ne_true], b2, X2.trans x3, q6, q38, q37, by rw [if_neg Bool.false_ne_true]; exact q3⟩
theorem jt_keep {n : Nat} {T : Nat → Nat → (Nat → Int32) → Int32} {h' : xH} (n51 : 51 ≤ hN h) (x : Fr (dTx m) h h') (nm : n ≤ m) (n6 : n ≤ 6) (j : ∀ t, t < n → Tcl t (T t) h ∧ Tmo t (T t) h) : ∀ t, t < n → Tcl t (T t) h' ∧ Tmo t (T t) h' := fun t ht => ⟨J_tcl n51 x (by simp [dTx]; omega) (fun p k h1 h2 => by simp [dTx]; omega) (fun p k h1 => by simp [dTx]; omega) (j t ht).1, J_tmo n51 x (by simp [dTx]; omega) (fun i hi' => by simp [dTx]; omega) (j t ht).2⟩
end P78
theorem Y_text : Sp_text Inv := by
  intro h I
  obtain ⟨g, f, t, n, r, T, j⟩ := I
  have j0 := j
  obtain ⟨sh, hn, z, ⟨⟨g1, g7, hf, ht, hd⟩, e1, e2, e3, m1, m2, m3⟩, jk, jw, jp, js, jst, jx, jr⟩ := j0
  have f24 := lt24 g7 hf
  have t24 := lt24 g7 ht
  have f31 := lt3 f24
  have t31 := lt3 t24
  have s36 : hK h 36 = 11 := by simp only [shp sh]
  have jx' := jx
  obtain ⟨jx1, jx2, jx3, jx4, jx5, jx6⟩ := jx'
  by_cases c6 : n = 6
  · subst c6
    refine ⟨-4, h, h, ?_, s36, ?_, ⟨g, f, t, 6, r, T, j⟩⟩
    · unfold f_Ma_text
      rw [gd_t (by simp only [shp sh]), jx3, if_neg (show ¬ nI 6 < (6 : Int32) by decide)]
    · show f_Mo_text 36 h = _
      unfold f_Mo_text
      rw [gd_t (by simp only [shp sh]), jx4, if_pos (show nI 6 = (6 : Int32) from rfl)]
  · have m6 : n < 6 := by omega
    obtain ⟨z, z160, p1, p2, p3⟩ := jp
    have eB : ∀ i, i < z → hI h 39 i = nI ((fun i => (hI h 39 i).toNatClampNeg) i) ∧ (fun i => (hI h 39 i).toNatClampNeg) i < 256 := fun i hi' => by
      obtain ⟨-, b, hb, e⟩ := p3 i hi'
      have e2 : (hI h 39 i).toNatClampNeg = b := by rw [e, nI_clamp (by omega)]
      show hI h 39 i = nI (hI h 39 i).toNatClampNeg ∧ (hI h 39 i).toNatClampNeg < 256
      rw [e2]
      exact ⟨e, hb⟩
    have CB : ClB (fun i => (hI h 39 i).toNatClampNeg) z h := ⟨sh, hn, z160, p1, fun i hi' => ⟨(p3 i hi').1.trans (eB i hi').1, (eB i hi').2⟩⟩
    generalize (fun i => (hI h 39 i).toNatClampNeg) = B at *
    obtain ⟨h1, a1, a2, a3, a4⟩ := read_c CB
    have n1 := Nat.le_trans hn a3.1
    have X2 : Fr (dTx n) h (hIu h1 17 1 (0 : Int32)) := (a3.mono (fun p k hh => by
      simp [dTx] at hh
      simp [dRe, dRd]
      omega)).I (by simp [dTx])
    have E0 : f_Re_empty 17 h1 = some ((), hIu h1 17 1 (0 : Int32)) := by
      unfold f_Re_empty
      rw [gd_t (by simp only [shp a2])]
    have s2 : Shp (hIu h1 17 1 (0 : Int32)) := a2
    have n2 := Nat.le_trans hn X2.1
    have y17 : hI (hIu h1 17 1 (0 : Int32)) 17 1 = 0 := by rw [iI, if_pos ⟨rfl, rfl⟩]
    have y7 : hI (hIu h1 17 1 (0 : Int32)) 17 7 = hI h1 17 7 := by rw [iI, if_neg (by omega)]
    have y19 : ∀ i, hI (hIu h1 17 1 (0 : Int32)) 19 i = hI h1 19 i := fun i => by rw [iI, if_neg (by omega)]
    have y20 : ∀ i, hI (hIu h1 17 1 (0 : Int32)) 20 i = hI h1 20 i := fun i => by rw [iI, if_neg (by omega)]
    have yE : ∀ p k, p ≠ 17 → p ≠ 19 → p ≠ 20 → p < 51 → hI (hIu h1 17 1 (0 : Int32)) p k = hI h p k := fun p k u1 u2 u3 u4 => by
      rw [iI, if_neg (by omega)]
      exact a3.v hn k u4 (by simp [dRe, dRd]; omega)
    have A : f_Ma_text 1 h = (if 0 ≤ (if rdO B z = true then (-1 : Int32) else nI (sta B z (rdP B z))) then some ((-100 : Int32) - (if rdO B z = true then (-1 : Int32) else nI (sta B z (rdP B z))), hIu h1 17 1 (0 : Int32)) else Option.bind (f_Ma_keepText 1 (hIu h1 17 1 (0 : Int32))) (fun q19 => some (q19.1, q19.2))) := by
      unfold f_Ma_text
      rw [gd_t (by simp only [shp sh]), jx3, if_pos (show nI n < (6 : Int32) from nI_lt (b := 6) m6 (by decide)), gd_t (by simp only [shp sh]), show hR h 1 6 = 17 by simp only [shp sh], a1, bind_s, gd_t (by simp only [shp a2]), gd_t (by simp only [shp a2]), show hR h1 1 6 = 17 by simp only [shp a2], E0, bind_s]
      simp only [jn]
      rw [gd_t (by simp only [kI, shp a2])]
    generalize hIu h1 17 1 (0 : Int32) = h2 at *
    cases o : rdO B z with
    | false =>
      rw [o, if_neg Bool.false_ne_true] at A
      have sz : sta B z (rdP B z) < 2 ^ 31 := by
        have P0 := rp_p (B := B) (z := z) 0 0 (Nat.zero_le _)
        have P1 := rp_p (B := B) (z := z) 1 (rd0 B z).2.1 P0.1
        have P2 := rp_p (B := B) (z := z) 2 (rd1 B z).2.1 P1.1
        have rz : rdP B z ≤ z := by
          unfold rdP
          split
          · split
            · exact P2.1
            · exact P1.1
          · exact P0.1
        have := (sta_i (B := B) rz).2
        omega
      obtain ⟨h3, b1, b2, b3, b4, b5, b6, b7⟩ := mtext_e (B := B) (m := n) s2 n2 m6 z160 ((yE 36 3 (by decide) (by decide) (by decide) (by decide)).trans jx4) ((yE 36 6 (by decide) (by decide) (by decide) (by decide)).trans p2) (fun i hi' => ⟨(yE 39 i (by decide) (by decide) (by decide) (by decide)).trans (eB i hi').1, (eB i hi').2⟩)
      rw [o, if_neg Bool.false_ne_true] at b1 b7
      have X3 : Fr (dTx n) h h3 := X2.trans (b3.mono (fun p k => dMq_tx))
      refine ⟨(-100 : Int32) - nI (sta B z (rdP B z)), h2, h3, ?_, by simp only [shp s2], b1, ⟨g, f, t, n, r, T, J_tx j b2 X3 (Nat.le_refl _) (Nat.le_refl _) (fun _ _ => rfl) ((b3.v n2 1 (p := 17) (by decide) rfl).trans y17) b4 ⟨jx1, jx2, (b3.v n2 11 (p := 1) (by decide) rfl).trans ((yE 1 11 (by decide) (by decide) (by decide) (by decide)).trans jx3), b7, jx5, jt_keep hn X3 (Nat.le_refl _) jx2 jx6⟩⟩⟩
      rw [A, if_pos (show (0 : Int32) ≤ nI (sta B z (rdP B z)) from nI_le (a := 0) (Nat.zero_le _) sz)]
    | true =>
      rw [o, if_pos rfl, if_neg (show ¬ (0 : Int32) ≤ -1 by decide)] at A
      obtain ⟨l160, r7, r19, r20, r21, r22⟩ := a4 o
      obtain ⟨h3, w1, w2, w3, w4, w5, w6, w7, w8, w9, w10, w11, w12⟩ := written_e s2 n2 (y7.trans r7) l160
      have s3 := Shp_fr s2 n2 w2
      have n3 := Nat.le_trans n2 w2.1
      have e11 : hI h2 1 11 = nI n := (yE 1 11 (by decide) (by decide) (by decide) (by decide)).trans jx3
      have e11' : hI h3 1 11 = nI n := (w2.v n2 11 (p := 1) (by decide) rfl).trans e11
      have KT : f_Ma_keepText 1 h2 = some (nI n, hIu (hRu h3 21 n (hN h2)) 1 11 (nI (n + 1))) := by
        unfold f_Ma_keepText
        rw [gd_t (by simp only [shp s2]), e11, if_pos (show nI n < (6 : Int32) from nI_lt (b := 6) m6 (by decide)), gd_t (by simp only [shp s2]), show hR h2 1 6 = 17 by simp only [shp s2], w1, bind_s, show hR h2 1 7 = 21 by simp only [shp s2], gd_t (by simp only [shp s3]), gd_t w4, nI_clamp (show n < 2 ^ 31 by omega), gd_t (by simp only [shp s3]; exact nin (show n < 6 by omega) (by omega)), gd_t (by simp only [shp s3]), e11', nI_1]
      rw [KT, bind_s] at A
      have Nn : 51 ≤ hN h2 := n2
      have s4 : Shp (hIu (hRu h3 21 n (hN h2)) 1 11 (nI (n + 1))) := by
        have x : ∀ k, hR (hRu h3 21 n (hN h2)) k = hR (hRu h3 21 n (hN h2)) k := fun _ => rfl
        have s5 := s3
        unfold Shp at s5 ⊢
        simp only [kI, lI, rI, kR, lR, rR]
        simpa using s5
      have X4 : Fr (dTx n) h2 (hIu (hRu h3 21 n (hN h2)) 1 11 (nI (n + 1))) := ((w2.mono (fun _ _ _ => rfl)).R (by simp [dTx])).I (by simp [dTx])
      have u : ∀ p k, ¬ (p = 1 ∧ k = 11) → hI (hIu (hRu h3 21 n (hN h2)) 1 11 (nI (n + 1))) p k = hI h3 p k := fun p k q => by rw [iI, if_neg q]; rfl
      have u1 : hI (hIu (hRu h3 21 n (hN h2)) 1 11 (nI (n + 1))) 1 11 = nI (n + 1) := by rw [iI, if_pos ⟨rfl, rfl⟩]
      have u21 : hR (hIu (hRu h3 21 n (hN h2)) 1 11 (nI (n + 1))) 21 n = hN h2 := by rw [rI, rR, if_pos ⟨rfl, rfl⟩]
      have uR : ∀ p k, p ≠ 21 → hR (hIu (hRu h3 21 n (hN h2)) 1 11 (nI (n + 1))) p k = hR h3 p k := fun p k q => by rw [rI, rR, if_neg (fun w => q w.1)]
      have uK : ∀ p, hK (hIu (hRu h3 21 n (hN h2)) 1 11 (nI (n + 1))) p = hK h3 p := fun _ => rfl
      have uL : ∀ p, hL (hIu (hRu h3 21 n (hN h2)) 1 11 (nI (n + 1))) p = hL h3 p := fun _ => rfl
      have uN : hN (hIu (hRu h3 21 n (hN h2)) 1 11 (nI (n + 1))) = hN h3 := rfl
      generalize hIu (hRu h3 21 n (hN h2)) 1 11 (nI (n + 1)) = h4 at *
      have n4 := Nat.le_trans n2 X4.1
      have v36 : ∀ k, hI h4 36 k = hI h 36 k := fun k => (u 36 k (by omega)).trans ((w2.v n2 k (p := 36) (by decide) rfl).trans (yE 36 k (by decide) (by decide) (by decide) (by decide)))
      have v39 : ∀ k, hI h4 39 k = hI h 39 k := fun k => (u 39 k (by omega)).trans ((w2.v n2 k (p := 39) (by decide) rfl).trans (yE 39 k (by decide) (by decide) (by decide) (by decide)))
      have v17 : hI h4 17 1 = 0 := (u 17 1 (by omega)).trans ((w2.v n2 1 (p := 17) (by decide) rfl).trans y17)
      obtain ⟨h5, b1, b2, b3, b4, b5, b6, b7⟩ := mtext_e (B := B) (m := n) s4 n4 m6 z160 ((v36 3).trans jx4) ((v36 6).trans p2) (fun i hi' => ⟨(v39 i).trans (eB i hi').1, (eB i hi').2⟩)
      rw [o, if_pos rfl] at b1 b7
      have X5 : Fr (dTx n) h h5 := (X2.trans X4).trans (b3.mono (fun p k => dMq_tx))
      have O : ∀ p, 51 ≤ p → p < hN h4 → hK h5 p = hK h4 p ∧ hL h5 p = hL h4 p ∧ ∀ k, hI h5 p k = hI h4 p k ∧ hR h5 p k = hR h4 p k := fun p q1 q2 => ⟨(b3.2 p q2).1, (b3.2 p q2).2.1, fun k => (b3.2 p q2).2.2 k (by simp [dMq]; omega)⟩
      obtain ⟨ok0, ol0, oi0⟩ := O (hN h2) n2 (by omega)
      obtain ⟨ok1, ol1, oi1⟩ := O (hN h2 + 1) (by omega) (by omega)
      obtain ⟨ok2, ol2, oi2⟩ := O (hN h2 + 2) (by omega) (by omega)
      have N5 : hN h2 + 3 ≤ hN h5 := by have := b3.1; omega
      refine ⟨nI n, h4, h5, A, by simp only [shp s4], b1, ⟨g, f, t, n + 1, r, fun t => if t = n then Tn B z else T t, J_tx j b2 X5 (Nat.le_succ _) (Nat.le_refl _) (fun t ht => if_neg (by omega)) ((b3.v n4 1 (p := 17) (by decide) rfl).trans v17) b4 ⟨by omega, by omega, (b3.v n4 11 (p := 1) (by decide) rfl).trans u1, b7, ?_, ?_⟩⟩⟩
      · intro t w nm nm2 e
        simp only
        by_cases q : t = n
        · rw [if_pos q]
          unfold Tn
          rw [runs_congr e _ 0 [] (rdC_ok o w 0 (by decide)).1]
        · rw [if_neg q]
          exact jx5 t w nm nm2 e
      · intro t ht
        simp only
        by_cases q : t = n
        · rw [if_pos q, q]
          refine ⟨Tn_c (x := hN h2) (c := hN h2 + 1) (e := hN h2 + 2) o ((b3.w n4 n (p := 21) (by decide) (by simp [dMq])).trans u21) n2 (by omega) (ok0.trans ((uK _).trans w4)) ((oi0 0).2.trans ((uR _ 0 (by omega)).trans w5)) ((oi0 1).2.trans ((uR _ 1 (by omega)).trans w6)) (by omega) (by omega) (ok1.trans ((uK _).trans w7)) (by omega) (by omega) (ok2.trans ((uK _).trans w8)) (ol2.trans ((uL _).trans w9)) ?_ ?_ ?_ ?_ ?_ ?_, Tn_m o m6 z160 b5 b6⟩
          · rw [ol1, uL]
            exact w10.1
          · rw [ol1, uL]
            exact w10.2
          · exact (oi2 0).1.trans ((u _ _ (by omega)).trans ((w12 0).trans ((y20 0).trans r20)))
          · exact (oi2 1).1.trans ((u _ _ (by omega)).trans ((w12 1).trans ((y20 1).trans r21)))
          · exact (oi2 2).1.trans ((u _ _ (by omega)).trans ((w12 2).trans ((y20 2).trans r22)))
          · intro i hi'
            exact (oi1 i).1.trans ((u _ _ (by omega)).trans ((w11 i hi').trans ((y19 i).trans (r19 i hi'))))
        · rw [if_neg q]
          exact jt_keep hn X5 (Nat.le_refl _) jx2 jx6 t (by omega)

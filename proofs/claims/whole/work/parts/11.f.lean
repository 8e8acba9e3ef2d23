theorem dc_Re_init_0 : decode M_Re_init.2.1 0 = .ok (.aload_n 0, 1) := by decide +kernel
theorem dc_Re_init_1 : decode M_Re_init.2.1 1 = .ok (.invokespecial 5, 3) := by decide +kernel
theorem dc_Re_init_4 : decode M_Re_init.2.1 4 = .ok (.aload_n 0, 1) := by decide +kernel
theorem dc_Re_init_5 : decode M_Re_init.2.1 5 = .ok (.sipush 160, 3) := by decide +kernel
theorem dc_Re_init_8 : decode M_Re_init.2.1 8 = .ok (.newarray .int, 2) := by decide +kernel
theorem dc_Re_init_10 : decode M_Re_init.2.1 10 = .ok (.putfield 11, 3) := by decide +kernel
theorem dc_Re_init_13 : decode M_Re_init.2.1 13 = .ok (.aload_n 0, 1) := by decide +kernel
theorem dc_Re_init_14 : decode M_Re_init.2.1 14 = .ok (.sipush 160, 3) := by decide +kernel
theorem dc_Re_init_17 : decode M_Re_init.2.1 17 = .ok (.newarray .int, 2) := by decide +kernel
theorem dc_Re_init_19 : decode M_Re_init.2.1 19 = .ok (.putfield 15, 3) := by decide +kernel
theorem dc_Re_init_22 : decode M_Re_init.2.1 22 = .ok (.aload_n 0, 1) := by decide +kernel
theorem dc_Re_init_23 : decode M_Re_init.2.1 23 = .ok (.iconst 3, 1) := by decide +kernel
theorem dc_Re_init_24 : decode M_Re_init.2.1 24 = .ok (.newarray .int, 2) := by decide +kernel
theorem dc_Re_init_26 : decode M_Re_init.2.1 26 = .ok (.putfield 20, 3) := by decide +kernel
theorem dc_Re_init_29 : decode M_Re_init.2.1 29 = .ok (.return_, 1) := by decide +kernel
def f_Re_init (a0 : Nat) (h : xH) : Option (Unit × xH) := gd (hK h a0 = 1) (hp (hNw h 12 160) (fun h6 => gd (hK h6 a0 = 1) (hp (hNw (hRu h6 a0 0 (hN h)) 12 160) (fun h9 => gd (hK h9 a0 = 1) (hp (hNw (hRu h9 a0 6 (hN (hRu h6 a0 0 (hN h)))) 12 3) (fun h12 => gd (hK h12 a0 = 1) (some ((), hRu h12 a0 8 (hN (hRu h9 a0 6 (hN (hRu h6 a0 0 (hN h)))))))))))))
theorem t_Re_init {l : Launch} {z : xZ} {d mc ms : Nat} {Ph : Option xV → xH → Prop} {a0 : Nat}  {h : xH} (hd : 2 ≤ d) (hmc : 3 ≤ mc) (hms : 323 ≤ ms) (hk : OK (f_Re_init a0 h) (fun q => Ph (none) q.2)) : Sx l z d mc ms M_Re_init 0 (x_en [xR a0] 1) [] h Ph := by
  unfold f_Re_init at hk
  refine sx_eq (lc2 := [some (xR a0)]) rfl rfl ?_
  refine sx_aload_n dc_Re_init_0 rfl ?_
  obtain ⟨g5, hk⟩ := hk.g
  refine sx_objInit g5 (by decide) wM_Re_5 wO wP (Nat.le_of_ble_eq_true rfl) (by omega) dc_Re_init_1 ?_
  refine sx_aload_n dc_Re_init_4 rfl ?_
  refine sx_sipush (v := (160 : Int32)) dc_Re_init_5 (by decide) ?_
  refine sx_newI (N := 160) (by decide) (by decide) (by decide) wA_int dc_Re_init_8 (by omega) (by omega) ?_
  obtain ⟨h6, eh6, hk⟩ := hk.h
  refine sx_hp eh6 ?_
  have g7 : hK h6 (hN h) = 12 := by rw [eh6]; exact (show hK (hNw h 12 160) (hN h) = 12 from if_pos rfl)
  obtain ⟨g8, hk⟩ := hk.g
  refine sx_putRF (ci := 1) (k := 0) rfl (by decide) wF_Re_11 rfl (by rfl) rfl g8 rfl dc_Re_init_10 ?_
  refine sx_aload_n dc_Re_init_13 rfl ?_
  refine sx_sipush (v := (160 : Int32)) dc_Re_init_14 (by decide) ?_
  refine sx_newI (N := 160) (by decide) (by decide) (by decide) wA_int dc_Re_init_17 (by omega) (by omega) ?_
  obtain ⟨h9, eh9, hk⟩ := hk.h
  refine sx_hp eh9 ?_
  have g10 : hK h9 (hN (hRu h6 a0 0 (hN h))) = 12 := by rw [eh9]; exact (show hK (hNw (hRu h6 a0 0 (hN h)) 12 160) (hN (hRu h6 a0 0 (hN h))) = 12 from if_pos rfl)
  obtain ⟨g11, hk⟩ := hk.g
  refine sx_putRF (ci := 1) (k := 6) rfl (by decide) wF_Re_15 rfl (by rfl) rfl g11 rfl dc_Re_init_19 ?_
  refine sx_aload_n dc_Re_init_22 rfl ?_
  refine sx_iconst (v := (3 : Int32)) dc_Re_init_23 (by decide) ?_
  refine sx_newI (N := 3) (by decide) (by decide) (by decide) wA_int dc_Re_init_24 (by omega) (by omega) ?_
  obtain ⟨h12, eh12, hk⟩ := hk.h
  refine sx_hp eh12 ?_
  have g13 : hK h12 (hN (hRu h9 a0 6 (hN (hRu h6 a0 0 (hN h))))) = 12 := by rw [eh12]; exact (show hK (hNw (hRu h9 a0 6 (hN (hRu h6 a0 0 (hN h)))) 12 3) (hN (hRu h9 a0 6 (hN (hRu h6 a0 0 (hN h))))) = 12 from if_pos rfl)
  obtain ⟨g14, hk⟩ := hk.g
  refine sx_putRF (ci := 1) (k := 8) rfl (by decide) wF_Re_20 rfl (by rfl) rfl g14 rfl dc_Re_init_26 ?_
  exact sx_retV dc_Re_init_29 rfl hk.val
theorem dc_Re_size_0 : decode M_Re_size.2.1 0 = .ok (.aload_n 0, 1) := by decide +kernel
theorem dc_Re_size_1 : decode M_Re_size.2.1 1 = .ok (.getfield 23, 3) := by decide +kernel
theorem dc_Re_size_4 : decode M_Re_size.2.1 4 = .ok (.ireturn, 1) := by decide +kernel
def f_Re_size (a0 : Nat) (h : xH) : Option (Int32 × xH) := gd (hK h a0 = 1) (some (hI h a0 1, h))
theorem t_Re_size {l : Launch} {z : xZ} {d mc ms : Nat} {Ph : Option xV → xH → Prop} {a0 : Nat}  {h : xH} (hd : 1 ≤ d) (hk : OK (f_Re_size a0 h) (fun q => Ph (some (xI q.1)) q.2)) : Sx l z d mc ms M_Re_size 0 (x_en [xR a0] 1) [] h Ph := by
  unfold f_Re_size at hk
  refine sx_eq (lc2 := [some (xR a0)]) rfl rfl ?_
  refine sx_aload_n dc_Re_size_0 rfl ?_
  obtain ⟨g2, hk⟩ := hk.g
  refine sx_get (ci := 1) (k := 1) rfl (by decide) wF_Re_23 g2 dc_Re_size_1 ?_
  exact sx_retI dc_Re_size_4 rfl hk.val
theorem dc_Re_empty_0 : decode M_Re_empty.2.1 0 = .ok (.aload_n 0, 1) := by decide +kernel
theorem dc_Re_empty_1 : decode M_Re_empty.2.1 1 = .ok (.iconst 0, 1) := by decide +kernel
theorem dc_Re_empty_2 : decode M_Re_empty.2.1 2 = .ok (.putfield 23, 3) := by decide +kernel
theorem dc_Re_empty_5 : decode M_Re_empty.2.1 5 = .ok (.return_, 1) := by decide +kernel
def f_Re_empty (a0 : Nat) (h : xH) : Option (Unit × xH) := gd (hK h a0 = 1) (some ((), hIu h a0 1 (0 : Int32)))
theorem t_Re_empty {l : Launch} {z : xZ} {d mc ms : Nat} {Ph : Option xV → xH → Prop} {a0 : Nat}  {h : xH} (hd : 1 ≤ d) (hk : OK (f_Re_empty a0 h) (fun q => Ph (none) q.2)) : Sx l z d mc ms M_Re_empty 0 (x_en [xR a0] 1) [] h Ph := by
  unfold f_Re_empty at hk
  refine sx_eq (lc2 := [some (xR a0)]) rfl rfl ?_
  refine sx_aload_n dc_Re_empty_0 rfl ?_
  refine sx_iconst (v := (0 : Int32)) dc_Re_empty_1 (by decide) ?_
  obtain ⟨g2, hk⟩ := hk.g
  refine sx_putI (ci := 1) (k := 1) rfl (by decide) wF_Re_23 rfl g2 (Or.inl rfl) dc_Re_empty_2 ?_
  exact sx_retV dc_Re_empty_5 rfl hk.val
theorem dc_Re_put_0 : decode M_Re_put.2.1 0 = .ok (.aload_n 0, 1) := by decide +kernel
theorem dc_Re_put_1 : decode M_Re_put.2.1 1 = .ok (.getfield 23, 3) := by decide +kernel
theorem dc_Re_put_4 : decode M_Re_put.2.1 4 = .ok (.sipush 160, 3) := by decide +kernel
theorem dc_Re_put_7 : decode M_Re_put.2.1 7 = .ok (.if_icmp .lt 5, 3) := by decide +kernel
theorem dc_Re_put_10 : decode M_Re_put.2.1 10 = .ok (.iconst 0, 1) := by decide +kernel
theorem dc_Re_put_11 : decode M_Re_put.2.1 11 = .ok (.ireturn, 1) := by decide +kernel
theorem dc_Re_put_12 : decode M_Re_put.2.1 12 = .ok (.aload_n 0, 1) := by decide +kernel
theorem dc_Re_put_13 : decode M_Re_put.2.1 13 = .ok (.getfield 11, 3) := by decide +kernel
theorem dc_Re_put_16 : decode M_Re_put.2.1 16 = .ok (.aload_n 0, 1) := by decide +kernel
theorem dc_Re_put_17 : decode M_Re_put.2.1 17 = .ok (.dup, 1) := by decide +kernel
theorem dc_Re_put_18 : decode M_Re_put.2.1 18 = .ok (.getfield 23, 3) := by decide +kernel
theorem dc_Re_put_21 : decode M_Re_put.2.1 21 = .ok (.dup_x1, 1) := by decide +kernel
theorem dc_Re_put_22 : decode M_Re_put.2.1 22 = .ok (.iconst 1, 1) := by decide +kernel
theorem dc_Re_put_23 : decode M_Re_put.2.1 23 = .ok (.iadd, 1) := by decide +kernel
theorem dc_Re_put_24 : decode M_Re_put.2.1 24 = .ok (.putfield 23, 3) := by decide +kernel
theorem dc_Re_put_27 : decode M_Re_put.2.1 27 = .ok (.iload_n 1, 1) := by decide +kernel
theorem dc_Re_put_28 : decode M_Re_put.2.1 28 = .ok (.iastore, 1) := by decide +kernel
theorem dc_Re_put_29 : decode M_Re_put.2.1 29 = .ok (.iconst 1, 1) := by decide +kernel
theorem dc_Re_put_30 : decode M_Re_put.2.1 30 = .ok (.ireturn, 1) := by decide +kernel
def f_Re_put (a0 : Nat) (a1 : Int32) (h : xH) : Option (Int32 × xH) := gd (hK h a0 = 1) (if (hI h a0 1) < (160 : Int32) then gd (hK h (hR h a0 0) = 12) (gd (¬ ((hI h a0 1) < 0 ∨ hL h (hR h a0 0) ≤ (hI h a0 1).toNatClampNeg)) (some ((1 : Int32), hIu (hIu h a0 1 ((hI h a0 1) + (1 : Int32))) (hR h a0 0) (hI h a0 1).toNatClampNeg a1))) else some ((0 : Int32), h))
theorem t_Re_put {l : Launch} {z : xZ} {d mc ms : Nat} {Ph : Option xV → xH → Prop} {a0 : Nat} {a1 : Int32}  {h : xH} (hd : 1 ≤ d) (hk : OK (f_Re_put a0 a1 h) (fun q => Ph (some (xI q.1)) q.2)) : Sx l z d mc ms M_Re_put 0 (x_en [xR a0, xI a1] 2) [] h Ph := by
  unfold f_Re_put at hk
  refine sx_eq (lc2 := [some (xR a0), some (xI a1)]) rfl rfl ?_
  refine sx_aload_n dc_Re_put_0 rfl ?_
  obtain ⟨g4, hk⟩ := hk.g
  refine sx_get (ci := 1) (k := 1) rfl (by decide) wF_Re_23 g4 dc_Re_put_1 ?_
  refine sx_sipush (v := (160 : Int32)) dc_Re_put_4 (by decide) ?_
  refine sx_icmp_lt (tgt := 12) dc_Re_put_7 (by decide) (fun c5 => ?_) (fun c5 => ?_)
  · replace hk := hk.t c5
    refine sx_aload_n dc_Re_put_12 rfl ?_
    refine sx_get (ci := 1) (k := 0) rfl (by decide) wF_Re_11 g4 dc_Re_put_13 ?_
    refine sx_aload_n dc_Re_put_16 rfl ?_
    refine sx_dup dc_Re_put_17 rfl ?_
    refine sx_get (ci := 1) (k := 1) rfl (by decide) wF_Re_23 g4 dc_Re_put_18 ?_
    refine sx_dup_x1 dc_Re_put_21 rfl rfl ?_
    refine sx_iconst (v := (1 : Int32)) dc_Re_put_22 (by decide) ?_
    refine sx_iadd dc_Re_put_23 ?_
    refine sx_putI (ci := 1) (k := 1) rfl (by decide) wF_Re_23 rfl g4 (Or.inl rfl) dc_Re_put_24 ?_
    refine sx_iload_n dc_Re_put_27 rfl ?_
    obtain ⟨g6, hk⟩ := hk.g
    obtain ⟨g7, hk⟩ := hk.g
    refine sx_iast g6 g7 dc_Re_put_28 ?_
    refine sx_iconst (v := (1 : Int32)) dc_Re_put_29 (by decide) ?_
    exact sx_retT (v := (1 : Int32)) dc_Re_put_30 (Or.inl ⟨rfl, rfl⟩) (by decide) hk.val
  · replace hk := hk.f c5
    refine sx_iconst (v := (0 : Int32)) dc_Re_put_10 (by decide) ?_
    exact sx_retT (v := (0 : Int32)) dc_Re_put_11 (Or.inl ⟨rfl, rfl⟩) (by decide) hk.val
theorem dc_Ar_copyOf_0 : decode M_Ar_copyOf.2.1 0 = .ok (.iload_n 1, 1) := by decide +kernel
theorem dc_Ar_copyOf_1 : decode M_Ar_copyOf.2.1 1 = .ok (.aload_n 0, 1) := by decide +kernel
theorem dc_Ar_copyOf_2 : decode M_Ar_copyOf.2.1 2 = .ok (.arraylength, 1) := by decide +kernel
theorem dc_Ar_copyOf_3 : decode M_Ar_copyOf.2.1 3 = .ok (.if_icmp .ne 11, 3) := by decide +kernel
theorem dc_Ar_copyOf_6 : decode M_Ar_copyOf.2.1 6 = .ok (.aload_n 0, 1) := by decide +kernel
theorem dc_Ar_copyOf_7 : decode M_Ar_copyOf.2.1 7 = .ok (.invokevirtual 316, 3) := by decide +kernel
theorem dc_Ar_copyOf_10 : decode M_Ar_copyOf.2.1 10 = .ok (.checkcast 317, 3) := by decide +kernel
theorem dc_Ar_copyOf_13 : decode M_Ar_copyOf.2.1 13 = .ok (.areturn, 1) := by decide +kernel
theorem dc_Ar_copyOf_14 : decode M_Ar_copyOf.2.1 14 = .ok (.iload_n 1, 1) := by decide +kernel
theorem dc_Ar_copyOf_15 : decode M_Ar_copyOf.2.1 15 = .ok (.newarray .int, 2) := by decide +kernel
theorem dc_Ar_copyOf_17 : decode M_Ar_copyOf.2.1 17 = .ok (.astore_n 2, 1) := by decide +kernel
theorem dc_Ar_copyOf_18 : decode M_Ar_copyOf.2.1 18 = .ok (.aload_n 0, 1) := by decide +kernel
theorem dc_Ar_copyOf_19 : decode M_Ar_copyOf.2.1 19 = .ok (.iconst 0, 1) := by decide +kernel
theorem dc_Ar_copyOf_20 : decode M_Ar_copyOf.2.1 20 = .ok (.aload_n 2, 1) := by decide +kernel
theorem dc_Ar_copyOf_21 : decode M_Ar_copyOf.2.1 21 = .ok (.iconst 0, 1) := by decide +kernel
theorem dc_Ar_copyOf_22 : decode M_Ar_copyOf.2.1 22 = .ok (.aload_n 0, 1) := by decide +kernel
theorem dc_Ar_copyOf_23 : decode M_Ar_copyOf.2.1 23 = .ok (.arraylength, 1) := by decide +kernel
theorem dc_Ar_copyOf_24 : decode M_Ar_copyOf.2.1 24 = .ok (.iload_n 1, 1) := by decide +kernel
theorem dc_Ar_copyOf_25 : decode M_Ar_copyOf.2.1 25 = .ok (.invokestatic 304, 3) := by decide +kernel
theorem dc_Ar_copyOf_28 : decode M_Ar_copyOf.2.1 28 = .ok (.invokestatic 150, 3) := by decide +kernel
theorem dc_Ar_copyOf_31 : decode M_Ar_copyOf.2.1 31 = .ok (.aload_n 2, 1) := by decide +kernel
theorem dc_Ar_copyOf_32 : decode M_Ar_copyOf.2.1 32 = .ok (.areturn, 1) := by decide +kernel
def f_Ar_copyOf (a0 : Nat) (a1 : Int32) (h : xH) : Option (Nat × xH) := gd (hK h a0 = 12) (if a1 = (Int32.ofNat (hL h a0)) then gd (hL h a0 ≤ 200) (hp (hCl h a0) (fun h25 => some (hN h, h25))) else gd (¬ (a1 < 0 ∨ 200 < a1.toNatClampNeg)) (hp (hNw h 12 a1.toNatClampNeg) (fun h13 => gd (hK h13 a0 = 12) (gd (¬ (0 : Int32) < 0) (gd (¬ (0 : Int32) < 0) (gd (¬ (jMin (Int32.ofNat (hL h13 a0)) a1) < 0) (gd ((0 : Int32).toNatClampNeg + (jMin (Int32.ofNat (hL h13 a0)) a1).toNatClampNeg ≤ hL h13 a0) (gd ((0 : Int32).toNatClampNeg + (jMin (Int32.ofNat (hL h13 a0)) a1).toNatClampNeg ≤ hL h13 (hN h)) (hp (hIr h13 (hN h) (va_cpy (hI h13 a0) (hI h13 (hN h)) (0 : Int32).toNatClampNeg (0 : Int32).toNatClampNeg (jMin (Int32.ofNat (hL h13 a0)) a1).toNatClampNeg)) (fun h21 => some (hN h, h21)))))))))))
theorem t_Ar_copyOf {l : Launch} {z : xZ} {d mc ms : Nat} {Ph : Option xV → xH → Prop} {a0 : Nat} {a1 : Int32}  {h : xH} (hd : 2 ≤ d) (hmc : 1 ≤ mc) (hms : 200 ≤ ms) (hk : OK (f_Ar_copyOf a0 a1 h) (fun q => Ph (some (xR q.1)) q.2)) : Sx l z d mc ms M_Ar_copyOf 0 (x_en [xR a0, xI a1] 3) [] h Ph := by
  unfold f_Ar_copyOf at hk
  refine sx_eq (lc2 := [some (xR a0), some (xI a1), none]) rfl rfl ?_
  refine sx_iload_n dc_Ar_copyOf_0 rfl ?_
  refine sx_aload_n dc_Ar_copyOf_1 rfl ?_
  obtain ⟨g10, hk⟩ := hk.g
  refine sx_alen g10 (by decide) dc_Ar_copyOf_2 ?_
  refine sx_icmp_ne (tgt := 14) dc_Ar_copyOf_3 (by decide) (fun c11 => ?_) (fun c11 => ?_)
  · replace hk := hk.f c11
    refine sx_iload_n dc_Ar_copyOf_14 rfl ?_
    obtain ⟨g12, hk⟩ := hk.g
    refine sx_newI (N := a1.toNatClampNeg) (fun q => g12 (Or.inl q)) rfl (by have := fun q => g12 (Or.inr q); show _ * 4 ≤ _; omega) wA_int dc_Ar_copyOf_15 (by omega) (by have := fun q => g12 (Or.inr q); omega) ?_
    obtain ⟨h13, eh13, hk⟩ := hk.h
    refine sx_hp eh13 ?_
    have g14 : hK h13 (hN h) = 12 := by rw [eh13]; exact (show hK (hNw h 12 a1.toNatClampNeg) (hN h) = 12 from if_pos rfl)
    refine sx_astore_n dc_Ar_copyOf_17 (by decide) (sx_eq (lc2 := [some (xR a0), some (xI a1), some (xR (hN h))]) rfl rfl ?_)
    refine sx_aload_n dc_Ar_copyOf_18 rfl ?_
    refine sx_iconst (v := (0 : Int32)) dc_Ar_copyOf_19 (by decide) ?_
    refine sx_aload_n dc_Ar_copyOf_20 rfl ?_
    refine sx_iconst (v := (0 : Int32)) dc_Ar_copyOf_21 (by decide) ?_
    refine sx_aload_n dc_Ar_copyOf_22 rfl ?_
    obtain ⟨g15, hk⟩ := hk.g
    refine sx_alen g15 (by decide) dc_Ar_copyOf_23 ?_
    refine sx_iload_n dc_Ar_copyOf_24 rfl ?_
    refine sx_min wM_Ar_304 mt_Mt_min wT_Mt wV_min (Nat.le_of_ble_eq_true rfl) (by omega) dc_Ar_copyOf_25 ?_
    obtain ⟨g16, hk⟩ := hk.g
    obtain ⟨g17, hk⟩ := hk.g
    obtain ⟨g18, hk⟩ := hk.g
    obtain ⟨g19, hk⟩ := hk.g
    obtain ⟨g20, hk⟩ := hk.g
    refine sx_copy g15 g14 g16 g17 g18 g19 g20 wM_Ar_150 wQ wR wS (Nat.le_of_ble_eq_true rfl) (by omega) dc_Ar_copyOf_28 ?_
    obtain ⟨h21, eh21, hk⟩ := hk.h
    refine sx_hp eh21 ?_
    have g22 : hK h21 (hN h) = 12 := by rw [eh21]; exact g14
    have g23 : hK h21 a0 = 12 := by rw [eh21]; exact g15
    refine sx_aload_n dc_Ar_copyOf_31 rfl ?_
    exact sx_retR dc_Ar_copyOf_32 (by first | exact Or.inl ⟨_, rfl⟩ | exact Or.inr ⟨_, rfl⟩) hk.val
  · replace hk := hk.t c11
    refine sx_aload_n dc_Ar_copyOf_6 rfl ?_
    obtain ⟨g24, hk⟩ := hk.g
    refine sx_clone g10 wM_Ar_316 w1 w2 w3 w4 (Nat.le_of_ble_eq_true rfl) (by omega) (by omega) (Nat.le_trans g24 (by omega)) dc_Ar_copyOf_7 ?_
    obtain ⟨h25, eh25, hk⟩ := hk.h
    refine sx_hp eh25 ?_
    have g26 : hK h25 (hN h) = 12 := by rw [eh25]; exact (show hK (hCl h a0) (hN h) = 12 from if_pos rfl)
    refine sx_castI g26 wC_Ar_317 dc_Ar_copyOf_10 ?_
    exact sx_retR dc_Ar_copyOf_13 (by first | exact Or.inl ⟨_, rfl⟩ | exact Or.inr ⟨_, rfl⟩) hk.val
theorem dc_Te_init_0 : decode M_Te_init.2.1 0 = .ok (.aload_n 0, 1) := by decide +kernel
theorem dc_Te_init_1 : decode M_Te_init.2.1 1 = .ok (.invokespecial 1, 3) := by decide +kernel
theorem dc_Te_init_4 : decode M_Te_init.2.1 4 = .ok (.aload_n 0, 1) := by decide +kernel
theorem dc_Te_init_5 : decode M_Te_init.2.1 5 = .ok (.aload_n 1, 1) := by decide +kernel
theorem dc_Te_init_6 : decode M_Te_init.2.1 6 = .ok (.putfield 7, 3) := by decide +kernel
theorem dc_Te_init_9 : decode M_Te_init.2.1 9 = .ok (.aload_n 0, 1) := by decide +kernel
theorem dc_Te_init_10 : decode M_Te_init.2.1 10 = .ok (.aload_n 2, 1) := by decide +kernel
theorem dc_Te_init_11 : decode M_Te_init.2.1 11 = .ok (.putfield 13, 3) := by decide +kernel
theorem dc_Te_init_14 : decode M_Te_init.2.1 14 = .ok (.return_, 1) := by decide +kernel
def f_Te_init (a0 : Nat) (a1 : Nat) (a2 : Nat) (h : xH) : Option (Unit × xH) := gd (hK h a0 = 7) (some ((), hRu (hRu h a0 0 a1) a0 1 a2))
theorem t_Te_init {l : Launch} {z : xZ} {d mc ms : Nat} {Ph : Option xV → xH → Prop} {a0 : Nat} {a1 : Nat} {a2 : Nat}  {h : xH} (hd : 2 ≤ d) (hk : OK (f_Te_init a0 a1 a2 h) (fun q => Ph (none) q.2)) : Sx l z d mc ms M_Te_init 0 (x_en [xR a0, xR a1, xR a2] 3) [] h Ph := by
  unfold f_Te_init at hk
  refine sx_eq (lc2 := [some (xR a0), some (xR a1), some (xR a2)]) rfl rfl ?_
  refine sx_aload_n dc_Te_init_0 rfl ?_
  obtain ⟨g2, hk⟩ := hk.g
  refine sx_objInit g2 (by decide) wM_Te_1 wO wP (Nat.le_of_ble_eq_true rfl) (by omega) dc_Te_init_1 ?_
  refine sx_aload_n dc_Te_init_4 rfl ?_
  refine sx_aload_n dc_Te_init_5 rfl ?_
  refine sx_putRF (ci := 7) (k := 0) rfl (by decide) wF_Te_7 rfl (by rfl) rfl g2 rfl dc_Te_init_6 ?_
  refine sx_aload_n dc_Te_init_9 rfl ?_
  refine sx_aload_n dc_Te_init_10 rfl ?_
  refine sx_putRF (ci := 7) (k := 1) rfl (by decide) wF_Te_13 rfl (by rfl) rfl g2 rfl dc_Te_init_11 ?_
  exact sx_retV dc_Te_init_14 rfl hk.val
theorem dc_Re_written_0 : decode M_Re_written.2.1 0 = .ok (.new 18, 3) := by decide +kernel
theorem dc_Re_written_3 : decode M_Re_written.2.1 3 = .ok (.dup, 1) := by decide +kernel
theorem dc_Re_written_4 : decode M_Re_written.2.1 4 = .ok (.aload_n 0, 1) := by decide +kernel
theorem dc_Re_written_5 : decode M_Re_written.2.1 5 = .ok (.getfield 15, 3) := by decide +kernel
theorem dc_Re_written_8 : decode M_Re_written.2.1 8 = .ok (.aload_n 0, 1) := by decide +kernel
theorem dc_Re_written_9 : decode M_Re_written.2.1 9 = .ok (.getfield 27, 3) := by decide +kernel
theorem dc_Re_written_12 : decode M_Re_written.2.1 12 = .ok (.invokestatic 30, 3) := by decide +kernel
theorem dc_Re_written_15 : decode M_Re_written.2.1 15 = .ok (.aload_n 0, 1) := by decide +kernel
theorem dc_Re_written_16 : decode M_Re_written.2.1 16 = .ok (.getfield 20, 3) := by decide +kernel
theorem dc_Re_written_19 : decode M_Re_written.2.1 19 = .ok (.invokevirtual 36, 3) := by decide +kernel
theorem dc_Re_written_22 : decode M_Re_written.2.1 22 = .ok (.checkcast 37, 3) := by decide +kernel
theorem dc_Re_written_25 : decode M_Re_written.2.1 25 = .ok (.invokespecial 41, 3) := by decide +kernel
theorem dc_Re_written_28 : decode M_Re_written.2.1 28 = .ok (.areturn, 1) := by decide +kernel
def f_Re_written (a0 : Nat) (h : xH) : Option (Nat × xH) := hp (hNw h 7 0) (fun h8 => gd (hK h8 a0 = 1) (Option.bind (f_Ar_copyOf (hR h8 a0 6) (hI h8 a0 7) h8) (fun q11 => gd (hK q11.2 a0 = 1) (gd (hK q11.2 (hR q11.2 a0 8) = 12) (gd (hL q11.2 (hR q11.2 a0 8) ≤ 200) (hp (hCl q11.2 (hR q11.2 a0 8)) (fun h15 => gd (hK h15 (hN h) = 7) (Option.bind (f_Te_init (hN h) q11.1 (hN q11.2) h15) (fun q17 => some (hN h, q17.2))))))))))
theorem t_Re_written {l : Launch} {z : xZ} {d mc ms : Nat} {Ph : Option xV → xH → Prop} {a0 : Nat}  {h : xH} (hd : 3 ≤ d) (hmc : 3 ≤ mc) (hms : 402 ≤ ms) (hk : OK (f_Re_written a0 h) (fun q => Ph (some (xR q.1)) q.2)) : Sx l z d mc ms M_Re_written 0 (x_en [xR a0] 1) [] h Ph := by
  unfold f_Re_written at hk
  refine sx_eq (lc2 := [some (xR a0)]) rfl rfl ?_
  refine sx_newN (ci := 7) (N := 2) rfl rfl wC_Re_18 wI_Te wT_Te dc_Re_written_0 (by omega) (by omega) ?_
  obtain ⟨h8, eh8, hk⟩ := hk.h
  refine sx_hp eh8 ?_
  have g9 : hK h8 (hN h) = 7 := by rw [eh8]; exact (show hK (hNw h 7 0) (hN h) = 7 from if_pos rfl)
  refine sx_dup dc_Re_written_3 rfl ?_
  refine sx_aload_n dc_Re_written_4 rfl ?_
  obtain ⟨g10, hk⟩ := hk.g
  refine sx_get (ci := 1) (k := 6) rfl (by decide) wF_Re_15 g10 dc_Re_written_5 ?_
  refine sx_aload_n dc_Re_written_8 rfl ?_
  refine sx_get (ci := 1) (k := 7) rfl (by decide) wF_Re_27 g10 dc_Re_written_9 ?_
  obtain ⟨q11, eq11, hk⟩ := hk.bind
  refine sx_callS (d2 := d - 1) (mc2 := 1) (ms2 := 200) (as := [xR (hR h8 a0 6), xI (hI h8 a0 7)]) mk_Ar_copyOf rfl wM_Re_30 mt_Ar_copyOf rfl (Nat.le_of_ble_eq_true rfl) (Nat.le_of_ble_eq_true rfl) dc_Re_written_12 (by omega) (by omega) (by omega) ?_
  refine t_Ar_copyOf (by omega) (by omega) (by omega) ⟨q11, eq11, ?_⟩
  refine sx_eq (lc2 := [some (xR a0)]) (st2 := [xR q11.1, xR (hN h), xR (hN h)]) rfl rfl ?_
  refine sx_aload_n dc_Re_written_15 rfl ?_
  obtain ⟨g12, hk⟩ := hk.g
  refine sx_get (ci := 1) (k := 8) rfl (by decide) wF_Re_20 g12 dc_Re_written_16 ?_
  obtain ⟨g13, hk⟩ := hk.g
  obtain ⟨g14, hk⟩ := hk.g
  refine sx_clone g13 wM_Re_36 w1 w2 w3 w4 (Nat.le_of_ble_eq_true rfl) (by omega) (by omega) (Nat.le_trans g14 (by omega)) dc_Re_written_19 ?_
  obtain ⟨h15, eh15, hk⟩ := hk.h
  refine sx_hp eh15 ?_
  have g16 : hK h15 (hN q11.2) = 12 := by rw [eh15]; exact (show hK (hCl q11.2 (hR q11.2 a0 8)) (hN q11.2) = 12 from if_pos rfl)
  refine sx_castI g16 wC_Re_37 dc_Re_written_22 ?_
  obtain ⟨g18, hk⟩ := hk.g
  obtain ⟨q17, eq17, hk⟩ := hk.bind
  refine sx_callI (d2 := d - 1) (mc2 := 0) (ms2 := 0) (as := [xR q11.1, xR (hN q11.2)]) mk_Te_init rfl wM_Re_41 mi_Te_init ⟨rfl, rfl⟩ g18 (by decide) rfl (Nat.le_of_ble_eq_true rfl) (Nat.le_of_ble_eq_true rfl) dc_Re_written_25 (by omega) (Nat.zero_le _) (Nat.zero_le _) ?_
  refine t_Te_init (by omega) ⟨q17, eq17, ?_⟩
  refine sx_eq0 (lc2 := [some (xR a0)]) (st2 := [xR (hN h)]) rfl rfl ?_
  exact sx_retR dc_Re_written_28 (by first | exact Or.inl ⟨_, rfl⟩ | exact Or.inr ⟨_, rfl⟩) hk.val
theorem dc_Re_isLetter_0 : decode M_Re_isLetter.2.1 0 = .ok (.iload_n 0, 1) := by decide +kernel
theorem dc_Re_isLetter_1 : decode M_Re_isLetter.2.1 1 = .ok (.bipush 97, 2) := by decide +kernel
theorem dc_Re_isLetter_3 : decode M_Re_isLetter.2.1 3 = .ok (.if_icmp .lt 13, 3) := by decide +kernel
theorem dc_Re_isLetter_6 : decode M_Re_isLetter.2.1 6 = .ok (.iload_n 0, 1) := by decide +kernel
theorem dc_Re_isLetter_7 : decode M_Re_isLetter.2.1 7 = .ok (.bipush 122, 2) := by decide +kernel
theorem dc_Re_isLetter_9 : decode M_Re_isLetter.2.1 9 = .ok (.if_icmp .gt 7, 3) := by decide +kernel
theorem dc_Re_isLetter_12 : decode M_Re_isLetter.2.1 12 = .ok (.iconst 1, 1) := by decide +kernel
theorem dc_Re_isLetter_13 : decode M_Re_isLetter.2.1 13 = .ok (.goto 4, 3) := by decide +kernel
theorem dc_Re_isLetter_16 : decode M_Re_isLetter.2.1 16 = .ok (.iconst 0, 1) := by decide +kernel
theorem dc_Re_isLetter_17 : decode M_Re_isLetter.2.1 17 = .ok (.ireturn, 1) := by decide +kernel
def f_Re_isLetter (a0 : Int32) (h : xH) : Option (Int32 × xH) := jn (fun (x1 : Int32) => some (nb x1, h)) (fun k2 => jn (fun (x3 : Unit) => k2 (0 : Int32)) (fun k4 => if a0 < (97 : Int32) then k4 () else if (122 : Int32) < a0 then k4 () else k2 (1 : Int32)))
theorem t_Re_isLetter {l : Launch} {z : xZ} {d mc ms : Nat} {Ph : Option xV → xH → Prop} {a0 : Int32}  {h : xH} (hd : 1 ≤ d) (hk : OK (f_Re_isLetter a0 h) (fun q => Ph (some (xI q.1)) q.2)) : Sx l z d mc ms M_Re_isLetter 0 (x_en [xI a0] 1) [] h Ph := by
  unfold f_Re_isLetter at hk
  refine sx_eq (lc2 := [some (xI a0)]) rfl rfl ?_
  refine sx_iload_n dc_Re_isLetter_0 rfl ?_
  refine sx_bipush (v := (97 : Int32)) dc_Re_isLetter_1 (by decide) ?_
  refine hk.j (X := fun x1 => Sx l z d mc ms M_Re_isLetter 17 [some (xI a0)] [xI x1] h Ph) (fun x1 hk => ?_) (fun k2 jk2 hk => ?_)
  · exact sx_retT dc_Re_isLetter_17 (Or.inl ⟨rfl, rfl⟩) rfl hk.val
  · refine hk.j (X := fun x3 => Sx l z d mc ms M_Re_isLetter 16 [some (xI a0)] [] h Ph) (fun x3 hk => ?_) (fun k4 jk4 hk => ?_)
    · refine sx_iconst (v := (0 : Int32)) dc_Re_isLetter_16 (by decide) ?_
      exact jk2 (0 : Int32) hk
    · refine sx_icmp_lt (tgt := 16) dc_Re_isLetter_3 (by decide) (fun c5 => ?_) (fun c5 => ?_)
      · replace hk := hk.t c5
        exact jk4 () hk
      · replace hk := hk.f c5
        refine sx_iload_n dc_Re_isLetter_6 rfl ?_
        refine sx_bipush (v := (122 : Int32)) dc_Re_isLetter_7 (by decide) ?_
        refine sx_icmp_gt (tgt := 16) dc_Re_isLetter_9 (by decide) (fun c6 => ?_) (fun c6 => ?_)
        · replace hk := hk.t c6
          exact jk4 () hk
        · replace hk := hk.f c6
          refine sx_iconst (v := (1 : Int32)) dc_Re_isLetter_12 (by decide) ?_
          refine sx_goto (tgt := 17) dc_Re_isLetter_13 (by decide) ?_
          exact jk2 (1 : Int32) hk
theorem dc_Re_wordOf_0 : decode M_Re_wordOf.2.1 0 = .ok (.iload_n 0, 1) := by decide +kernel
theorem dc_Re_wordOf_1 : decode M_Re_wordOf.2.1 1 = .ok (.tableswitch 99 0 11 #[63, 66, 69, 72, 75, 78, 81, 84, 87, 90, 93, 96], 63) := by decide +kernel
theorem dc_Re_wordOf_64 : decode M_Re_wordOf.2.1 64 = .ok (.ldc 124, 2) := by decide +kernel
theorem dc_Re_wordOf_66 : decode M_Re_wordOf.2.1 66 = .ok (.areturn, 1) := by decide +kernel
theorem dc_Re_wordOf_67 : decode M_Re_wordOf.2.1 67 = .ok (.ldc 126, 2) := by decide +kernel
theorem dc_Re_wordOf_69 : decode M_Re_wordOf.2.1 69 = .ok (.areturn, 1) := by decide +kernel
theorem dc_Re_wordOf_70 : decode M_Re_wordOf.2.1 70 = .ok (.ldc 128, 2) := by decide +kernel
theorem dc_Re_wordOf_72 : decode M_Re_wordOf.2.1 72 = .ok (.areturn, 1) := by decide +kernel
theorem dc_Re_wordOf_73 : decode M_Re_wordOf.2.1 73 = .ok (.ldc 130, 2) := by decide +kernel
theorem dc_Re_wordOf_75 : decode M_Re_wordOf.2.1 75 = .ok (.areturn, 1) := by decide +kernel
theorem dc_Re_wordOf_76 : decode M_Re_wordOf.2.1 76 = .ok (.ldc 132, 2) := by decide +kernel
theorem dc_Re_wordOf_78 : decode M_Re_wordOf.2.1 78 = .ok (.areturn, 1) := by decide +kernel
theorem dc_Re_wordOf_79 : decode M_Re_wordOf.2.1 79 = .ok (.ldc 134, 2) := by decide +kernel
theorem dc_Re_wordOf_81 : decode M_Re_wordOf.2.1 81 = .ok (.areturn, 1) := by decide +kernel
theorem dc_Re_wordOf_82 : decode M_Re_wordOf.2.1 82 = .ok (.ldc 136, 2) := by decide +kernel
theorem dc_Re_wordOf_84 : decode M_Re_wordOf.2.1 84 = .ok (.areturn, 1) := by decide +kernel
theorem dc_Re_wordOf_85 : decode M_Re_wordOf.2.1 85 = .ok (.ldc 138, 2) := by decide +kernel
theorem dc_Re_wordOf_87 : decode M_Re_wordOf.2.1 87 = .ok (.areturn, 1) := by decide +kernel
theorem dc_Re_wordOf_88 : decode M_Re_wordOf.2.1 88 = .ok (.ldc 140, 2) := by decide +kernel
theorem dc_Re_wordOf_90 : decode M_Re_wordOf.2.1 90 = .ok (.areturn, 1) := by decide +kernel
theorem dc_Re_wordOf_91 : decode M_Re_wordOf.2.1 91 = .ok (.ldc 142, 2) := by decide +kernel
theorem dc_Re_wordOf_93 : decode M_Re_wordOf.2.1 93 = .ok (.areturn, 1) := by decide +kernel
theorem dc_Re_wordOf_94 : decode M_Re_wordOf.2.1 94 = .ok (.ldc 144, 2) := by decide +kernel
theorem dc_Re_wordOf_96 : decode M_Re_wordOf.2.1 96 = .ok (.areturn, 1) := by decide +kernel
theorem dc_Re_wordOf_97 : decode M_Re_wordOf.2.1 97 = .ok (.ldc 146, 2) := by decide +kernel
theorem dc_Re_wordOf_99 : decode M_Re_wordOf.2.1 99 = .ok (.areturn, 1) := by decide +kernel
theorem dc_Re_wordOf_100 : decode M_Re_wordOf.2.1 100 = .ok (.ldc 148, 2) := by decide +kernel
theorem dc_Re_wordOf_102 : decode M_Re_wordOf.2.1 102 = .ok (.areturn, 1) := by decide +kernel
def f_Re_wordOf (a0 : Int32) (h : xH) : Option (Nat × xH) := if a0 = (0 : Int32) then some (1, h) else if a0 = (1 : Int32) then some (2, h) else if a0 = (2 : Int32) then some (3, h) else if a0 = (3 : Int32) then some (4, h) else if a0 = (4 : Int32) then some (5, h) else if a0 = (5 : Int32) then some (6, h) else if a0 = (6 : Int32) then some (7, h) else if a0 = (7 : Int32) then some (8, h) else if a0 = (8 : Int32) then some (9, h) else if a0 = (9 : Int32) then some (10, h) else if a0 = (10 : Int32) then some (11, h) else if a0 = (11 : Int32) then some (12, h) else some (13, h)
theorem t_Re_wordOf {l : Launch} {z : xZ} {d mc ms : Nat} {Ph : Option xV → xH → Prop} {a0 : Int32}  {h : xH} (hd : 1 ≤ d) (hk : OK (f_Re_wordOf a0 h) (fun q => Ph (some (xS q.1)) q.2)) : Sx l z d mc ms M_Re_wordOf 0 (x_en [xI a0] 1) [] h Ph := by
  unfold f_Re_wordOf at hk
  refine sx_eq (lc2 := [some (xI a0)]) rfl rfl ?_
  refine sx_iload_n dc_Re_wordOf_0 rfl ?_
  by_cases c1 : a0 = (0 : Int32)
  · replace hk := hk.t c1
    refine sx_tabIn (off := 63) (tgt := 64) dc_Re_wordOf_1 (by rw [c1]; decide) (by rw [c1]; decide) (by rw [c1]; rfl) (by decide) ?_
    refine sx_ldcS (i := 1) rfl (by decide) dc_Re_wordOf_64 ?_
    exact sx_retR dc_Re_wordOf_66 (by first | exact Or.inl ⟨_, rfl⟩ | exact Or.inr ⟨_, rfl⟩) hk.val
  · replace hk := hk.f c1
    by_cases c2 : a0 = (1 : Int32)
    · replace hk := hk.t c2
      refine sx_tabIn (off := 66) (tgt := 67) dc_Re_wordOf_1 (by rw [c2]; decide) (by rw [c2]; decide) (by rw [c2]; rfl) (by decide) ?_
      refine sx_ldcS (i := 2) rfl (by decide) dc_Re_wordOf_67 ?_
      exact sx_retR dc_Re_wordOf_69 (by first | exact Or.inl ⟨_, rfl⟩ | exact Or.inr ⟨_, rfl⟩) hk.val
    · replace hk := hk.f c2
      by_cases c3 : a0 = (2 : Int32)
      · replace hk := hk.t c3
        refine sx_tabIn (off := 69) (tgt := 70) dc_Re_wordOf_1 (by rw [c3]; decide) (by rw [c3]; decide) (by rw [c3]; rfl) (by decide) ?_
        refine sx_ldcS (i := 3) rfl (by decide) dc_Re_wordOf_70 ?_
        exact sx_retR dc_Re_wordOf_72 (by first | exact Or.inl ⟨_, rfl⟩ | exact Or.inr ⟨_, rfl⟩) hk.val
      · replace hk := hk.f c3
        by_cases c4 : a0 = (3 : Int32)
        · replace hk := hk.t c4
          refine sx_tabIn (off := 72) (tgt := 73) dc_Re_wordOf_1 (by rw [c4]; decide) (by rw [c4]; decide) (by rw [c4]; rfl) (by decide) ?_
          refine sx_ldcS (i := 4) rfl (by decide) dc_Re_wordOf_73 ?_
          exact sx_retR dc_Re_wordOf_75 (by first | exact Or.inl ⟨_, rfl⟩ | exact Or.inr ⟨_, rfl⟩) hk.val
        · replace hk := hk.f c4
          by_cases c5 : a0 = (4 : Int32)
          · replace hk := hk.t c5
            refine sx_tabIn (off := 75) (tgt := 76) dc_Re_wordOf_1 (by rw [c5]; decide) (by rw [c5]; decide) (by rw [c5]; rfl) (by decide) ?_
            refine sx_ldcS (i := 5) rfl (by decide) dc_Re_wordOf_76 ?_
            exact sx_retR dc_Re_wordOf_78 (by first | exact Or.inl ⟨_, rfl⟩ | exact Or.inr ⟨_, rfl⟩) hk.val
          · replace hk := hk.f c5
            by_cases c6 : a0 = (5 : Int32)
            · replace hk := hk.t c6
              refine sx_tabIn (off := 78) (tgt := 79) dc_Re_wordOf_1 (by rw [c6]; decide) (by rw [c6]; decide) (by rw [c6]; rfl) (by decide) ?_
              refine sx_ldcS (i := 6) rfl (by decide) dc_Re_wordOf_79 ?_
              exact sx_retR dc_Re_wordOf_81 (by first | exact Or.inl ⟨_, rfl⟩ | exact Or.inr ⟨_, rfl⟩) hk.val
            · replace hk := hk.f c6
              by_cases c7 : a0 = (6 : Int32)
              · replace hk := hk.t c7
                refine sx_tabIn (off := 81) (tgt := 82) dc_Re_wordOf_1 (by rw [c7]; decide) (by rw [c7]; decide) (by rw [c7]; rfl) (by decide) ?_
                refine sx_ldcS (i := 7) rfl (by decide) dc_Re_wordOf_82 ?_
                exact sx_retR dc_Re_wordOf_84 (by first | exact Or.inl ⟨_, rfl⟩ | exact Or.inr ⟨_, rfl⟩) hk.val
              · replace hk := hk.f c7
                by_cases c8 : a0 = (7 : Int32)
                · replace hk := hk.t c8
                  refine sx_tabIn (off := 84) (tgt := 85) dc_Re_wordOf_1 (by rw [c8]; decide) (by rw [c8]; decide) (by rw [c8]; rfl) (by decide) ?_
                  refine sx_ldcS (i := 8) rfl (by decide) dc_Re_wordOf_85 ?_
                  exact sx_retR dc_Re_wordOf_87 (by first | exact Or.inl ⟨_, rfl⟩ | exact Or.inr ⟨_, rfl⟩) hk.val
                · replace hk := hk.f c8
                  by_cases c9 : a0 = (8 : Int32)
                  · replace hk := hk.t c9
                    refine sx_tabIn (off := 87) (tgt := 88) dc_Re_wordOf_1 (by rw [c9]; decide) (by rw [c9]; decide) (by rw [c9]; rfl) (by decide) ?_
                    refine sx_ldcS (i := 9) rfl (by decide) dc_Re_wordOf_88 ?_
                    exact sx_retR dc_Re_wordOf_90 (by first | exact Or.inl ⟨_, rfl⟩ | exact Or.inr ⟨_, rfl⟩) hk.val
                  · replace hk := hk.f c9
                    by_cases c10 : a0 = (9 : Int32)
                    · replace hk := hk.t c10
                      refine sx_tabIn (off := 90) (tgt := 91) dc_Re_wordOf_1 (by rw [c10]; decide) (by rw [c10]; decide) (by rw [c10]; rfl) (by decide) ?_
                      refine sx_ldcS (i := 10) rfl (by decide) dc_Re_wordOf_91 ?_
                      exact sx_retR dc_Re_wordOf_93 (by first | exact Or.inl ⟨_, rfl⟩ | exact Or.inr ⟨_, rfl⟩) hk.val
                    · replace hk := hk.f c10
                      by_cases c11 : a0 = (10 : Int32)
                      · replace hk := hk.t c11
                        refine sx_tabIn (off := 93) (tgt := 94) dc_Re_wordOf_1 (by rw [c11]; decide) (by rw [c11]; decide) (by rw [c11]; rfl) (by decide) ?_
                        refine sx_ldcS (i := 11) rfl (by decide) dc_Re_wordOf_94 ?_
                        exact sx_retR dc_Re_wordOf_96 (by first | exact Or.inl ⟨_, rfl⟩ | exact Or.inr ⟨_, rfl⟩) hk.val
                      · replace hk := hk.f c11
                        by_cases c12 : a0 = (11 : Int32)
                        · replace hk := hk.t c12
                          refine sx_tabIn (off := 96) (tgt := 97) dc_Re_wordOf_1 (by rw [c12]; decide) (by rw [c12]; decide) (by rw [c12]; rfl) (by decide) ?_
                          refine sx_ldcS (i := 12) rfl (by decide) dc_Re_wordOf_97 ?_
                          exact sx_retR dc_Re_wordOf_99 (by first | exact Or.inl ⟨_, rfl⟩ | exact Or.inr ⟨_, rfl⟩) hk.val
                        · replace hk := hk.f c12
                          refine sx_tabOut (tgt := 100) dc_Re_wordOf_1 (sw_out (fun k h1 h2 => ?_)) (by decide) ?_
                          · have h3 : k = 0 ∨ k = 1 ∨ k = 2 ∨ k = 3 ∨ k = 4 ∨ k = 5 ∨ k = 6 ∨ k = 7 ∨ k = 8 ∨ k = 9 ∨ k = 10 ∨ k = 11 := by omega
                            rcases h3 with rfl | rfl | rfl | rfl | rfl | rfl | rfl | rfl | rfl | rfl | rfl | rfl
                            · exact c1
                            · exact c2
                            · exact c3
                            · exact c4
                            · exact c5
                            · exact c6
                            · exact c7
                            · exact c8
                            · exact c9
                            · exact c10
                            · exact c11
                            · exact c12
                          · refine sx_ldcS (i := 13) rfl (by decide) dc_Re_wordOf_100 ?_
                            exact sx_retR dc_Re_wordOf_102 (by first | exact Or.inl ⟨_, rfl⟩ | exact Or.inr ⟨_, rfl⟩) hk.val
theorem dc_Sg_coder_0 : decode M_Sg_coder.2.1 0 = .ok (.getstatic 38, 3) := by decide +kernel
theorem dc_Sg_coder_3 : decode M_Sg_coder.2.1 3 = .ok (.ifCond .eq 10, 3) := by decide +kernel
theorem dc_Sg_coder_6 : decode M_Sg_coder.2.1 6 = .ok (.aload_n 0, 1) := by decide +kernel
theorem dc_Sg_coder_7 : decode M_Sg_coder.2.1 7 = .ok (.getfield 15, 3) := by decide +kernel
theorem dc_Sg_coder_10 : decode M_Sg_coder.2.1 10 = .ok (.goto 4, 3) := by decide +kernel
theorem dc_Sg_coder_13 : decode M_Sg_coder.2.1 13 = .ok (.iconst 1, 1) := by decide +kernel
theorem dc_Sg_coder_14 : decode M_Sg_coder.2.1 14 = .ok (.ireturn, 1) := by decide +kernel
def f_Sg_coder (a0 : Nat) (h : xH) : Option (Int32 × xH) := jn (fun (x2 : Int32) => some (vp_nar .byte x2, h)) (fun k3 => if (1 : Int32) = 0 then k3 (1 : Int32) else gd (a0 < 14) (k3 (0 : Int32)))
theorem t_Sg_coder {l : Launch} {z : xZ} {d mc ms : Nat} {Ph : Option xV → xH → Prop} {a0 : Nat}  {h : xH} (hd : 1 ≤ d) (hk : OK (f_Sg_coder a0 h) (fun q => Ph (some (xI q.1)) q.2)) : Sx l z d mc ms M_Sg_coder 0 (x_en [xS a0] 1) [] h Ph := by
  unfold f_Sg_coder at hk
  refine sx_eq (lc2 := [some (xS a0)]) rfl rfl ?_
  refine sx_compact wF_Sg_38 dc_Sg_coder_0 ?_
  refine hk.j (X := fun x2 => Sx l z d mc ms M_Sg_coder 14 [some (xS a0)] [xI x2] h Ph) (fun x2 hk => ?_) (fun k3 jk3 hk => ?_)
  · exact sx_retT dc_Sg_coder_14 (Or.inr (Or.inl ⟨rfl, rfl⟩)) rfl hk.val
  · refine sx_if_eq (tgt := 13) dc_Sg_coder_3 (by decide) (fun c4 => ?_) (fun c4 => ?_)
    · replace hk := hk.t c4
      refine sx_iconst (v := (1 : Int32)) dc_Sg_coder_13 (by decide) ?_
      exact jk3 (1 : Int32) hk
    · replace hk := hk.f c4
      refine sx_aload_n dc_Sg_coder_6 rfl ?_
      obtain ⟨g5, hk⟩ := hk.g
      refine sx_scod g5 wF_Sg_15 dc_Sg_coder_7 ?_
      refine sx_goto (tgt := 14) dc_Sg_coder_10 (by decide) ?_
      exact jk3 (0 : Int32) hk
theorem dc_Sg_length_0 : decode M_Sg_length.2.1 0 = .ok (.aload_n 0, 1) := by decide +kernel
theorem dc_Sg_length_1 : decode M_Sg_length.2.1 1 = .ok (.getfield 9, 3) := by decide +kernel
theorem dc_Sg_length_4 : decode M_Sg_length.2.1 4 = .ok (.arraylength, 1) := by decide +kernel
theorem dc_Sg_length_5 : decode M_Sg_length.2.1 5 = .ok (.aload_n 0, 1) := by decide +kernel
theorem dc_Sg_length_6 : decode M_Sg_length.2.1 6 = .ok (.invokevirtual 335, 3) := by decide +kernel
theorem dc_Sg_length_9 : decode M_Sg_length.2.1 9 = .ok (.ishr, 1) := by decide +kernel
theorem dc_Sg_length_10 : decode M_Sg_length.2.1 10 = .ok (.ireturn, 1) := by decide +kernel
def f_Sg_length (a0 : Nat) (h : xH) : Option (Int32 × xH) := gd (a0 < 14) (gd (16 ≤ (16 + a0) ∧ (16 + a0) < 30) (gd (a0 < 14) (Option.bind (f_Sg_coder a0 h) (fun q7 => some (jShr (Int32.ofNat (x_bl (16 + a0))) q7.1, q7.2)))))
theorem t_Sg_length {l : Launch} {z : xZ} {d mc ms : Nat} {Ph : Option xV → xH → Prop} {a0 : Nat}  {h : xH} (hd : 2 ≤ d) (hk : OK (f_Sg_length a0 h) (fun q => Ph (some (xI q.1)) q.2)) : Sx l z d mc ms M_Sg_length 0 (x_en [xS a0] 1) [] h Ph := by
  unfold f_Sg_length at hk
  refine sx_eq (lc2 := [some (xS a0)]) rfl rfl ?_
  refine sx_aload_n dc_Sg_length_0 rfl ?_
  obtain ⟨g5, hk⟩ := hk.g
  refine sx_sval g5 wF_Sg_9 dc_Sg_length_1 ?_
  obtain ⟨g6, hk⟩ := hk.g
  refine sx_bblen g6 dc_Sg_length_4 ?_
  refine sx_aload_n dc_Sg_length_5 rfl ?_
  obtain ⟨g8, hk⟩ := hk.g
  obtain ⟨q7, eq7, hk⟩ := hk.bind
  refine sx_callX (d2 := d - 1) (mc2 := 0) (ms2 := 0) (as := []) mk_Sg_coder rfl g8 rfl wM_Sg_335 mi_Sg_coder me_Sg_coder rfl (Nat.le_of_ble_eq_true rfl) (Nat.le_of_ble_eq_true rfl) dc_Sg_length_6 (by omega) (Nat.zero_le _) (Nat.zero_le _) ?_
  refine t_Sg_coder (by omega) ⟨q7, eq7, ?_⟩
  refine sx_eq0 (lc2 := [some (xS a0)]) (st2 := [xI q7.1, xI (Int32.ofNat (x_bl (16 + a0)))]) rfl rfl ?_
  refine sx_ishr dc_Sg_length_9 ?_
  exact sx_retI dc_Sg_length_10 rfl hk.val
theorem dc_Sg_isLatin1_0 : decode M_Sg_isLatin1.2.1 0 = .ok (.getstatic 38, 3) := by decide +kernel
theorem dc_Sg_isLatin1_3 : decode M_Sg_isLatin1.2.1 3 = .ok (.ifCond .eq 14, 3) := by decide +kernel
theorem dc_Sg_isLatin1_6 : decode M_Sg_isLatin1.2.1 6 = .ok (.aload_n 0, 1) := by decide +kernel
theorem dc_Sg_isLatin1_7 : decode M_Sg_isLatin1.2.1 7 = .ok (.getfield 15, 3) := by decide +kernel
theorem dc_Sg_isLatin1_10 : decode M_Sg_isLatin1.2.1 10 = .ok (.ifCond .ne 7, 3) := by decide +kernel
theorem dc_Sg_isLatin1_13 : decode M_Sg_isLatin1.2.1 13 = .ok (.iconst 1, 1) := by decide +kernel
theorem dc_Sg_isLatin1_14 : decode M_Sg_isLatin1.2.1 14 = .ok (.goto 4, 3) := by decide +kernel
theorem dc_Sg_isLatin1_17 : decode M_Sg_isLatin1.2.1 17 = .ok (.iconst 0, 1) := by decide +kernel
theorem dc_Sg_isLatin1_18 : decode M_Sg_isLatin1.2.1 18 = .ok (.ireturn, 1) := by decide +kernel
def f_Sg_isLatin1 (a0 : Nat) (h : xH) : Option (Int32 × xH) := jn (fun (x2 : Int32) => some (nb x2, h)) (fun k3 => jn (fun (x4 : Unit) => k3 (0 : Int32)) (fun k5 => if (1 : Int32) = 0 then k5 () else gd (a0 < 14) (if (0 : Int32) = 0 then k3 (1 : Int32) else k5 ())))
theorem t_Sg_isLatin1 {l : Launch} {z : xZ} {d mc ms : Nat} {Ph : Option xV → xH → Prop} {a0 : Nat}  {h : xH} (hd : 1 ≤ d) (hk : OK (f_Sg_isLatin1 a0 h) (fun q => Ph (some (xI q.1)) q.2)) : Sx l z d mc ms M_Sg_isLatin1 0 (x_en [xS a0] 1) [] h Ph := by
  unfold f_Sg_isLatin1 at hk
  refine sx_eq (lc2 := [some (xS a0)]) rfl rfl ?_
  refine sx_compact wF_Sg_38 dc_Sg_isLatin1_0 ?_
  refine hk.j (X := fun x2 => Sx l z d mc ms M_Sg_isLatin1 18 [some (xS a0)] [xI x2] h Ph) (fun x2 hk => ?_) (fun k3 jk3 hk => ?_)
  · exact sx_retT dc_Sg_isLatin1_18 (Or.inl ⟨rfl, rfl⟩) rfl hk.val
  · refine hk.j (X := fun x4 => Sx l z d mc ms M_Sg_isLatin1 17 [some (xS a0)] [] h Ph) (fun x4 hk => ?_) (fun k5 jk5 hk => ?_)
    · refine sx_iconst (v := (0 : Int32)) dc_Sg_isLatin1_17 (by decide) ?_
      exact jk3 (0 : Int32) hk
    · refine sx_if_eq (tgt := 17) dc_Sg_isLatin1_3 (by decide) (fun c6 => ?_) (fun c6 => ?_)
      · replace hk := hk.t c6
        exact jk5 () hk
      · replace hk := hk.f c6
        refine sx_aload_n dc_Sg_isLatin1_6 rfl ?_
        obtain ⟨g7, hk⟩ := hk.g
        refine sx_scod g7 wF_Sg_15 dc_Sg_isLatin1_7 ?_
        refine sx_if_ne (tgt := 17) dc_Sg_isLatin1_10 (by decide) (fun c8 => ?_) (fun c8 => ?_)
        · replace hk := hk.f c8
          exact jk5 () hk
        · replace hk := hk.t c8
          refine sx_iconst (v := (1 : Int32)) dc_Sg_isLatin1_13 (by decide) ?_
          refine sx_goto (tgt := 18) dc_Sg_isLatin1_14 (by decide) ?_
          exact jk3 (1 : Int32) hk
theorem dc_Pc_checkIndex_0 : decode M_Pc_checkIndex.2.1 0 = .ok (.iload_n 0, 1) := by decide +kernel
theorem dc_Pc_checkIndex_1 : decode M_Pc_checkIndex.2.1 1 = .ok (.ifCond .lt 8, 3) := by decide +kernel
theorem dc_Pc_checkIndex_4 : decode M_Pc_checkIndex.2.1 4 = .ok (.iload_n 0, 1) := by decide +kernel
theorem dc_Pc_checkIndex_5 : decode M_Pc_checkIndex.2.1 5 = .ok (.iload_n 1, 1) := by decide +kernel
theorem dc_Pc_checkIndex_6 : decode M_Pc_checkIndex.2.1 6 = .ok (.if_icmp .lt 10, 3) := by decide +kernel
theorem dc_Pc_checkIndex_9 : decode M_Pc_checkIndex.2.1 9 = .ok (.aload_n 2, 1) := by decide +kernel
theorem dc_Pc_checkIndex_10 : decode M_Pc_checkIndex.2.1 10 = .ok (.iload_n 0, 1) := by decide +kernel
theorem dc_Pc_checkIndex_11 : decode M_Pc_checkIndex.2.1 11 = .ok (.iload_n 1, 1) := by decide +kernel
theorem dc_Pc_checkIndex_16 : decode M_Pc_checkIndex.2.1 16 = .ok (.iload_n 0, 1) := by decide +kernel
theorem dc_Pc_checkIndex_17 : decode M_Pc_checkIndex.2.1 17 = .ok (.ireturn, 1) := by decide +kernel
def f_Pc_checkIndex (a0 : Int32) (a1 : Int32) (a2 : Nat) (h : xH) : Option (Int32 × xH) := jn (fun (x1 : Unit) => none) (fun k2 => if a0 < 0 then k2 () else if a0 < a1 then some (a0, h) else k2 ())
theorem t_Pc_checkIndex {l : Launch} {z : xZ} {d mc ms : Nat} {Ph : Option xV → xH → Prop} {a0 : Int32} {a1 : Int32} {a2 : Nat}  {h : xH} (hd : 1 ≤ d) (hk : OK (f_Pc_checkIndex a0 a1 a2 h) (fun q => Ph (some (xI q.1)) q.2)) : Sx l z d mc ms M_Pc_checkIndex 0 (x_en [xI a0, xI a1, xS a2] 3) [] h Ph := by
  unfold f_Pc_checkIndex at hk
  refine sx_eq (lc2 := [some (xI a0), some (xI a1), some (xS a2)]) rfl rfl ?_
  refine sx_iload_n dc_Pc_checkIndex_0 rfl ?_
  refine hk.j (X := fun x1 => Sx l z d mc ms M_Pc_checkIndex 9 [some (xI a0), some (xI a1), some (xS a2)] [] h Ph) (fun x1 hk => ?_) (fun k2 jk2 hk => ?_)
  · refine sx_aload_n dc_Pc_checkIndex_9 rfl ?_
    refine sx_iload_n dc_Pc_checkIndex_10 rfl ?_
    refine sx_iload_n dc_Pc_checkIndex_11 rfl ?_
    exact hk.no
  · refine sx_if_lt (tgt := 9) dc_Pc_checkIndex_1 (by decide) (fun c3 => ?_) (fun c3 => ?_)
    · replace hk := hk.t c3
      exact jk2 () hk
    · replace hk := hk.f c3
      refine sx_iload_n dc_Pc_checkIndex_4 rfl ?_
      refine sx_iload_n dc_Pc_checkIndex_5 rfl ?_
      refine sx_icmp_lt (tgt := 16) dc_Pc_checkIndex_6 (by decide) (fun c4 => ?_) (fun c4 => ?_)
      · replace hk := hk.t c4
        refine sx_iload_n dc_Pc_checkIndex_16 rfl ?_
        exact sx_retI dc_Pc_checkIndex_17 rfl hk.val
      · replace hk := hk.f c4
        exact jk2 () hk
theorem dc_Sg_checkIndex_0 : decode M_Sg_checkIndex.2.1 0 = .ok (.iload_n 0, 1) := by decide +kernel
theorem dc_Sg_checkIndex_1 : decode M_Sg_checkIndex.2.1 1 = .ok (.iload_n 1, 1) := by decide +kernel
theorem dc_Sg_checkIndex_2 : decode M_Sg_checkIndex.2.1 2 = .ok (.getstatic 1053, 3) := by decide +kernel
theorem dc_Sg_checkIndex_5 : decode M_Sg_checkIndex.2.1 5 = .ok (.invokestatic 1059, 3) := by decide +kernel
theorem dc_Sg_checkIndex_8 : decode M_Sg_checkIndex.2.1 8 = .ok (.pop, 1) := by decide +kernel
theorem dc_Sg_checkIndex_9 : decode M_Sg_checkIndex.2.1 9 = .ok (.return_, 1) := by decide +kernel
def f_Sg_checkIndex (a0 : Int32) (a1 : Int32) (h : xH) : Option (Unit × xH) := Option.bind (f_Pc_checkIndex a0 a1 31 h) (fun q2 => some ((), q2.2))
theorem t_Sg_checkIndex {l : Launch} {z : xZ} {d mc ms : Nat} {Ph : Option xV → xH → Prop} {a0 : Int32} {a1 : Int32}  {h : xH} (hd : 2 ≤ d) (hk : OK (f_Sg_checkIndex a0 a1 h) (fun q => Ph (none) q.2)) : Sx l z d mc ms M_Sg_checkIndex 0 (x_en [xI a0, xI a1] 2) [] h Ph := by
  unfold f_Sg_checkIndex at hk
  refine sx_eq (lc2 := [some (xI a0), some (xI a1)]) rfl rfl ?_
  refine sx_iload_n dc_Sg_checkIndex_0 rfl ?_
  refine sx_iload_n dc_Sg_checkIndex_1 rfl ?_
  refine sx_sioobe wF_Sg_1053 dc_Sg_checkIndex_2 ?_
  obtain ⟨q2, eq2, hk⟩ := hk.bind
  refine sx_callS (d2 := d - 1) (mc2 := 0) (ms2 := 0) (as := [xI a0, xI a1, xS 31]) mk_Pc_checkIndex rfl wM_Sg_1059 mt_Pc_checkIndex rfl (Nat.le_of_ble_eq_true rfl) (Nat.le_of_ble_eq_true rfl) dc_Sg_checkIndex_5 (by omega) (Nat.zero_le _) (Nat.zero_le _) ?_
  refine t_Pc_checkIndex (by omega) ⟨q2, eq2, ?_⟩
  refine sx_eq0 (lc2 := [some (xI a0), some (xI a1)]) (st2 := [xI q2.1]) rfl rfl ?_
  refine sx_pop dc_Sg_checkIndex_8 rfl ?_
  exact sx_retV dc_Sg_checkIndex_9 rfl hk.val
theorem dc_Sl_charAt_0 : decode M_Sl_charAt.2.1 0 = .ok (.iload_n 1, 1) := by decide +kernel
theorem dc_Sl_charAt_1 : decode M_Sl_charAt.2.1 1 = .ok (.aload_n 0, 1) := by decide +kernel
theorem dc_Sl_charAt_2 : decode M_Sl_charAt.2.1 2 = .ok (.arraylength, 1) := by decide +kernel
theorem dc_Sl_charAt_3 : decode M_Sl_charAt.2.1 3 = .ok (.invokestatic 9, 3) := by decide +kernel
theorem dc_Sl_charAt_6 : decode M_Sl_charAt.2.1 6 = .ok (.aload_n 0, 1) := by decide +kernel
theorem dc_Sl_charAt_7 : decode M_Sl_charAt.2.1 7 = .ok (.iload_n 1, 1) := by decide +kernel
theorem dc_Sl_charAt_8 : decode M_Sl_charAt.2.1 8 = .ok (.baload, 1) := by decide +kernel
theorem dc_Sl_charAt_9 : decode M_Sl_charAt.2.1 9 = .ok (.sipush 255, 3) := by decide +kernel
theorem dc_Sl_charAt_12 : decode M_Sl_charAt.2.1 12 = .ok (.iand, 1) := by decide +kernel
theorem dc_Sl_charAt_13 : decode M_Sl_charAt.2.1 13 = .ok (.i2c, 1) := by decide +kernel
theorem dc_Sl_charAt_14 : decode M_Sl_charAt.2.1 14 = .ok (.ireturn, 1) := by decide +kernel
def f_Sl_charAt (a0 : Nat) (a1 : Int32) (h : xH) : Option (Int32 × xH) := gd (16 ≤ a0 ∧ a0 < 30) (Option.bind (f_Sg_checkIndex a1 (Int32.ofNat (x_bl a0)) h) (fun q5 => gd (¬ (a1 < 0 ∨ x_bl a0 ≤ a1.toNatClampNeg)) (some (vp_nar .char (jCh ((x_bb a0 a1.toNatClampNeg) &&& (255 : Int32))), q5.2))))
theorem t_Sl_charAt {l : Launch} {z : xZ} {d mc ms : Nat} {Ph : Option xV → xH → Prop} {a0 : Nat} {a1 : Int32}  {h : xH} (hd : 3 ≤ d) (hk : OK (f_Sl_charAt a0 a1 h) (fun q => Ph (some (xI q.1)) q.2)) : Sx l z d mc ms M_Sl_charAt 0 (x_en [xS a0, xI a1] 2) [] h Ph := by
  unfold f_Sl_charAt at hk
  refine sx_eq (lc2 := [some (xS a0), some (xI a1)]) rfl rfl ?_
  refine sx_iload_n dc_Sl_charAt_0 rfl ?_
  refine sx_aload_n dc_Sl_charAt_1 rfl ?_
  obtain ⟨g4, hk⟩ := hk.g
  refine sx_bblen g4 dc_Sl_charAt_2 ?_
  obtain ⟨q5, eq5, hk⟩ := hk.bind
  refine sx_callS (d2 := d - 1) (mc2 := 0) (ms2 := 0) (as := [xI a1, xI (Int32.ofNat (x_bl a0))]) mk_Sg_checkIndex rfl wM_Sl_9 mt_Sg_checkIndex rfl (Nat.le_of_ble_eq_true rfl) (Nat.le_of_ble_eq_true rfl) dc_Sl_charAt_3 (by omega) (Nat.zero_le _) (Nat.zero_le _) ?_
  refine t_Sg_checkIndex (by omega) ⟨q5, eq5, ?_⟩
  refine sx_eq0 (lc2 := [some (xS a0), some (xI a1)]) (st2 := []) rfl rfl ?_
  refine sx_aload_n dc_Sl_charAt_6 rfl ?_
  refine sx_iload_n dc_Sl_charAt_7 rfl ?_
  obtain ⟨g6, hk⟩ := hk.g
  refine sx_bbld g6 dc_Sl_charAt_8 ?_
  refine sx_sipush (v := (255 : Int32)) dc_Sl_charAt_9 (by decide) ?_
  refine sx_iand dc_Sl_charAt_12 ?_
  refine sx_i2c dc_Sl_charAt_13 ?_
  exact sx_retT dc_Sl_charAt_14 (Or.inr (Or.inr ⟨rfl, rfl⟩)) rfl hk.val
theorem dc_Sg_charAt_0 : decode M_Sg_charAt.2.1 0 = .ok (.aload_n 0, 1) := by decide +kernel
theorem dc_Sg_charAt_1 : decode M_Sg_charAt.2.1 1 = .ok (.invokevirtual 492, 3) := by decide +kernel
theorem dc_Sg_charAt_4 : decode M_Sg_charAt.2.1 4 = .ok (.ifCond .eq 12, 3) := by decide +kernel
theorem dc_Sg_charAt_7 : decode M_Sg_charAt.2.1 7 = .ok (.aload_n 0, 1) := by decide +kernel
theorem dc_Sg_charAt_8 : decode M_Sg_charAt.2.1 8 = .ok (.getfield 9, 3) := by decide +kernel
theorem dc_Sg_charAt_11 : decode M_Sg_charAt.2.1 11 = .ok (.iload_n 1, 1) := by decide +kernel
theorem dc_Sg_charAt_12 : decode M_Sg_charAt.2.1 12 = .ok (.invokestatic 495, 3) := by decide +kernel
theorem dc_Sg_charAt_15 : decode M_Sg_charAt.2.1 15 = .ok (.ireturn, 1) := by decide +kernel
theorem dc_Sg_charAt_16 : decode M_Sg_charAt.2.1 16 = .ok (.aload_n 0, 1) := by decide +kernel
theorem dc_Sg_charAt_17 : decode M_Sg_charAt.2.1 17 = .ok (.getfield 9, 3) := by decide +kernel
theorem dc_Sg_charAt_20 : decode M_Sg_charAt.2.1 20 = .ok (.iload_n 1, 1) := by decide +kernel
def f_Sg_charAt (a0 : Nat) (a1 : Int32) (h : xH) : Option (Int32 × xH) := gd (a0 < 14) (Option.bind (f_Sg_isLatin1 a0 h) (fun q6 => if q6.1 = 0 then gd (a0 < 14) (none) else gd (a0 < 14) (Option.bind (f_Sl_charAt (16 + a0) a1 q6.2) (fun q11 => some (vp_nar .char q11.1, q11.2)))))
theorem t_Sg_charAt {l : Launch} {z : xZ} {d mc ms : Nat} {Ph : Option xV → xH → Prop} {a0 : Nat} {a1 : Int32}  {h : xH} (hd : 4 ≤ d) (hk : OK (f_Sg_charAt a0 a1 h) (fun q => Ph (some (xI q.1)) q.2)) : Sx l z d mc ms M_Sg_charAt 0 (x_en [xS a0, xI a1] 2) [] h Ph := by
  unfold f_Sg_charAt at hk
  refine sx_eq (lc2 := [some (xS a0), some (xI a1)]) rfl rfl ?_
  refine sx_aload_n dc_Sg_charAt_0 rfl ?_
  obtain ⟨g7, hk⟩ := hk.g
  obtain ⟨q6, eq6, hk⟩ := hk.bind
  refine sx_callX (d2 := d - 1) (mc2 := 0) (ms2 := 0) (as := []) mk_Sg_isLatin1 rfl g7 rfl wM_Sg_492 mi_Sg_isLatin1 me_Sg_isLatin1 rfl (Nat.le_of_ble_eq_true rfl) (Nat.le_of_ble_eq_true rfl) dc_Sg_charAt_1 (by omega) (Nat.zero_le _) (Nat.zero_le _) ?_
  refine t_Sg_isLatin1 (by omega) ⟨q6, eq6, ?_⟩
  refine sx_eq0 (lc2 := [some (xS a0), some (xI a1)]) (st2 := [xI q6.1]) rfl rfl ?_
  refine sx_if_eq (tgt := 16) dc_Sg_charAt_4 (by decide) (fun c8 => ?_) (fun c8 => ?_)
  · replace hk := hk.t c8
    refine sx_aload_n dc_Sg_charAt_16 rfl ?_
    obtain ⟨g9, hk⟩ := hk.g
    refine sx_sval g9 wF_Sg_9 dc_Sg_charAt_17 ?_
    refine sx_iload_n dc_Sg_charAt_20 rfl ?_
    exact hk.no
  · replace hk := hk.f c8
    refine sx_aload_n dc_Sg_charAt_7 rfl ?_
    obtain ⟨g10, hk⟩ := hk.g
    refine sx_sval g10 wF_Sg_9 dc_Sg_charAt_8 ?_
    refine sx_iload_n dc_Sg_charAt_11 rfl ?_
    obtain ⟨q11, eq11, hk⟩ := hk.bind
    refine sx_callS (d2 := d - 1) (mc2 := 0) (ms2 := 0) (as := [xS (16 + a0), xI a1]) mk_Sl_charAt rfl wM_Sg_495 mt_Sl_charAt rfl (Nat.le_of_ble_eq_true rfl) (Nat.le_of_ble_eq_true rfl) dc_Sg_charAt_12 (by omega) (Nat.zero_le _) (Nat.zero_le _) ?_
    refine t_Sl_charAt (by omega) ⟨q11, eq11, ?_⟩
    refine sx_eq0 (lc2 := [some (xS a0), some (xI a1)]) (st2 := [xI q11.1]) rfl rfl ?_
    exact sx_retT dc_Sg_charAt_15 (Or.inr (Or.inr ⟨rfl, rfl⟩)) rfl hk.val
theorem dc_Re_spells_0 : decode M_Re_spells.2.1 0 = .ok (.aload_n 1, 1) := by decide +kernel
theorem dc_Re_spells_1 : decode M_Re_spells.2.1 1 = .ok (.invokevirtual 115, 3) := by decide +kernel
theorem dc_Re_spells_4 : decode M_Re_spells.2.1 4 = .ok (.aload_n 0, 1) := by decide +kernel
theorem dc_Re_spells_5 : decode M_Re_spells.2.1 5 = .ok (.getfield 44, 3) := by decide +kernel
theorem dc_Re_spells_8 : decode M_Re_spells.2.1 8 = .ok (.aload_n 0, 1) := by decide +kernel
theorem dc_Re_spells_9 : decode M_Re_spells.2.1 9 = .ok (.getfield 57, 3) := by decide +kernel
theorem dc_Re_spells_12 : decode M_Re_spells.2.1 12 = .ok (.isub, 1) := by decide +kernel
theorem dc_Re_spells_13 : decode M_Re_spells.2.1 13 = .ok (.if_icmp .eq 5, 3) := by decide +kernel
theorem dc_Re_spells_16 : decode M_Re_spells.2.1 16 = .ok (.iconst 0, 1) := by decide +kernel
theorem dc_Re_spells_17 : decode M_Re_spells.2.1 17 = .ok (.ireturn, 1) := by decide +kernel
theorem dc_Re_spells_18 : decode M_Re_spells.2.1 18 = .ok (.iconst 0, 1) := by decide +kernel
theorem dc_Re_spells_19 : decode M_Re_spells.2.1 19 = .ok (.istore_n 2, 1) := by decide +kernel
theorem dc_Re_spells_20 : decode M_Re_spells.2.1 20 = .ok (.iload_n 2, 1) := by decide +kernel
theorem dc_Re_spells_21 : decode M_Re_spells.2.1 21 = .ok (.aload_n 1, 1) := by decide +kernel
theorem dc_Re_spells_22 : decode M_Re_spells.2.1 22 = .ok (.invokevirtual 115, 3) := by decide +kernel
theorem dc_Re_spells_25 : decode M_Re_spells.2.1 25 = .ok (.if_icmp .ge 30, 3) := by decide +kernel
theorem dc_Re_spells_28 : decode M_Re_spells.2.1 28 = .ok (.aload_n 0, 1) := by decide +kernel
theorem dc_Re_spells_29 : decode M_Re_spells.2.1 29 = .ok (.getfield 11, 3) := by decide +kernel
theorem dc_Re_spells_32 : decode M_Re_spells.2.1 32 = .ok (.aload_n 0, 1) := by decide +kernel
theorem dc_Re_spells_33 : decode M_Re_spells.2.1 33 = .ok (.getfield 57, 3) := by decide +kernel
theorem dc_Re_spells_36 : decode M_Re_spells.2.1 36 = .ok (.iload_n 2, 1) := by decide +kernel
theorem dc_Re_spells_37 : decode M_Re_spells.2.1 37 = .ok (.iadd, 1) := by decide +kernel
theorem dc_Re_spells_38 : decode M_Re_spells.2.1 38 = .ok (.iaload, 1) := by decide +kernel
theorem dc_Re_spells_39 : decode M_Re_spells.2.1 39 = .ok (.aload_n 1, 1) := by decide +kernel
theorem dc_Re_spells_40 : decode M_Re_spells.2.1 40 = .ok (.iload_n 2, 1) := by decide +kernel
theorem dc_Re_spells_41 : decode M_Re_spells.2.1 41 = .ok (.invokevirtual 120, 3) := by decide +kernel
theorem dc_Re_spells_44 : decode M_Re_spells.2.1 44 = .ok (.if_icmp .eq 5, 3) := by decide +kernel
theorem dc_Re_spells_47 : decode M_Re_spells.2.1 47 = .ok (.iconst 0, 1) := by decide +kernel
theorem dc_Re_spells_48 : decode M_Re_spells.2.1 48 = .ok (.ireturn, 1) := by decide +kernel
theorem dc_Re_spells_49 : decode M_Re_spells.2.1 49 = .ok (.iinc 2 1, 3) := by decide +kernel
theorem dc_Re_spells_52 : decode M_Re_spells.2.1 52 = .ok (.goto (-32), 3) := by decide +kernel
theorem dc_Re_spells_55 : decode M_Re_spells.2.1 55 = .ok (.iconst 1, 1) := by decide +kernel
theorem dc_Re_spells_56 : decode M_Re_spells.2.1 56 = .ok (.ireturn, 1) := by decide +kernel
def f_Re_spells_L20 (a0 : Nat) (a1 : Nat) : Nat → Int32 → xH → (Int32 → xH → Option (Int32 × xH)) → Option (Int32 × xH)
  | 0, _, _, _ => none
  | n + 1, a2, h, K => gd (a1 < 14) (Option.bind (f_Sg_length a1 h) (fun q15 => if q15.1 ≤ a2 then K a2 q15.2 else gd (hK q15.2 a0 = 1) (gd (hK q15.2 (hR q15.2 a0 0) = 12) (gd (¬ (((hI q15.2 a0 2) + a2) < 0 ∨ hL q15.2 (hR q15.2 a0 0) ≤ ((hI q15.2 a0 2) + a2).toNatClampNeg)) (gd (a1 < 14) (Option.bind (f_Sg_charAt a1 a2 q15.2) (fun q21 => if (hI q15.2 (hR q15.2 a0 0) ((hI q15.2 a0 2) + a2).toNatClampNeg) = q21.1 then f_Re_spells_L20 a0 a1 n (a2 + (1 : Int32)) q21.2 K else some ((0 : Int32), q21.2))))))))
def f_Re_spells (a0 : Nat) (a1 : Nat) (h : xH) : Option (Int32 × xH) := gd (a1 < 14) (Option.bind (f_Sg_length a1 h) (fun q11 => gd (hK q11.2 a0 = 1) (if q11.1 = ((hI q11.2 a0 3) - (hI q11.2 a0 2)) then f_Re_spells_L20 a0 a1 fu (0 : Int32) q11.2 (fun v24 h25 => some ((1 : Int32), h25)) else some ((0 : Int32), q11.2))))
theorem t_Re_spells_L20 {l : Launch} {z : xZ} {d mc ms : Nat} {Ph : Option xV → xH → Prop} {a0 : Nat} {a1 : Nat}  (hd : 5 ≤ d) : ∀ (n : Nat) (a2 : Int32) (h : xH) (K : Int32 → xH → Option (Int32 × xH)), OK (f_Re_spells_L20 a0 a1 n a2 h K) (fun q => Ph (some (xI q.1)) q.2) → (∀ (a2 : Int32) (h : xH), OK (K a2 h) (fun q => Ph (some (xI q.1)) q.2) → Sx l z d mc ms M_Re_spells 55 [some (xR a0), some (xS a1), some (xI a2)] [] h Ph) → Sx l z d mc ms M_Re_spells 20 [some (xR a0), some (xS a1), some (xI a2)] [] h Ph := by
  intro n
  induction n with
  | zero => intro a2 h K hk hE; exact hk.no
  | succ n ih =>
    intro a2 h K hk hE
    rw [f_Re_spells_L20] at hk
    refine sx_iload_n dc_Re_spells_20 rfl ?_
    refine sx_aload_n dc_Re_spells_21 rfl ?_
    obtain ⟨g16, hk⟩ := hk.g
    obtain ⟨q15, eq15, hk⟩ := hk.bind
    refine sx_callX (d2 := d - 1) (mc2 := 0) (ms2 := 0) (as := []) mk_Sg_length rfl g16 rfl wM_Re_115 mi_Sg_length me_Sg_length rfl (Nat.le_of_ble_eq_true rfl) (Nat.le_of_ble_eq_true rfl) dc_Re_spells_22 (by omega) (Nat.zero_le _) (Nat.zero_le _) ?_
    refine t_Sg_length (by omega) ⟨q15, eq15, ?_⟩
    refine sx_eq0 (lc2 := [some (xR a0), some (xS a1), some (xI a2)]) (st2 := [xI q15.1, xI a2]) rfl rfl ?_
    refine sx_icmp_ge (tgt := 55) dc_Re_spells_25 (by decide) (fun c17 => ?_) (fun c17 => ?_)
    · replace hk := hk.t c17
      exact hE a2 q15.2 hk
    · replace hk := hk.f c17
      refine sx_aload_n dc_Re_spells_28 rfl ?_
      obtain ⟨g18, hk⟩ := hk.g
      refine sx_get (ci := 1) (k := 0) rfl (by decide) wF_Re_11 g18 dc_Re_spells_29 ?_
      refine sx_aload_n dc_Re_spells_32 rfl ?_
      refine sx_get (ci := 1) (k := 2) rfl (by decide) wF_Re_57 g18 dc_Re_spells_33 ?_
      refine sx_iload_n dc_Re_spells_36 rfl ?_
      refine sx_iadd dc_Re_spells_37 ?_
      obtain ⟨g19, hk⟩ := hk.g
      obtain ⟨g20, hk⟩ := hk.g
      refine sx_iald g19 g20 dc_Re_spells_38 ?_
      refine sx_aload_n dc_Re_spells_39 rfl ?_
      refine sx_iload_n dc_Re_spells_40 rfl ?_
      obtain ⟨g22, hk⟩ := hk.g
      obtain ⟨q21, eq21, hk⟩ := hk.bind
      refine sx_callX (d2 := d - 1) (mc2 := 0) (ms2 := 0) (as := [xI a2]) mk_Sg_charAt rfl g22 rfl wM_Re_120 mi_Sg_charAt me_Sg_charAt rfl (Nat.le_of_ble_eq_true rfl) (Nat.le_of_ble_eq_true rfl) dc_Re_spells_41 (by omega) (Nat.zero_le _) (Nat.zero_le _) ?_
      refine t_Sg_charAt (by omega) ⟨q21, eq21, ?_⟩
      refine sx_eq0 (lc2 := [some (xR a0), some (xS a1), some (xI a2)]) (st2 := [xI q21.1, xI (hI q15.2 (hR q15.2 a0 0) ((hI q15.2 a0 2) + a2).toNatClampNeg)]) rfl rfl ?_
      refine sx_icmp_eq (tgt := 49) dc_Re_spells_44 (by decide) (fun c23 => ?_) (fun c23 => ?_)
      · replace hk := hk.t c23
        refine sx_iinc (v := (1 : Int32)) dc_Re_spells_49 rfl (by decide) (by decide) (sx_eq (lc2 := [some (xR a0), some (xS a1), some (xI (a2 + (1 : Int32)))]) rfl rfl ?_)
        refine sx_goto (tgt := 20) dc_Re_spells_52 (by decide) ?_
        exact ih (a2 + (1 : Int32)) q21.2 _ hk hE
      · replace hk := hk.f c23
        refine sx_iconst (v := (0 : Int32)) dc_Re_spells_47 (by decide) ?_
        exact sx_retT (v := (0 : Int32)) dc_Re_spells_48 (Or.inl ⟨rfl, rfl⟩) (by decide) hk.val
theorem t_Re_spells {l : Launch} {z : xZ} {d mc ms : Nat} {Ph : Option xV → xH → Prop} {a0 : Nat} {a1 : Nat}  {h : xH} (hd : 5 ≤ d) (hk : OK (f_Re_spells a0 a1 h) (fun q => Ph (some (xI q.1)) q.2)) : Sx l z d mc ms M_Re_spells 0 (x_en [xR a0, xS a1] 3) [] h Ph := by
  unfold f_Re_spells at hk
  refine sx_eq (lc2 := [some (xR a0), some (xS a1), none]) rfl rfl ?_
  refine sx_aload_n dc_Re_spells_0 rfl ?_
  obtain ⟨g12, hk⟩ := hk.g
  obtain ⟨q11, eq11, hk⟩ := hk.bind
  refine sx_callX (d2 := d - 1) (mc2 := 0) (ms2 := 0) (as := []) mk_Sg_length rfl g12 rfl wM_Re_115 mi_Sg_length me_Sg_length rfl (Nat.le_of_ble_eq_true rfl) (Nat.le_of_ble_eq_true rfl) dc_Re_spells_1 (by omega) (Nat.zero_le _) (Nat.zero_le _) ?_
  refine t_Sg_length (by omega) ⟨q11, eq11, ?_⟩
  refine sx_eq0 (lc2 := [some (xR a0), some (xS a1), none]) (st2 := [xI q11.1]) rfl rfl ?_
  refine sx_aload_n dc_Re_spells_4 rfl ?_
  obtain ⟨g13, hk⟩ := hk.g
  refine sx_get (ci := 1) (k := 3) rfl (by decide) wF_Re_44 g13 dc_Re_spells_5 ?_
  refine sx_aload_n dc_Re_spells_8 rfl ?_
  refine sx_get (ci := 1) (k := 2) rfl (by decide) wF_Re_57 g13 dc_Re_spells_9 ?_
  refine sx_isub dc_Re_spells_12 ?_
  refine sx_icmp_eq (tgt := 18) dc_Re_spells_13 (by decide) (fun c14 => ?_) (fun c14 => ?_)
  · replace hk := hk.t c14
    refine sx_iconst (v := (0 : Int32)) dc_Re_spells_18 (by decide) ?_
    refine sx_istore_n dc_Re_spells_19 (by decide) (sx_eq (lc2 := [some (xR a0), some (xS a1), some (xI (0 : Int32))]) rfl rfl ?_)
    refine t_Re_spells_L20 (by omega) _ _ _ _ hk (fun v24 h25 hk => ?_)
    refine sx_iconst (v := (1 : Int32)) dc_Re_spells_55 (by decide) ?_
    exact sx_retT (v := (1 : Int32)) dc_Re_spells_56 (Or.inl ⟨rfl, rfl⟩) (by decide) hk.val
  · replace hk := hk.f c14
    refine sx_iconst (v := (0 : Int32)) dc_Re_spells_16 (by decide) ?_
    exact sx_retT (v := (0 : Int32)) dc_Re_spells_17 (Or.inl ⟨rfl, rfl⟩) (by decide) hk.val
theorem dc_Re_wordToken_0 : decode M_Re_wordToken.2.1 0 = .ok (.aload_n 0, 1) := by decide +kernel
theorem dc_Re_wordToken_1 : decode M_Re_wordToken.2.1 1 = .ok (.getfield 44, 3) := by decide +kernel
theorem dc_Re_wordToken_4 : decode M_Re_wordToken.2.1 4 = .ok (.aload_n 0, 1) := by decide +kernel
theorem dc_Re_wordToken_5 : decode M_Re_wordToken.2.1 5 = .ok (.getfield 23, 3) := by decide +kernel
theorem dc_Re_wordToken_8 : decode M_Re_wordToken.2.1 8 = .ok (.if_icmp .ge 31, 3) := by decide +kernel
theorem dc_Re_wordToken_11 : decode M_Re_wordToken.2.1 11 = .ok (.aload_n 0, 1) := by decide +kernel
theorem dc_Re_wordToken_12 : decode M_Re_wordToken.2.1 12 = .ok (.getfield 11, 3) := by decide +kernel
theorem dc_Re_wordToken_15 : decode M_Re_wordToken.2.1 15 = .ok (.aload_n 0, 1) := by decide +kernel
theorem dc_Re_wordToken_16 : decode M_Re_wordToken.2.1 16 = .ok (.getfield 44, 3) := by decide +kernel
theorem dc_Re_wordToken_19 : decode M_Re_wordToken.2.1 19 = .ok (.iaload, 1) := by decide +kernel
theorem dc_Re_wordToken_20 : decode M_Re_wordToken.2.1 20 = .ok (.invokestatic 91, 3) := by decide +kernel
theorem dc_Re_wordToken_23 : decode M_Re_wordToken.2.1 23 = .ok (.ifCond .eq 16, 3) := by decide +kernel
theorem dc_Re_wordToken_26 : decode M_Re_wordToken.2.1 26 = .ok (.aload_n 0, 1) := by decide +kernel
theorem dc_Re_wordToken_27 : decode M_Re_wordToken.2.1 27 = .ok (.dup, 1) := by decide +kernel
theorem dc_Re_wordToken_28 : decode M_Re_wordToken.2.1 28 = .ok (.getfield 44, 3) := by decide +kernel
theorem dc_Re_wordToken_31 : decode M_Re_wordToken.2.1 31 = .ok (.iconst 1, 1) := by decide +kernel
theorem dc_Re_wordToken_32 : decode M_Re_wordToken.2.1 32 = .ok (.iadd, 1) := by decide +kernel
theorem dc_Re_wordToken_33 : decode M_Re_wordToken.2.1 33 = .ok (.putfield 44, 3) := by decide +kernel
theorem dc_Re_wordToken_36 : decode M_Re_wordToken.2.1 36 = .ok (.goto (-36), 3) := by decide +kernel
theorem dc_Re_wordToken_39 : decode M_Re_wordToken.2.1 39 = .ok (.iconst 0, 1) := by decide +kernel
theorem dc_Re_wordToken_40 : decode M_Re_wordToken.2.1 40 = .ok (.istore_n 1, 1) := by decide +kernel
theorem dc_Re_wordToken_41 : decode M_Re_wordToken.2.1 41 = .ok (.iload_n 1, 1) := by decide +kernel
theorem dc_Re_wordToken_42 : decode M_Re_wordToken.2.1 42 = .ok (.bipush 12, 2) := by decide +kernel
theorem dc_Re_wordToken_44 : decode M_Re_wordToken.2.1 44 = .ok (.if_icmp .ge 26, 3) := by decide +kernel
theorem dc_Re_wordToken_47 : decode M_Re_wordToken.2.1 47 = .ok (.aload_n 0, 1) := by decide +kernel
theorem dc_Re_wordToken_48 : decode M_Re_wordToken.2.1 48 = .ok (.iload_n 1, 1) := by decide +kernel
theorem dc_Re_wordToken_49 : decode M_Re_wordToken.2.1 49 = .ok (.invokestatic 107, 3) := by decide +kernel
theorem dc_Re_wordToken_52 : decode M_Re_wordToken.2.1 52 = .ok (.invokevirtual 111, 3) := by decide +kernel
theorem dc_Re_wordToken_55 : decode M_Re_wordToken.2.1 55 = .ok (.ifCond .eq 9, 3) := by decide +kernel
theorem dc_Re_wordToken_58 : decode M_Re_wordToken.2.1 58 = .ok (.sipush 256, 3) := by decide +kernel
theorem dc_Re_wordToken_61 : decode M_Re_wordToken.2.1 61 = .ok (.iload_n 1, 1) := by decide +kernel
theorem dc_Re_wordToken_62 : decode M_Re_wordToken.2.1 62 = .ok (.iadd, 1) := by decide +kernel
theorem dc_Re_wordToken_63 : decode M_Re_wordToken.2.1 63 = .ok (.ireturn, 1) := by decide +kernel
theorem dc_Re_wordToken_64 : decode M_Re_wordToken.2.1 64 = .ok (.iinc 1 1, 3) := by decide +kernel
theorem dc_Re_wordToken_67 : decode M_Re_wordToken.2.1 67 = .ok (.goto (-26), 3) := by decide +kernel
theorem dc_Re_wordToken_70 : decode M_Re_wordToken.2.1 70 = .ok (.iconst 2, 1) := by decide +kernel
theorem dc_Re_wordToken_71 : decode M_Re_wordToken.2.1 71 = .ok (.ireturn, 1) := by decide +kernel
def f_Re_wordToken_L0 (a0 : Nat) : Nat → xH → (xH → Option (Int32 × xH)) → Option (Int32 × xH)
  | 0, _, _ => none
  | n + 1, h, K => gd (hK h a0 = 1) (if (hI h a0 1) ≤ (hI h a0 3) then K h else gd (hK h (hR h a0 0) = 12) (gd (¬ ((hI h a0 3) < 0 ∨ hL h (hR h a0 0) ≤ (hI h a0 3).toNatClampNeg)) (Option.bind (f_Re_isLetter (hI h (hR h a0 0) (hI h a0 3).toNatClampNeg) h) (fun q13 => if q13.1 = 0 then K q13.2 else gd (hK q13.2 a0 = 1) (f_Re_wordToken_L0 a0 n (hIu q13.2 a0 3 ((hI q13.2 a0 3) + (1 : Int32))) K)))))
def f_Re_wordToken_L41 (a0 : Nat) : Nat → Int32 → xH → (Int32 → xH → Option (Int32 × xH)) → Option (Int32 × xH)
  | 0, _, _, _ => none
  | n + 1, a1, h, K => if (12 : Int32) ≤ a1 then K a1 h else Option.bind (f_Re_wordOf a1 h) (fun q18 => gd (hK q18.2 a0 = 1) (Option.bind (f_Re_spells a0 q18.1 q18.2) (fun q19 => if q19.1 = 0 then f_Re_wordToken_L41 a0 n (a1 + (1 : Int32)) q19.2 K else some ((256 : Int32) + a1, q19.2))))
def f_Re_wordToken (a0 : Nat) (h : xH) : Option (Int32 × xH) := f_Re_wordToken_L0 a0 fu h (fun h16 => f_Re_wordToken_L41 a0 fu (0 : Int32) h16 (fun v22 h23 => some ((2 : Int32), h23)))
theorem t_Re_wordToken_L0 {l : Launch} {z : xZ} {d mc ms : Nat} {Ph : Option xV → xH → Prop} {a0 : Nat}  (hd : 2 ≤ d) : ∀ (n : Nat)  (h : xH) (K : xH → Option (Int32 × xH)), OK (f_Re_wordToken_L0 a0 n h K) (fun q => Ph (some (xI q.1)) q.2) → (∀  (h : xH), OK (K  h) (fun q => Ph (some (xI q.1)) q.2) → Sx l z d mc ms M_Re_wordToken 39 [some (xR a0), none] [] h Ph) → Sx l z d mc ms M_Re_wordToken 0 [some (xR a0), none] [] h Ph := by
  intro n
  induction n with
  | zero => intro  h K hk hE; exact hk.no
  | succ n ih =>
    intro  h K hk hE
    rw [f_Re_wordToken_L0] at hk
    refine sx_aload_n dc_Re_wordToken_0 rfl ?_
    obtain ⟨g9, hk⟩ := hk.g
    refine sx_get (ci := 1) (k := 3) rfl (by decide) wF_Re_44 g9 dc_Re_wordToken_1 ?_
    refine sx_aload_n dc_Re_wordToken_4 rfl ?_
    refine sx_get (ci := 1) (k := 1) rfl (by decide) wF_Re_23 g9 dc_Re_wordToken_5 ?_
    refine sx_icmp_ge (tgt := 39) dc_Re_wordToken_8 (by decide) (fun c10 => ?_) (fun c10 => ?_)
    · replace hk := hk.t c10
      exact hE  h hk
    · replace hk := hk.f c10
      refine sx_aload_n dc_Re_wordToken_11 rfl ?_
      refine sx_get (ci := 1) (k := 0) rfl (by decide) wF_Re_11 g9 dc_Re_wordToken_12 ?_
      refine sx_aload_n dc_Re_wordToken_15 rfl ?_
      refine sx_get (ci := 1) (k := 3) rfl (by decide) wF_Re_44 g9 dc_Re_wordToken_16 ?_
      obtain ⟨g11, hk⟩ := hk.g
      obtain ⟨g12, hk⟩ := hk.g
      refine sx_iald g11 g12 dc_Re_wordToken_19 ?_
      obtain ⟨q13, eq13, hk⟩ := hk.bind
      refine sx_callS (d2 := d - 1) (mc2 := 0) (ms2 := 0) (as := [xI (hI h (hR h a0 0) (hI h a0 3).toNatClampNeg)]) mk_Re_isLetter rfl wM_Re_91 mt_Re_isLetter rfl (Nat.le_of_ble_eq_true rfl) (Nat.le_of_ble_eq_true rfl) dc_Re_wordToken_20 (by omega) (Nat.zero_le _) (Nat.zero_le _) ?_
      refine t_Re_isLetter (by omega) ⟨q13, eq13, ?_⟩
      refine sx_eq0 (lc2 := [some (xR a0), none]) (st2 := [xI q13.1]) rfl rfl ?_
      refine sx_if_eq (tgt := 39) dc_Re_wordToken_23 (by decide) (fun c14 => ?_) (fun c14 => ?_)
      · replace hk := hk.t c14
        exact hE  q13.2 hk
      · replace hk := hk.f c14
        refine sx_aload_n dc_Re_wordToken_26 rfl ?_
        refine sx_dup dc_Re_wordToken_27 rfl ?_
        obtain ⟨g15, hk⟩ := hk.g
        refine sx_get (ci := 1) (k := 3) rfl (by decide) wF_Re_44 g15 dc_Re_wordToken_28 ?_
        refine sx_iconst (v := (1 : Int32)) dc_Re_wordToken_31 (by decide) ?_
        refine sx_iadd dc_Re_wordToken_32 ?_
        refine sx_putI (ci := 1) (k := 3) rfl (by decide) wF_Re_44 rfl g15 (Or.inl rfl) dc_Re_wordToken_33 ?_
        refine sx_goto (tgt := 0) dc_Re_wordToken_36 (by decide) ?_
        exact ih  (hIu q13.2 a0 3 ((hI q13.2 a0 3) + (1 : Int32))) _ hk hE
theorem t_Re_wordToken_L41 {l : Launch} {z : xZ} {d mc ms : Nat} {Ph : Option xV → xH → Prop} {a0 : Nat}  (hd : 6 ≤ d) : ∀ (n : Nat) (a1 : Int32) (h : xH) (K : Int32 → xH → Option (Int32 × xH)), OK (f_Re_wordToken_L41 a0 n a1 h K) (fun q => Ph (some (xI q.1)) q.2) → (∀ (a1 : Int32) (h : xH), OK (K a1 h) (fun q => Ph (some (xI q.1)) q.2) → Sx l z d mc ms M_Re_wordToken 70 [some (xR a0), some (xI a1)] [] h Ph) → Sx l z d mc ms M_Re_wordToken 41 [some (xR a0), some (xI a1)] [] h Ph := by
  intro n
  induction n with
  | zero => intro a1 h K hk hE; exact hk.no
  | succ n ih =>
    intro a1 h K hk hE
    rw [f_Re_wordToken_L41] at hk
    refine sx_iload_n dc_Re_wordToken_41 rfl ?_
    refine sx_bipush (v := (12 : Int32)) dc_Re_wordToken_42 (by decide) ?_
    refine sx_icmp_ge (tgt := 70) dc_Re_wordToken_44 (by decide) (fun c17 => ?_) (fun c17 => ?_)
    · replace hk := hk.t c17
      exact hE a1 h hk
    · replace hk := hk.f c17
      refine sx_aload_n dc_Re_wordToken_47 rfl ?_
      refine sx_iload_n dc_Re_wordToken_48 rfl ?_
      obtain ⟨q18, eq18, hk⟩ := hk.bind
      refine sx_callS (d2 := d - 1) (mc2 := 0) (ms2 := 0) (as := [xI a1]) mk_Re_wordOf rfl wM_Re_107 mt_Re_wordOf rfl (Nat.le_of_ble_eq_true rfl) (Nat.le_of_ble_eq_true rfl) dc_Re_wordToken_49 (by omega) (Nat.zero_le _) (Nat.zero_le _) ?_
      refine t_Re_wordOf (by omega) ⟨q18, eq18, ?_⟩
      refine sx_eq0 (lc2 := [some (xR a0), some (xI a1)]) (st2 := [xS q18.1, xR a0]) rfl rfl ?_
      obtain ⟨g20, hk⟩ := hk.g
      obtain ⟨q19, eq19, hk⟩ := hk.bind
      refine sx_callV (d2 := d - 1) (mc2 := 0) (ms2 := 0) (as := [xS q18.1]) mk_Re_spells rfl (x_rk (ci := 1) g20 rfl rfl) wM_Re_111 mi_Re_spells me_Re_spells rfl (Nat.le_of_ble_eq_true rfl) (Nat.le_of_ble_eq_true rfl) dc_Re_wordToken_52 (by omega) (Nat.zero_le _) (Nat.zero_le _) ?_
      refine t_Re_spells (by omega) ⟨q19, eq19, ?_⟩
      refine sx_eq0 (lc2 := [some (xR a0), some (xI a1)]) (st2 := [xI q19.1]) rfl rfl ?_
      refine sx_if_eq (tgt := 64) dc_Re_wordToken_55 (by decide) (fun c21 => ?_) (fun c21 => ?_)
      · replace hk := hk.t c21
        refine sx_iinc (v := (1 : Int32)) dc_Re_wordToken_64 rfl (by decide) (by decide) (sx_eq (lc2 := [some (xR a0), some (xI (a1 + (1 : Int32)))]) rfl rfl ?_)
        refine sx_goto (tgt := 41) dc_Re_wordToken_67 (by decide) ?_
        exact ih (a1 + (1 : Int32)) q19.2 _ hk hE
      · replace hk := hk.f c21
        refine sx_sipush (v := (256 : Int32)) dc_Re_wordToken_58 (by decide) ?_
        refine sx_iload_n dc_Re_wordToken_61 rfl ?_
        refine sx_iadd dc_Re_wordToken_62 ?_
        exact sx_retI dc_Re_wordToken_63 rfl hk.val
theorem t_Re_wordToken {l : Launch} {z : xZ} {d mc ms : Nat} {Ph : Option xV → xH → Prop} {a0 : Nat}  {h : xH} (hd : 6 ≤ d) (hk : OK (f_Re_wordToken a0 h) (fun q => Ph (some (xI q.1)) q.2)) : Sx l z d mc ms M_Re_wordToken 0 (x_en [xR a0] 2) [] h Ph := by
  unfold f_Re_wordToken at hk
  refine sx_eq (lc2 := [some (xR a0), none]) rfl rfl ?_
  refine t_Re_wordToken_L0 (by omega) _  _ _ hk (fun  h16 hk => ?_)
  refine sx_iconst (v := (0 : Int32)) dc_Re_wordToken_39 (by decide) ?_
  refine sx_istore_n dc_Re_wordToken_40 (by decide) (sx_eq (lc2 := [some (xR a0), some (xI (0 : Int32))]) rfl rfl ?_)
  refine t_Re_wordToken_L41 (by omega) _ _ _ _ hk (fun v22 h23 hk => ?_)
  refine sx_iconst (v := (2 : Int32)) dc_Re_wordToken_70 (by decide) ?_
  exact sx_retI dc_Re_wordToken_71 rfl hk.val
theorem dc_Re_isDigit_0 : decode M_Re_isDigit.2.1 0 = .ok (.iload_n 0, 1) := by decide +kernel
theorem dc_Re_isDigit_1 : decode M_Re_isDigit.2.1 1 = .ok (.bipush 48, 2) := by decide +kernel
theorem dc_Re_isDigit_3 : decode M_Re_isDigit.2.1 3 = .ok (.if_icmp .lt 13, 3) := by decide +kernel
theorem dc_Re_isDigit_6 : decode M_Re_isDigit.2.1 6 = .ok (.iload_n 0, 1) := by decide +kernel
theorem dc_Re_isDigit_7 : decode M_Re_isDigit.2.1 7 = .ok (.bipush 57, 2) := by decide +kernel
theorem dc_Re_isDigit_9 : decode M_Re_isDigit.2.1 9 = .ok (.if_icmp .gt 7, 3) := by decide +kernel
theorem dc_Re_isDigit_12 : decode M_Re_isDigit.2.1 12 = .ok (.iconst 1, 1) := by decide +kernel
theorem dc_Re_isDigit_13 : decode M_Re_isDigit.2.1 13 = .ok (.goto 4, 3) := by decide +kernel
theorem dc_Re_isDigit_16 : decode M_Re_isDigit.2.1 16 = .ok (.iconst 0, 1) := by decide +kernel
theorem dc_Re_isDigit_17 : decode M_Re_isDigit.2.1 17 = .ok (.ireturn, 1) := by decide +kernel
def f_Re_isDigit (a0 : Int32) (h : xH) : Option (Int32 × xH) := jn (fun (x1 : Int32) => some (nb x1, h)) (fun k2 => jn (fun (x3 : Unit) => k2 (0 : Int32)) (fun k4 => if a0 < (48 : Int32) then k4 () else if (57 : Int32) < a0 then k4 () else k2 (1 : Int32)))
theorem t_Re_isDigit {l : Launch} {z : xZ} {d mc ms : Nat} {Ph : Option xV → xH → Prop} {a0 : Int32}  {h : xH} (hd : 1 ≤ d) (hk : OK (f_Re_isDigit a0 h) (fun q => Ph (some (xI q.1)) q.2)) : Sx l z d mc ms M_Re_isDigit 0 (x_en [xI a0] 1) [] h Ph := by
  unfold f_Re_isDigit at hk
  refine sx_eq (lc2 := [some (xI a0)]) rfl rfl ?_
  refine sx_iload_n dc_Re_isDigit_0 rfl ?_
  refine sx_bipush (v := (48 : Int32)) dc_Re_isDigit_1 (by decide) ?_
  refine hk.j (X := fun x1 => Sx l z d mc ms M_Re_isDigit 17 [some (xI a0)] [xI x1] h Ph) (fun x1 hk => ?_) (fun k2 jk2 hk => ?_)
  · exact sx_retT dc_Re_isDigit_17 (Or.inl ⟨rfl, rfl⟩) rfl hk.val
  · refine hk.j (X := fun x3 => Sx l z d mc ms M_Re_isDigit 16 [some (xI a0)] [] h Ph) (fun x3 hk => ?_) (fun k4 jk4 hk => ?_)
    · refine sx_iconst (v := (0 : Int32)) dc_Re_isDigit_16 (by decide) ?_
      exact jk2 (0 : Int32) hk
    · refine sx_icmp_lt (tgt := 16) dc_Re_isDigit_3 (by decide) (fun c5 => ?_) (fun c5 => ?_)
      · replace hk := hk.t c5
        exact jk4 () hk
      · replace hk := hk.f c5
        refine sx_iload_n dc_Re_isDigit_6 rfl ?_
        refine sx_bipush (v := (57 : Int32)) dc_Re_isDigit_7 (by decide) ?_
        refine sx_icmp_gt (tgt := 16) dc_Re_isDigit_9 (by decide) (fun c6 => ?_) (fun c6 => ?_)
        · replace hk := hk.t c6
          exact jk4 () hk
        · replace hk := hk.f c6
          refine sx_iconst (v := (1 : Int32)) dc_Re_isDigit_12 (by decide) ?_
          refine sx_goto (tgt := 17) dc_Re_isDigit_13 (by decide) ?_
          exact jk2 (1 : Int32) hk
theorem dc_Re_numberToken_0 : decode M_Re_numberToken.2.1 0 = .ok (.aload_n 0, 1) := by decide +kernel
theorem dc_Re_numberToken_1 : decode M_Re_numberToken.2.1 1 = .ok (.iconst 0, 1) := by decide +kernel
theorem dc_Re_numberToken_2 : decode M_Re_numberToken.2.1 2 = .ok (.putfield 88, 3) := by decide +kernel
theorem dc_Re_numberToken_5 : decode M_Re_numberToken.2.1 5 = .ok (.aload_n 0, 1) := by decide +kernel
theorem dc_Re_numberToken_6 : decode M_Re_numberToken.2.1 6 = .ok (.getfield 44, 3) := by decide +kernel
theorem dc_Re_numberToken_9 : decode M_Re_numberToken.2.1 9 = .ok (.aload_n 0, 1) := by decide +kernel
theorem dc_Re_numberToken_10 : decode M_Re_numberToken.2.1 10 = .ok (.getfield 23, 3) := by decide +kernel
theorem dc_Re_numberToken_13 : decode M_Re_numberToken.2.1 13 = .ok (.if_icmp .ge 55, 3) := by decide +kernel
theorem dc_Re_numberToken_16 : decode M_Re_numberToken.2.1 16 = .ok (.aload_n 0, 1) := by decide +kernel
theorem dc_Re_numberToken_17 : decode M_Re_numberToken.2.1 17 = .ok (.getfield 11, 3) := by decide +kernel
theorem dc_Re_numberToken_20 : decode M_Re_numberToken.2.1 20 = .ok (.aload_n 0, 1) := by decide +kernel
theorem dc_Re_numberToken_21 : decode M_Re_numberToken.2.1 21 = .ok (.getfield 44, 3) := by decide +kernel
theorem dc_Re_numberToken_24 : decode M_Re_numberToken.2.1 24 = .ok (.iaload, 1) := by decide +kernel
theorem dc_Re_numberToken_25 : decode M_Re_numberToken.2.1 25 = .ok (.invokestatic 98, 3) := by decide +kernel
theorem dc_Re_numberToken_28 : decode M_Re_numberToken.2.1 28 = .ok (.ifCond .eq 40, 3) := by decide +kernel
theorem dc_Re_numberToken_31 : decode M_Re_numberToken.2.1 31 = .ok (.aload_n 0, 1) := by decide +kernel
theorem dc_Re_numberToken_32 : decode M_Re_numberToken.2.1 32 = .ok (.aload_n 0, 1) := by decide +kernel
theorem dc_Re_numberToken_33 : decode M_Re_numberToken.2.1 33 = .ok (.getfield 88, 3) := by decide +kernel
theorem dc_Re_numberToken_36 : decode M_Re_numberToken.2.1 36 = .ok (.bipush 10, 2) := by decide +kernel
theorem dc_Re_numberToken_38 : decode M_Re_numberToken.2.1 38 = .ok (.imul, 1) := by decide +kernel
theorem dc_Re_numberToken_39 : decode M_Re_numberToken.2.1 39 = .ok (.aload_n 0, 1) := by decide +kernel
theorem dc_Re_numberToken_40 : decode M_Re_numberToken.2.1 40 = .ok (.getfield 11, 3) := by decide +kernel
theorem dc_Re_numberToken_43 : decode M_Re_numberToken.2.1 43 = .ok (.aload_n 0, 1) := by decide +kernel
theorem dc_Re_numberToken_44 : decode M_Re_numberToken.2.1 44 = .ok (.getfield 44, 3) := by decide +kernel
theorem dc_Re_numberToken_47 : decode M_Re_numberToken.2.1 47 = .ok (.iaload, 1) := by decide +kernel
theorem dc_Re_numberToken_48 : decode M_Re_numberToken.2.1 48 = .ok (.iadd, 1) := by decide +kernel
theorem dc_Re_numberToken_49 : decode M_Re_numberToken.2.1 49 = .ok (.bipush 48, 2) := by decide +kernel
theorem dc_Re_numberToken_51 : decode M_Re_numberToken.2.1 51 = .ok (.isub, 1) := by decide +kernel
theorem dc_Re_numberToken_52 : decode M_Re_numberToken.2.1 52 = .ok (.putfield 88, 3) := by decide +kernel
theorem dc_Re_numberToken_55 : decode M_Re_numberToken.2.1 55 = .ok (.aload_n 0, 1) := by decide +kernel
theorem dc_Re_numberToken_56 : decode M_Re_numberToken.2.1 56 = .ok (.dup, 1) := by decide +kernel
theorem dc_Re_numberToken_57 : decode M_Re_numberToken.2.1 57 = .ok (.getfield 44, 3) := by decide +kernel
theorem dc_Re_numberToken_60 : decode M_Re_numberToken.2.1 60 = .ok (.iconst 1, 1) := by decide +kernel
theorem dc_Re_numberToken_61 : decode M_Re_numberToken.2.1 61 = .ok (.iadd, 1) := by decide +kernel
theorem dc_Re_numberToken_62 : decode M_Re_numberToken.2.1 62 = .ok (.putfield 44, 3) := by decide +kernel
theorem dc_Re_numberToken_65 : decode M_Re_numberToken.2.1 65 = .ok (.goto (-60), 3) := by decide +kernel
theorem dc_Re_numberToken_68 : decode M_Re_numberToken.2.1 68 = .ok (.aload_n 0, 1) := by decide +kernel
theorem dc_Re_numberToken_69 : decode M_Re_numberToken.2.1 69 = .ok (.getfield 44, 3) := by decide +kernel
theorem dc_Re_numberToken_72 : decode M_Re_numberToken.2.1 72 = .ok (.aload_n 0, 1) := by decide +kernel
theorem dc_Re_numberToken_73 : decode M_Re_numberToken.2.1 73 = .ok (.getfield 57, 3) := by decide +kernel
theorem dc_Re_numberToken_76 : decode M_Re_numberToken.2.1 76 = .ok (.isub, 1) := by decide +kernel
theorem dc_Re_numberToken_77 : decode M_Re_numberToken.2.1 77 = .ok (.iconst 4, 1) := by decide +kernel
theorem dc_Re_numberToken_78 : decode M_Re_numberToken.2.1 78 = .ok (.if_icmp .le 7, 3) := by decide +kernel
theorem dc_Re_numberToken_81 : decode M_Re_numberToken.2.1 81 = .ok (.iconst 2, 1) := by decide +kernel
theorem dc_Re_numberToken_82 : decode M_Re_numberToken.2.1 82 = .ok (.goto 4, 3) := by decide +kernel
theorem dc_Re_numberToken_85 : decode M_Re_numberToken.2.1 85 = .ok (.iconst 1, 1) := by decide +kernel
theorem dc_Re_numberToken_86 : decode M_Re_numberToken.2.1 86 = .ok (.ireturn, 1) := by decide +kernel
def f_Re_numberToken_L5 (a0 : Nat) : Nat → xH → (xH → Option (Int32 × xH)) → Option (Int32 × xH)
  | 0, _, _ => none
  | n + 1, h, K => gd (hK h a0 = 1) (if (hI h a0 1) ≤ (hI h a0 3) then K h else gd (hK h (hR h a0 0) = 12) (gd (¬ ((hI h a0 3) < 0 ∨ hL h (hR h a0 0) ≤ (hI h a0 3).toNatClampNeg)) (Option.bind (f_Re_isDigit (hI h (hR h a0 0) (hI h a0 3).toNatClampNeg) h) (fun q13 => if q13.1 = 0 then K q13.2 else gd (hK q13.2 a0 = 1) (gd (hK q13.2 (hR q13.2 a0 0) = 12) (gd (¬ ((hI q13.2 a0 3) < 0 ∨ hL q13.2 (hR q13.2 a0 0) ≤ (hI q13.2 a0 3).toNatClampNeg)) (hp (hIu (hIu q13.2 a0 5 ((((hI q13.2 a0 5) * (10 : Int32)) + (hI q13.2 (hR q13.2 a0 0) (hI q13.2 a0 3).toNatClampNeg)) - (48 : Int32))) a0 3 ((hI (hIu q13.2 a0 5 ((((hI q13.2 a0 5) * (10 : Int32)) + (hI q13.2 (hR q13.2 a0 0) (hI q13.2 a0 3).toNatClampNeg)) - (48 : Int32))) a0 3) + (1 : Int32))) (fun h18 => f_Re_numberToken_L5 a0 n h18 K))))))))
def f_Re_numberToken (a0 : Nat) (h : xH) : Option (Int32 × xH) := gd (hK h a0 = 1) (f_Re_numberToken_L5 a0 fu (hIu h a0 5 (0 : Int32)) (fun h21 => gd (hK h21 a0 = 1) (some ((if ((hI h21 a0 3) - (hI h21 a0 2)) ≤ (4 : Int32) then (1 : Int32) else (2 : Int32)), h21))))
theorem t_Re_numberToken_L5 {l : Launch} {z : xZ} {d mc ms : Nat} {Ph : Option xV → xH → Prop} {a0 : Nat}  (hd : 2 ≤ d) : ∀ (n : Nat)  (h : xH) (K : xH → Option (Int32 × xH)), OK (f_Re_numberToken_L5 a0 n h K) (fun q => Ph (some (xI q.1)) q.2) → (∀  (h : xH), OK (K  h) (fun q => Ph (some (xI q.1)) q.2) → Sx l z d mc ms M_Re_numberToken 68 [some (xR a0)] [] h Ph) → Sx l z d mc ms M_Re_numberToken 5 [some (xR a0)] [] h Ph := by
  intro n
  induction n with
  | zero => intro  h K hk hE; exact hk.no
  | succ n ih =>
    intro  h K hk hE
    rw [f_Re_numberToken_L5] at hk
    refine sx_aload_n dc_Re_numberToken_5 rfl ?_
    obtain ⟨g9, hk⟩ := hk.g
    refine sx_get (ci := 1) (k := 3) rfl (by decide) wF_Re_44 g9 dc_Re_numberToken_6 ?_
    refine sx_aload_n dc_Re_numberToken_9 rfl ?_
    refine sx_get (ci := 1) (k := 1) rfl (by decide) wF_Re_23 g9 dc_Re_numberToken_10 ?_
    refine sx_icmp_ge (tgt := 68) dc_Re_numberToken_13 (by decide) (fun c10 => ?_) (fun c10 => ?_)
    · replace hk := hk.t c10
      exact hE  h hk
    · replace hk := hk.f c10
      refine sx_aload_n dc_Re_numberToken_16 rfl ?_
      refine sx_get (ci := 1) (k := 0) rfl (by decide) wF_Re_11 g9 dc_Re_numberToken_17 ?_
      refine sx_aload_n dc_Re_numberToken_20 rfl ?_
      refine sx_get (ci := 1) (k := 3) rfl (by decide) wF_Re_44 g9 dc_Re_numberToken_21 ?_
      obtain ⟨g11, hk⟩ := hk.g
      obtain ⟨g12, hk⟩ := hk.g
      refine sx_iald g11 g12 dc_Re_numberToken_24 ?_
      obtain ⟨q13, eq13, hk⟩ := hk.bind
      refine sx_callS (d2 := d - 1) (mc2 := 0) (ms2 := 0) (as := [xI (hI h (hR h a0 0) (hI h a0 3).toNatClampNeg)]) mk_Re_isDigit rfl wM_Re_98 mt_Re_isDigit rfl (Nat.le_of_ble_eq_true rfl) (Nat.le_of_ble_eq_true rfl) dc_Re_numberToken_25 (by omega) (Nat.zero_le _) (Nat.zero_le _) ?_
      refine t_Re_isDigit (by omega) ⟨q13, eq13, ?_⟩
      refine sx_eq0 (lc2 := [some (xR a0)]) (st2 := [xI q13.1]) rfl rfl ?_
      refine sx_if_eq (tgt := 68) dc_Re_numberToken_28 (by decide) (fun c14 => ?_) (fun c14 => ?_)
      · replace hk := hk.t c14
        exact hE  q13.2 hk
      · replace hk := hk.f c14
        refine sx_aload_n dc_Re_numberToken_31 rfl ?_
        refine sx_aload_n dc_Re_numberToken_32 rfl ?_
        obtain ⟨g15, hk⟩ := hk.g
        refine sx_get (ci := 1) (k := 5) rfl (by decide) wF_Re_88 g15 dc_Re_numberToken_33 ?_
        refine sx_bipush (v := (10 : Int32)) dc_Re_numberToken_36 (by decide) ?_
        refine sx_imul dc_Re_numberToken_38 ?_
        refine sx_aload_n dc_Re_numberToken_39 rfl ?_
        refine sx_get (ci := 1) (k := 0) rfl (by decide) wF_Re_11 g15 dc_Re_numberToken_40 ?_
        refine sx_aload_n dc_Re_numberToken_43 rfl ?_
        refine sx_get (ci := 1) (k := 3) rfl (by decide) wF_Re_44 g15 dc_Re_numberToken_44 ?_
        obtain ⟨g16, hk⟩ := hk.g
        obtain ⟨g17, hk⟩ := hk.g
        refine sx_iald g16 g17 dc_Re_numberToken_47 ?_
        refine sx_iadd dc_Re_numberToken_48 ?_
        refine sx_bipush (v := (48 : Int32)) dc_Re_numberToken_49 (by decide) ?_
        refine sx_isub dc_Re_numberToken_51 ?_
        refine sx_putI (ci := 1) (k := 5) rfl (by decide) wF_Re_88 rfl g15 (Or.inl rfl) dc_Re_numberToken_52 ?_
        refine sx_aload_n dc_Re_numberToken_55 rfl ?_
        refine sx_dup dc_Re_numberToken_56 rfl ?_
        refine sx_get (ci := 1) (k := 3) rfl (by decide) wF_Re_44 g15 dc_Re_numberToken_57 ?_
        refine sx_iconst (v := (1 : Int32)) dc_Re_numberToken_60 (by decide) ?_
        refine sx_iadd dc_Re_numberToken_61 ?_
        refine sx_putI (ci := 1) (k := 3) rfl (by decide) wF_Re_44 rfl g15 (Or.inl rfl) dc_Re_numberToken_62 ?_
        obtain ⟨h18, eh18, hk⟩ := hk.h
        refine sx_hp eh18 ?_
        have g19 : hK h18 a0 = 1 := by rw [eh18]; exact g15
        have g20 : hK h18 (hR q13.2 a0 0) = 12 := by rw [eh18]; exact g16
        refine sx_goto (tgt := 5) dc_Re_numberToken_65 (by decide) ?_
        exact ih  h18 _ hk hE
theorem t_Re_numberToken {l : Launch} {z : xZ} {d mc ms : Nat} {Ph : Option xV → xH → Prop} {a0 : Nat}  {h : xH} (hd : 2 ≤ d) (hk : OK (f_Re_numberToken a0 h) (fun q => Ph (some (xI q.1)) q.2)) : Sx l z d mc ms M_Re_numberToken 0 (x_en [xR a0] 1) [] h Ph := by
  unfold f_Re_numberToken at hk
  refine sx_eq (lc2 := [some (xR a0)]) rfl rfl ?_
  refine sx_aload_n dc_Re_numberToken_0 rfl ?_
  refine sx_iconst (v := (0 : Int32)) dc_Re_numberToken_1 (by decide) ?_
  obtain ⟨g8, hk⟩ := hk.g
  refine sx_putI (ci := 1) (k := 5) rfl (by decide) wF_Re_88 rfl g8 (Or.inl rfl) dc_Re_numberToken_2 ?_
  refine t_Re_numberToken_L5 (by omega) _  _ _ hk (fun  h21 hk => ?_)
  refine sx_aload_n dc_Re_numberToken_68 rfl ?_
  obtain ⟨g22, hk⟩ := hk.g
  refine sx_get (ci := 1) (k := 3) rfl (by decide) wF_Re_44 g22 dc_Re_numberToken_69 ?_
  refine sx_aload_n dc_Re_numberToken_72 rfl ?_
  refine sx_get (ci := 1) (k := 2) rfl (by decide) wF_Re_57 g22 dc_Re_numberToken_73 ?_
  refine sx_isub dc_Re_numberToken_76 ?_
  refine sx_iconst (v := (4 : Int32)) dc_Re_numberToken_77 (by decide) ?_
  refine sx_mg (pc2 := 86) (lc2 := [some (xR a0)]) (st2 := [xI (if ((hI h21 a0 3) - (hI h21 a0 2)) ≤ (4 : Int32) then (1 : Int32) else (2 : Int32))]) (h2 := h21) ?_ (fun J23 => ?_)
  · exact sx_retI dc_Re_numberToken_86 rfl hk.val
  · refine sx_icmp_le (tgt := 85) dc_Re_numberToken_78 (by decide) (fun c24 => ?_) (fun c24 => ?_)
    · try simp only [if_pos c24] at J23
      refine sx_iconst (v := (1 : Int32)) dc_Re_numberToken_85 (by decide) ?_
      exact J23
    · try simp only [if_neg c24] at J23
      refine sx_iconst (v := (2 : Int32)) dc_Re_numberToken_81 (by decide) ?_
      refine sx_goto (tgt := 86) dc_Re_numberToken_82 (by decide) ?_
      exact J23
theorem dc_Re_isSign_0 : decode M_Re_isSign.2.1 0 = .ok (.iload_n 0, 1) := by decide +kernel
theorem dc_Re_isSign_1 : decode M_Re_isSign.2.1 1 = .ok (.bipush 40, 2) := by decide +kernel
theorem dc_Re_isSign_3 : decode M_Re_isSign.2.1 3 = .ok (.if_icmp .lt 9, 3) := by decide +kernel
theorem dc_Re_isSign_6 : decode M_Re_isSign.2.1 6 = .ok (.iload_n 0, 1) := by decide +kernel
theorem dc_Re_isSign_7 : decode M_Re_isSign.2.1 7 = .ok (.bipush 43, 2) := by decide +kernel
theorem dc_Re_isSign_9 : decode M_Re_isSign.2.1 9 = .ok (.if_icmp .le 21, 3) := by decide +kernel
theorem dc_Re_isSign_12 : decode M_Re_isSign.2.1 12 = .ok (.iload_n 0, 1) := by decide +kernel
theorem dc_Re_isSign_13 : decode M_Re_isSign.2.1 13 = .ok (.bipush 59, 2) := by decide +kernel
theorem dc_Re_isSign_15 : decode M_Re_isSign.2.1 15 = .ok (.if_icmp .lt 9, 3) := by decide +kernel
theorem dc_Re_isSign_18 : decode M_Re_isSign.2.1 18 = .ok (.iload_n 0, 1) := by decide +kernel
theorem dc_Re_isSign_19 : decode M_Re_isSign.2.1 19 = .ok (.bipush 61, 2) := by decide +kernel
theorem dc_Re_isSign_21 : decode M_Re_isSign.2.1 21 = .ok (.if_icmp .le 9, 3) := by decide +kernel
theorem dc_Re_isSign_24 : decode M_Re_isSign.2.1 24 = .ok (.iload_n 0, 1) := by decide +kernel
theorem dc_Re_isSign_25 : decode M_Re_isSign.2.1 25 = .ok (.bipush 45, 2) := by decide +kernel
theorem dc_Re_isSign_27 : decode M_Re_isSign.2.1 27 = .ok (.if_icmp .ne 7, 3) := by decide +kernel
theorem dc_Re_isSign_30 : decode M_Re_isSign.2.1 30 = .ok (.iconst 1, 1) := by decide +kernel
theorem dc_Re_isSign_31 : decode M_Re_isSign.2.1 31 = .ok (.goto 4, 3) := by decide +kernel
theorem dc_Re_isSign_34 : decode M_Re_isSign.2.1 34 = .ok (.iconst 0, 1) := by decide +kernel
theorem dc_Re_isSign_35 : decode M_Re_isSign.2.1 35 = .ok (.ireturn, 1) := by decide +kernel
def f_Re_isSign (a0 : Int32) (h : xH) : Option (Int32 × xH) := jn (fun (x1 : Int32) => some (nb x1, h)) (fun k2 => jn (fun (x3 : Unit) => k2 (1 : Int32)) (fun k4 => jn (fun (x5 : Unit) => jn (fun (x7 : Unit) => if a0 = (45 : Int32) then k4 () else k2 (0 : Int32)) (fun k8 => if a0 < (59 : Int32) then k8 () else if a0 ≤ (61 : Int32) then k4 () else k8 ())) (fun k6 => if a0 < (40 : Int32) then k6 () else if a0 ≤ (43 : Int32) then k4 () else k6 ())))
theorem t_Re_isSign {l : Launch} {z : xZ} {d mc ms : Nat} {Ph : Option xV → xH → Prop} {a0 : Int32}  {h : xH} (hd : 1 ≤ d) (hk : OK (f_Re_isSign a0 h) (fun q => Ph (some (xI q.1)) q.2)) : Sx l z d mc ms M_Re_isSign 0 (x_en [xI a0] 1) [] h Ph := by
  unfold f_Re_isSign at hk
  refine sx_eq (lc2 := [some (xI a0)]) rfl rfl ?_
  refine sx_iload_n dc_Re_isSign_0 rfl ?_
  refine sx_bipush (v := (40 : Int32)) dc_Re_isSign_1 (by decide) ?_
  refine hk.j (X := fun x1 => Sx l z d mc ms M_Re_isSign 35 [some (xI a0)] [xI x1] h Ph) (fun x1 hk => ?_) (fun k2 jk2 hk => ?_)
  · exact sx_retT dc_Re_isSign_35 (Or.inl ⟨rfl, rfl⟩) rfl hk.val
  · refine hk.j (X := fun x3 => Sx l z d mc ms M_Re_isSign 30 [some (xI a0)] [] h Ph) (fun x3 hk => ?_) (fun k4 jk4 hk => ?_)
    · refine sx_iconst (v := (1 : Int32)) dc_Re_isSign_30 (by decide) ?_
      refine sx_goto (tgt := 35) dc_Re_isSign_31 (by decide) ?_
      exact jk2 (1 : Int32) hk
    · refine hk.j (X := fun x5 => Sx l z d mc ms M_Re_isSign 12 [some (xI a0)] [] h Ph) (fun x5 hk => ?_) (fun k6 jk6 hk => ?_)
      · refine sx_iload_n dc_Re_isSign_12 rfl ?_
        refine sx_bipush (v := (59 : Int32)) dc_Re_isSign_13 (by decide) ?_
        refine hk.j (X := fun x7 => Sx l z d mc ms M_Re_isSign 24 [some (xI a0)] [] h Ph) (fun x7 hk => ?_) (fun k8 jk8 hk => ?_)
        · refine sx_iload_n dc_Re_isSign_24 rfl ?_
          refine sx_bipush (v := (45 : Int32)) dc_Re_isSign_25 (by decide) ?_
          refine sx_icmp_ne (tgt := 34) dc_Re_isSign_27 (by decide) (fun c9 => ?_) (fun c9 => ?_)
          · replace hk := hk.f c9
            refine sx_iconst (v := (0 : Int32)) dc_Re_isSign_34 (by decide) ?_
            exact jk2 (0 : Int32) hk
          · replace hk := hk.t c9
            exact jk4 () hk
        · refine sx_icmp_lt (tgt := 24) dc_Re_isSign_15 (by decide) (fun c10 => ?_) (fun c10 => ?_)
          · replace hk := hk.t c10
            exact jk8 () hk
          · replace hk := hk.f c10
            refine sx_iload_n dc_Re_isSign_18 rfl ?_
            refine sx_bipush (v := (61 : Int32)) dc_Re_isSign_19 (by decide) ?_
            refine sx_icmp_le (tgt := 30) dc_Re_isSign_21 (by decide) (fun c11 => ?_) (fun c11 => ?_)
            · replace hk := hk.t c11
              exact jk4 () hk
            · replace hk := hk.f c11
              exact jk8 () hk
      · refine sx_icmp_lt (tgt := 12) dc_Re_isSign_3 (by decide) (fun c12 => ?_) (fun c12 => ?_)
        · replace hk := hk.t c12
          exact jk6 () hk
        · replace hk := hk.f c12
          refine sx_iload_n dc_Re_isSign_6 rfl ?_
          refine sx_bipush (v := (43 : Int32)) dc_Re_isSign_7 (by decide) ?_
          refine sx_icmp_le (tgt := 30) dc_Re_isSign_9 (by decide) (fun c13 => ?_) (fun c13 => ?_)
          · replace hk := hk.t c13
            exact jk4 () hk
          · replace hk := hk.f c13
            exact jk6 () hk
theorem dc_Re_advance_0 : decode M_Re_advance.2.1 0 = .ok (.aload_n 0, 1) := by decide +kernel
theorem dc_Re_advance_1 : decode M_Re_advance.2.1 1 = .ok (.getfield 44, 3) := by decide +kernel
theorem dc_Re_advance_4 : decode M_Re_advance.2.1 4 = .ok (.aload_n 0, 1) := by decide +kernel
theorem dc_Re_advance_5 : decode M_Re_advance.2.1 5 = .ok (.getfield 23, 3) := by decide +kernel
theorem dc_Re_advance_8 : decode M_Re_advance.2.1 8 = .ok (.if_icmp .ge 44, 3) := by decide +kernel
theorem dc_Re_advance_11 : decode M_Re_advance.2.1 11 = .ok (.aload_n 0, 1) := by decide +kernel
theorem dc_Re_advance_12 : decode M_Re_advance.2.1 12 = .ok (.getfield 11, 3) := by decide +kernel
theorem dc_Re_advance_15 : decode M_Re_advance.2.1 15 = .ok (.aload_n 0, 1) := by decide +kernel
theorem dc_Re_advance_16 : decode M_Re_advance.2.1 16 = .ok (.getfield 44, 3) := by decide +kernel
theorem dc_Re_advance_19 : decode M_Re_advance.2.1 19 = .ok (.iaload, 1) := by decide +kernel
theorem dc_Re_advance_20 : decode M_Re_advance.2.1 20 = .ok (.bipush 32, 2) := by decide +kernel
theorem dc_Re_advance_22 : decode M_Re_advance.2.1 22 = .ok (.if_icmp .eq 17, 3) := by decide +kernel
theorem dc_Re_advance_25 : decode M_Re_advance.2.1 25 = .ok (.aload_n 0, 1) := by decide +kernel
theorem dc_Re_advance_26 : decode M_Re_advance.2.1 26 = .ok (.getfield 11, 3) := by decide +kernel
theorem dc_Re_advance_29 : decode M_Re_advance.2.1 29 = .ok (.aload_n 0, 1) := by decide +kernel
theorem dc_Re_advance_30 : decode M_Re_advance.2.1 30 = .ok (.getfield 44, 3) := by decide +kernel
theorem dc_Re_advance_33 : decode M_Re_advance.2.1 33 = .ok (.iaload, 1) := by decide +kernel
theorem dc_Re_advance_34 : decode M_Re_advance.2.1 34 = .ok (.bipush 10, 2) := by decide +kernel
theorem dc_Re_advance_36 : decode M_Re_advance.2.1 36 = .ok (.if_icmp .ne 16, 3) := by decide +kernel
theorem dc_Re_advance_39 : decode M_Re_advance.2.1 39 = .ok (.aload_n 0, 1) := by decide +kernel
theorem dc_Re_advance_40 : decode M_Re_advance.2.1 40 = .ok (.dup, 1) := by decide +kernel
theorem dc_Re_advance_41 : decode M_Re_advance.2.1 41 = .ok (.getfield 44, 3) := by decide +kernel
theorem dc_Re_advance_44 : decode M_Re_advance.2.1 44 = .ok (.iconst 1, 1) := by decide +kernel
theorem dc_Re_advance_45 : decode M_Re_advance.2.1 45 = .ok (.iadd, 1) := by decide +kernel
theorem dc_Re_advance_46 : decode M_Re_advance.2.1 46 = .ok (.putfield 44, 3) := by decide +kernel
theorem dc_Re_advance_49 : decode M_Re_advance.2.1 49 = .ok (.goto (-49), 3) := by decide +kernel
theorem dc_Re_advance_52 : decode M_Re_advance.2.1 52 = .ok (.aload_n 0, 1) := by decide +kernel
theorem dc_Re_advance_53 : decode M_Re_advance.2.1 53 = .ok (.aload_n 0, 1) := by decide +kernel
theorem dc_Re_advance_54 : decode M_Re_advance.2.1 54 = .ok (.getfield 44, 3) := by decide +kernel
theorem dc_Re_advance_57 : decode M_Re_advance.2.1 57 = .ok (.putfield 57, 3) := by decide +kernel
theorem dc_Re_advance_60 : decode M_Re_advance.2.1 60 = .ok (.aload_n 0, 1) := by decide +kernel
theorem dc_Re_advance_61 : decode M_Re_advance.2.1 61 = .ok (.getfield 57, 3) := by decide +kernel
theorem dc_Re_advance_64 : decode M_Re_advance.2.1 64 = .ok (.aload_n 0, 1) := by decide +kernel
theorem dc_Re_advance_65 : decode M_Re_advance.2.1 65 = .ok (.getfield 23, 3) := by decide +kernel
theorem dc_Re_advance_68 : decode M_Re_advance.2.1 68 = .ok (.if_icmp .lt 11, 3) := by decide +kernel
theorem dc_Re_advance_71 : decode M_Re_advance.2.1 71 = .ok (.aload_n 0, 1) := by decide +kernel
theorem dc_Re_advance_72 : decode M_Re_advance.2.1 72 = .ok (.iconst 0, 1) := by decide +kernel
theorem dc_Re_advance_73 : decode M_Re_advance.2.1 73 = .ok (.putfield 60, 3) := by decide +kernel
theorem dc_Re_advance_76 : decode M_Re_advance.2.1 76 = .ok (.goto 97, 3) := by decide +kernel
theorem dc_Re_advance_79 : decode M_Re_advance.2.1 79 = .ok (.aload_n 0, 1) := by decide +kernel
theorem dc_Re_advance_80 : decode M_Re_advance.2.1 80 = .ok (.getfield 11, 3) := by decide +kernel
theorem dc_Re_advance_83 : decode M_Re_advance.2.1 83 = .ok (.aload_n 0, 1) := by decide +kernel
theorem dc_Re_advance_84 : decode M_Re_advance.2.1 84 = .ok (.getfield 57, 3) := by decide +kernel
theorem dc_Re_advance_87 : decode M_Re_advance.2.1 87 = .ok (.iaload, 1) := by decide +kernel
theorem dc_Re_advance_88 : decode M_Re_advance.2.1 88 = .ok (.invokestatic 91, 3) := by decide +kernel
theorem dc_Re_advance_91 : decode M_Re_advance.2.1 91 = .ok (.ifCond .eq 14, 3) := by decide +kernel
theorem dc_Re_advance_94 : decode M_Re_advance.2.1 94 = .ok (.aload_n 0, 1) := by decide +kernel
theorem dc_Re_advance_95 : decode M_Re_advance.2.1 95 = .ok (.aload_n 0, 1) := by decide +kernel
theorem dc_Re_advance_96 : decode M_Re_advance.2.1 96 = .ok (.invokevirtual 94, 3) := by decide +kernel
theorem dc_Re_advance_99 : decode M_Re_advance.2.1 99 = .ok (.putfield 60, 3) := by decide +kernel
theorem dc_Re_advance_102 : decode M_Re_advance.2.1 102 = .ok (.goto 71, 3) := by decide +kernel
theorem dc_Re_advance_105 : decode M_Re_advance.2.1 105 = .ok (.aload_n 0, 1) := by decide +kernel
theorem dc_Re_advance_106 : decode M_Re_advance.2.1 106 = .ok (.getfield 11, 3) := by decide +kernel
theorem dc_Re_advance_109 : decode M_Re_advance.2.1 109 = .ok (.aload_n 0, 1) := by decide +kernel
theorem dc_Re_advance_110 : decode M_Re_advance.2.1 110 = .ok (.getfield 57, 3) := by decide +kernel
theorem dc_Re_advance_113 : decode M_Re_advance.2.1 113 = .ok (.iaload, 1) := by decide +kernel
theorem dc_Re_advance_114 : decode M_Re_advance.2.1 114 = .ok (.invokestatic 98, 3) := by decide +kernel
theorem dc_Re_advance_117 : decode M_Re_advance.2.1 117 = .ok (.ifCond .eq 14, 3) := by decide +kernel
theorem dc_Re_advance_120 : decode M_Re_advance.2.1 120 = .ok (.aload_n 0, 1) := by decide +kernel
theorem dc_Re_advance_121 : decode M_Re_advance.2.1 121 = .ok (.aload_n 0, 1) := by decide +kernel
theorem dc_Re_advance_122 : decode M_Re_advance.2.1 122 = .ok (.invokevirtual 101, 3) := by decide +kernel
theorem dc_Re_advance_125 : decode M_Re_advance.2.1 125 = .ok (.putfield 60, 3) := by decide +kernel
theorem dc_Re_advance_128 : decode M_Re_advance.2.1 128 = .ok (.goto 45, 3) := by decide +kernel
theorem dc_Re_advance_131 : decode M_Re_advance.2.1 131 = .ok (.aload_n 0, 1) := by decide +kernel
theorem dc_Re_advance_132 : decode M_Re_advance.2.1 132 = .ok (.aload_n 0, 1) := by decide +kernel
theorem dc_Re_advance_133 : decode M_Re_advance.2.1 133 = .ok (.getfield 57, 3) := by decide +kernel
theorem dc_Re_advance_136 : decode M_Re_advance.2.1 136 = .ok (.iconst 1, 1) := by decide +kernel
theorem dc_Re_advance_137 : decode M_Re_advance.2.1 137 = .ok (.iadd, 1) := by decide +kernel
theorem dc_Re_advance_138 : decode M_Re_advance.2.1 138 = .ok (.putfield 44, 3) := by decide +kernel
theorem dc_Re_advance_141 : decode M_Re_advance.2.1 141 = .ok (.aload_n 0, 1) := by decide +kernel
theorem dc_Re_advance_142 : decode M_Re_advance.2.1 142 = .ok (.aload_n 0, 1) := by decide +kernel
theorem dc_Re_advance_143 : decode M_Re_advance.2.1 143 = .ok (.getfield 11, 3) := by decide +kernel
theorem dc_Re_advance_146 : decode M_Re_advance.2.1 146 = .ok (.aload_n 0, 1) := by decide +kernel
theorem dc_Re_advance_147 : decode M_Re_advance.2.1 147 = .ok (.getfield 57, 3) := by decide +kernel
theorem dc_Re_advance_150 : decode M_Re_advance.2.1 150 = .ok (.iaload, 1) := by decide +kernel
theorem dc_Re_advance_151 : decode M_Re_advance.2.1 151 = .ok (.invokestatic 104, 3) := by decide +kernel
theorem dc_Re_advance_154 : decode M_Re_advance.2.1 154 = .ok (.ifCond .eq 15, 3) := by decide +kernel
theorem dc_Re_advance_157 : decode M_Re_advance.2.1 157 = .ok (.aload_n 0, 1) := by decide +kernel
theorem dc_Re_advance_158 : decode M_Re_advance.2.1 158 = .ok (.getfield 11, 3) := by decide +kernel
theorem dc_Re_advance_161 : decode M_Re_advance.2.1 161 = .ok (.aload_n 0, 1) := by decide +kernel
theorem dc_Re_advance_162 : decode M_Re_advance.2.1 162 = .ok (.getfield 57, 3) := by decide +kernel
theorem dc_Re_advance_165 : decode M_Re_advance.2.1 165 = .ok (.iaload, 1) := by decide +kernel
theorem dc_Re_advance_166 : decode M_Re_advance.2.1 166 = .ok (.goto 4, 3) := by decide +kernel
theorem dc_Re_advance_169 : decode M_Re_advance.2.1 169 = .ok (.iconst 2, 1) := by decide +kernel
theorem dc_Re_advance_170 : decode M_Re_advance.2.1 170 = .ok (.putfield 60, 3) := by decide +kernel
theorem dc_Re_advance_173 : decode M_Re_advance.2.1 173 = .ok (.return_, 1) := by decide +kernel
def f_Re_advance_L0 (a0 : Nat) : Nat → xH → (xH → Option (Unit × xH)) → Option (Unit × xH)
  | 0, _, _ => none
  | n + 1, h, K => gd (hK h a0 = 1) (if (hI h a0 1) ≤ (hI h a0 3) then K h else gd (hK h (hR h a0 0) = 12) (gd (¬ ((hI h a0 3) < 0 ∨ hL h (hR h a0 0) ≤ (hI h a0 3).toNatClampNeg)) (jn (fun (x30 : Unit) => f_Re_advance_L0 a0 n (hIu h a0 3 ((hI h a0 3) + (1 : Int32))) K) (fun k31 => if (hI h (hR h a0 0) (hI h a0 3).toNatClampNeg) = (32 : Int32) then k31 () else gd (¬ ((hI h a0 3) < 0 ∨ hL h (hR h a0 0) ≤ (hI h a0 3).toNatClampNeg)) (if (hI h (hR h a0 0) (hI h a0 3).toNatClampNeg) = (10 : Int32) then k31 () else K h)))))
def f_Re_advance (a0 : Nat) (h : xH) : Option (Unit × xH) := f_Re_advance_L0 a0 fu h (fun h35 => gd (hK h35 a0 = 1) (jn (fun (x37 : xH) => some ((), x37)) (fun k38 => if (hI (hIu h35 a0 2 (hI h35 a0 3)) a0 2) < (hI (hIu h35 a0 2 (hI h35 a0 3)) a0 1) then gd (hK h35 (hR h35 a0 0) = 12) (gd (¬ ((hI (hIu h35 a0 2 (hI h35 a0 3)) a0 2) < 0 ∨ hL h35 (hR h35 a0 0) ≤ (hI (hIu h35 a0 2 (hI h35 a0 3)) a0 2).toNatClampNeg)) (Option.bind (f_Re_isLetter (hI (hIu h35 a0 2 (hI h35 a0 3)) (hR h35 a0 0) (hI (hIu h35 a0 2 (hI h35 a0 3)) a0 2).toNatClampNeg) (hIu h35 a0 2 (hI h35 a0 3))) (fun q42 => if q42.1 = 0 then gd (hK q42.2 a0 = 1) (gd (hK q42.2 (hR q42.2 a0 0) = 12) (gd (¬ ((hI q42.2 a0 2) < 0 ∨ hL q42.2 (hR q42.2 a0 0) ≤ (hI q42.2 a0 2).toNatClampNeg)) (Option.bind (f_Re_isDigit (hI q42.2 (hR q42.2 a0 0) (hI q42.2 a0 2).toNatClampNeg) q42.2) (fun q47 => if q47.1 = 0 then gd (hK q47.2 a0 = 1) (gd (hK q47.2 (hR q47.2 a0 0) = 12) (gd (¬ ((hI (hIu q47.2 a0 3 ((hI q47.2 a0 2) + (1 : Int32))) a0 2) < 0 ∨ hL q47.2 (hR q47.2 a0 0) ≤ (hI (hIu q47.2 a0 3 ((hI q47.2 a0 2) + (1 : Int32))) a0 2).toNatClampNeg)) (Option.bind (f_Re_isSign (hI (hIu q47.2 a0 3 ((hI q47.2 a0 2) + (1 : Int32))) (hR q47.2 a0 0) (hI (hIu q47.2 a0 3 ((hI q47.2 a0 2) + (1 : Int32))) a0 2).toNatClampNeg) (hIu q47.2 a0 3 ((hI q47.2 a0 2) + (1 : Int32)))) (fun q52 => jn (fun (x53 : Int32) => gd (hK q52.2 a0 = 1) (k38 (hIu q52.2 a0 4 x53))) (fun k54 => if q52.1 = 0 then k54 (2 : Int32) else gd (hK q52.2 a0 = 1) (gd (hK q52.2 (hR q52.2 a0 0) = 12) (gd (¬ ((hI q52.2 a0 2) < 0 ∨ hL q52.2 (hR q52.2 a0 0) ≤ (hI q52.2 a0 2).toNatClampNeg)) (k54 (hI q52.2 (hR q52.2 a0 0) (hI q52.2 a0 2).toNatClampNeg))))))))) else gd (hK q47.2 a0 = 1) (Option.bind (f_Re_numberToken a0 q47.2) (fun q60 => gd (hK q60.2 a0 = 1) (k38 (hIu q60.2 a0 4 q60.1)))))))) else gd (hK q42.2 a0 = 1) (Option.bind (f_Re_wordToken a0 q42.2) (fun q63 => gd (hK q63.2 a0 = 1) (k38 (hIu q63.2 a0 4 q63.1))))))) else k38 (hIu (hIu h35 a0 2 (hI h35 a0 3)) a0 4 (0 : Int32)))))
theorem t_Re_advance_L0 {l : Launch} {z : xZ} {d mc ms : Nat} {Ph : Option xV → xH → Prop} {a0 : Nat}  (hd : 1 ≤ d) : ∀ (n : Nat)  (h : xH) (K : xH → Option (Unit × xH)), OK (f_Re_advance_L0 a0 n h K) (fun q => Ph (none) q.2) → (∀  (h : xH), OK (K  h) (fun q => Ph (none) q.2) → Sx l z d mc ms M_Re_advance 52 [some (xR a0)] [] h Ph) → Sx l z d mc ms M_Re_advance 0 [some (xR a0)] [] h Ph := by
  intro n
  induction n with
  | zero => intro  h K hk hE; exact hk.no
  | succ n ih =>
    intro  h K hk hE
    rw [f_Re_advance_L0] at hk
    refine sx_aload_n dc_Re_advance_0 rfl ?_
    obtain ⟨g26, hk⟩ := hk.g
    refine sx_get (ci := 1) (k := 3) rfl (by decide) wF_Re_44 g26 dc_Re_advance_1 ?_
    refine sx_aload_n dc_Re_advance_4 rfl ?_
    refine sx_get (ci := 1) (k := 1) rfl (by decide) wF_Re_23 g26 dc_Re_advance_5 ?_
    refine sx_icmp_ge (tgt := 52) dc_Re_advance_8 (by decide) (fun c27 => ?_) (fun c27 => ?_)
    · replace hk := hk.t c27
      exact hE  h hk
    · replace hk := hk.f c27
      refine sx_aload_n dc_Re_advance_11 rfl ?_
      refine sx_get (ci := 1) (k := 0) rfl (by decide) wF_Re_11 g26 dc_Re_advance_12 ?_
      refine sx_aload_n dc_Re_advance_15 rfl ?_
      refine sx_get (ci := 1) (k := 3) rfl (by decide) wF_Re_44 g26 dc_Re_advance_16 ?_
      obtain ⟨g28, hk⟩ := hk.g
      obtain ⟨g29, hk⟩ := hk.g
      refine sx_iald g28 g29 dc_Re_advance_19 ?_
      refine sx_bipush (v := (32 : Int32)) dc_Re_advance_20 (by decide) ?_
      refine hk.j (X := fun x30 => Sx l z d mc ms M_Re_advance 39 [some (xR a0)] [] h Ph) (fun x30 hk => ?_) (fun k31 jk31 hk => ?_)
      · refine sx_aload_n dc_Re_advance_39 rfl ?_
        refine sx_dup dc_Re_advance_40 rfl ?_
        refine sx_get (ci := 1) (k := 3) rfl (by decide) wF_Re_44 g26 dc_Re_advance_41 ?_
        refine sx_iconst (v := (1 : Int32)) dc_Re_advance_44 (by decide) ?_
        refine sx_iadd dc_Re_advance_45 ?_
        refine sx_putI (ci := 1) (k := 3) rfl (by decide) wF_Re_44 rfl g26 (Or.inl rfl) dc_Re_advance_46 ?_
        refine sx_goto (tgt := 0) dc_Re_advance_49 (by decide) ?_
        exact ih  (hIu h a0 3 ((hI h a0 3) + (1 : Int32))) _ hk hE
      · refine sx_icmp_eq (tgt := 39) dc_Re_advance_22 (by decide) (fun c32 => ?_) (fun c32 => ?_)
        · replace hk := hk.t c32
          exact jk31 () hk
        · replace hk := hk.f c32
          refine sx_aload_n dc_Re_advance_25 rfl ?_
          refine sx_get (ci := 1) (k := 0) rfl (by decide) wF_Re_11 g26 dc_Re_advance_26 ?_
          refine sx_aload_n dc_Re_advance_29 rfl ?_
          refine sx_get (ci := 1) (k := 3) rfl (by decide) wF_Re_44 g26 dc_Re_advance_30 ?_
          obtain ⟨g33, hk⟩ := hk.g
          refine sx_iald g28 g33 dc_Re_advance_33 ?_
          refine sx_bipush (v := (10 : Int32)) dc_Re_advance_34 (by decide) ?_
          refine sx_icmp_ne (tgt := 52) dc_Re_advance_36 (by decide) (fun c34 => ?_) (fun c34 => ?_)
          · replace hk := hk.f c34
            exact hE  h hk
          · replace hk := hk.t c34
            exact jk31 () hk
theorem t_Re_advance {l : Launch} {z : xZ} {d mc ms : Nat} {Ph : Option xV → xH → Prop} {a0 : Nat}  {h : xH} (hd : 7 ≤ d) (hk : OK (f_Re_advance a0 h) (fun q => Ph (none) q.2)) : Sx l z d mc ms M_Re_advance 0 (x_en [xR a0] 1) [] h Ph := by
  unfold f_Re_advance at hk
  refine sx_eq (lc2 := [some (xR a0)]) rfl rfl ?_
  refine t_Re_advance_L0 (by omega) _  _ _ hk (fun  h35 hk => ?_)
  refine sx_aload_n dc_Re_advance_52 rfl ?_
  refine sx_aload_n dc_Re_advance_53 rfl ?_
  obtain ⟨g36, hk⟩ := hk.g
  refine sx_get (ci := 1) (k := 3) rfl (by decide) wF_Re_44 g36 dc_Re_advance_54 ?_
  refine sx_putI (ci := 1) (k := 2) rfl (by decide) wF_Re_57 rfl g36 (Or.inl rfl) dc_Re_advance_57 ?_
  refine sx_aload_n dc_Re_advance_60 rfl ?_
  refine sx_get (ci := 1) (k := 2) rfl (by decide) wF_Re_57 g36 dc_Re_advance_61 ?_
  refine sx_aload_n dc_Re_advance_64 rfl ?_
  refine sx_get (ci := 1) (k := 1) rfl (by decide) wF_Re_23 g36 dc_Re_advance_65 ?_
  refine hk.j (X := fun x37 => Sx l z d mc ms M_Re_advance 173 [some (xR a0)] [] x37 Ph) (fun x37 hk => ?_) (fun k38 jk38 hk => ?_)
  · exact sx_retV dc_Re_advance_173 rfl hk.val
  · refine sx_icmp_lt (tgt := 79) dc_Re_advance_68 (by decide) (fun c39 => ?_) (fun c39 => ?_)
    · replace hk := hk.t c39
      refine sx_aload_n dc_Re_advance_79 rfl ?_
      refine sx_get (ci := 1) (k := 0) rfl (by decide) wF_Re_11 g36 dc_Re_advance_80 ?_
      refine sx_aload_n dc_Re_advance_83 rfl ?_
      refine sx_get (ci := 1) (k := 2) rfl (by decide) wF_Re_57 g36 dc_Re_advance_84 ?_
      obtain ⟨g40, hk⟩ := hk.g
      obtain ⟨g41, hk⟩ := hk.g
      refine sx_iald g40 g41 dc_Re_advance_87 ?_
      obtain ⟨q42, eq42, hk⟩ := hk.bind
      refine sx_callS (d2 := d - 1) (mc2 := 0) (ms2 := 0) (as := [xI (hI (hIu h35 a0 2 (hI h35 a0 3)) (hR h35 a0 0) (hI (hIu h35 a0 2 (hI h35 a0 3)) a0 2).toNatClampNeg)]) mk_Re_isLetter rfl wM_Re_91 mt_Re_isLetter rfl (Nat.le_of_ble_eq_true rfl) (Nat.le_of_ble_eq_true rfl) dc_Re_advance_88 (by omega) (Nat.zero_le _) (Nat.zero_le _) ?_
      refine t_Re_isLetter (by omega) ⟨q42, eq42, ?_⟩
      refine sx_eq0 (lc2 := [some (xR a0)]) (st2 := [xI q42.1]) rfl rfl ?_
      refine sx_if_eq (tgt := 105) dc_Re_advance_91 (by decide) (fun c43 => ?_) (fun c43 => ?_)
      · replace hk := hk.t c43
        refine sx_aload_n dc_Re_advance_105 rfl ?_
        obtain ⟨g44, hk⟩ := hk.g
        refine sx_get (ci := 1) (k := 0) rfl (by decide) wF_Re_11 g44 dc_Re_advance_106 ?_
        refine sx_aload_n dc_Re_advance_109 rfl ?_
        refine sx_get (ci := 1) (k := 2) rfl (by decide) wF_Re_57 g44 dc_Re_advance_110 ?_
        obtain ⟨g45, hk⟩ := hk.g
        obtain ⟨g46, hk⟩ := hk.g
        refine sx_iald g45 g46 dc_Re_advance_113 ?_
        obtain ⟨q47, eq47, hk⟩ := hk.bind
        refine sx_callS (d2 := d - 1) (mc2 := 0) (ms2 := 0) (as := [xI (hI q42.2 (hR q42.2 a0 0) (hI q42.2 a0 2).toNatClampNeg)]) mk_Re_isDigit rfl wM_Re_98 mt_Re_isDigit rfl (Nat.le_of_ble_eq_true rfl) (Nat.le_of_ble_eq_true rfl) dc_Re_advance_114 (by omega) (Nat.zero_le _) (Nat.zero_le _) ?_
        refine t_Re_isDigit (by omega) ⟨q47, eq47, ?_⟩
        refine sx_eq0 (lc2 := [some (xR a0)]) (st2 := [xI q47.1]) rfl rfl ?_
        refine sx_if_eq (tgt := 131) dc_Re_advance_117 (by decide) (fun c48 => ?_) (fun c48 => ?_)
        · replace hk := hk.t c48
          refine sx_aload_n dc_Re_advance_131 rfl ?_
          refine sx_aload_n dc_Re_advance_132 rfl ?_
          obtain ⟨g49, hk⟩ := hk.g
          refine sx_get (ci := 1) (k := 2) rfl (by decide) wF_Re_57 g49 dc_Re_advance_133 ?_
          refine sx_iconst (v := (1 : Int32)) dc_Re_advance_136 (by decide) ?_
          refine sx_iadd dc_Re_advance_137 ?_
          refine sx_putI (ci := 1) (k := 3) rfl (by decide) wF_Re_44 rfl g49 (Or.inl rfl) dc_Re_advance_138 ?_
          refine sx_aload_n dc_Re_advance_141 rfl ?_
          refine sx_aload_n dc_Re_advance_142 rfl ?_
          refine sx_get (ci := 1) (k := 0) rfl (by decide) wF_Re_11 g49 dc_Re_advance_143 ?_
          refine sx_aload_n dc_Re_advance_146 rfl ?_
          refine sx_get (ci := 1) (k := 2) rfl (by decide) wF_Re_57 g49 dc_Re_advance_147 ?_
          obtain ⟨g50, hk⟩ := hk.g
          obtain ⟨g51, hk⟩ := hk.g
          refine sx_iald g50 g51 dc_Re_advance_150 ?_
          obtain ⟨q52, eq52, hk⟩ := hk.bind
          refine sx_callS (d2 := d - 1) (mc2 := 0) (ms2 := 0) (as := [xI (hI (hIu q47.2 a0 3 ((hI q47.2 a0 2) + (1 : Int32))) (hR q47.2 a0 0) (hI (hIu q47.2 a0 3 ((hI q47.2 a0 2) + (1 : Int32))) a0 2).toNatClampNeg)]) mk_Re_isSign rfl wM_Re_104 mt_Re_isSign rfl (Nat.le_of_ble_eq_true rfl) (Nat.le_of_ble_eq_true rfl) dc_Re_advance_151 (by omega) (Nat.zero_le _) (Nat.zero_le _) ?_
          refine t_Re_isSign (by omega) ⟨q52, eq52, ?_⟩
          refine sx_eq0 (lc2 := [some (xR a0)]) (st2 := [xI q52.1, xR a0]) rfl rfl ?_
          refine hk.j (X := fun x53 => Sx l z d mc ms M_Re_advance 170 [some (xR a0)] [xI x53, xR a0] q52.2 Ph) (fun x53 hk => ?_) (fun k54 jk54 hk => ?_)
          · obtain ⟨g55, hk⟩ := hk.g
            refine sx_putI (ci := 1) (k := 4) rfl (by decide) wF_Re_60 rfl g55 (Or.inl rfl) dc_Re_advance_170 ?_
            exact jk38 (hIu q52.2 a0 4 x53) hk
          · refine sx_if_eq (tgt := 169) dc_Re_advance_154 (by decide) (fun c56 => ?_) (fun c56 => ?_)
            · replace hk := hk.t c56
              refine sx_iconst (v := (2 : Int32)) dc_Re_advance_169 (by decide) ?_
              exact jk54 (2 : Int32) hk
            · replace hk := hk.f c56
              refine sx_aload_n dc_Re_advance_157 rfl ?_
              obtain ⟨g57, hk⟩ := hk.g
              refine sx_get (ci := 1) (k := 0) rfl (by decide) wF_Re_11 g57 dc_Re_advance_158 ?_
              refine sx_aload_n dc_Re_advance_161 rfl ?_
              refine sx_get (ci := 1) (k := 2) rfl (by decide) wF_Re_57 g57 dc_Re_advance_162 ?_
              obtain ⟨g58, hk⟩ := hk.g
              obtain ⟨g59, hk⟩ := hk.g
              refine sx_iald g58 g59 dc_Re_advance_165 ?_
              refine sx_goto (tgt := 170) dc_Re_advance_166 (by decide) ?_
              exact jk54 (hI q52.2 (hR q52.2 a0 0) (hI q52.2 a0 2).toNatClampNeg) hk
        · replace hk := hk.f c48
          refine sx_aload_n dc_Re_advance_120 rfl ?_
          refine sx_aload_n dc_Re_advance_121 rfl ?_
          obtain ⟨g61, hk⟩ := hk.g
          obtain ⟨q60, eq60, hk⟩ := hk.bind
          refine sx_callV (d2 := d - 1) (mc2 := 0) (ms2 := 0) (as := []) mk_Re_numberToken rfl (x_rk (ci := 1) g61 rfl rfl) wM_Re_101 mi_Re_numberToken me_Re_numberToken rfl (Nat.le_of_ble_eq_true rfl) (Nat.le_of_ble_eq_true rfl) dc_Re_advance_122 (by omega) (Nat.zero_le _) (Nat.zero_le _) ?_
          refine t_Re_numberToken (by omega) ⟨q60, eq60, ?_⟩
          refine sx_eq0 (lc2 := [some (xR a0)]) (st2 := [xI q60.1, xR a0]) rfl rfl ?_
          obtain ⟨g62, hk⟩ := hk.g
          refine sx_putI (ci := 1) (k := 4) rfl (by decide) wF_Re_60 rfl g62 (Or.inl rfl) dc_Re_advance_125 ?_
          refine sx_goto (tgt := 173) dc_Re_advance_128 (by decide) ?_
          exact jk38 (hIu q60.2 a0 4 q60.1) hk
      · replace hk := hk.f c43
        refine sx_aload_n dc_Re_advance_94 rfl ?_
        refine sx_aload_n dc_Re_advance_95 rfl ?_
        obtain ⟨g64, hk⟩ := hk.g
        obtain ⟨q63, eq63, hk⟩ := hk.bind
        refine sx_callV (d2 := d - 1) (mc2 := 0) (ms2 := 0) (as := []) mk_Re_wordToken rfl (x_rk (ci := 1) g64 rfl rfl) wM_Re_94 mi_Re_wordToken me_Re_wordToken rfl (Nat.le_of_ble_eq_true rfl) (Nat.le_of_ble_eq_true rfl) dc_Re_advance_96 (by omega) (Nat.zero_le _) (Nat.zero_le _) ?_
        refine t_Re_wordToken (by omega) ⟨q63, eq63, ?_⟩
        refine sx_eq0 (lc2 := [some (xR a0)]) (st2 := [xI q63.1, xR a0]) rfl rfl ?_
        obtain ⟨g65, hk⟩ := hk.g
        refine sx_putI (ci := 1) (k := 4) rfl (by decide) wF_Re_60 rfl g65 (Or.inl rfl) dc_Re_advance_99 ?_
        refine sx_goto (tgt := 173) dc_Re_advance_102 (by decide) ?_
        exact jk38 (hIu q63.2 a0 4 q63.1) hk
    · replace hk := hk.f c39
      refine sx_aload_n dc_Re_advance_71 rfl ?_
      refine sx_iconst (v := (0 : Int32)) dc_Re_advance_72 (by decide) ?_
      refine sx_putI (ci := 1) (k := 4) rfl (by decide) wF_Re_60 rfl g36 (Or.inl rfl) dc_Re_advance_73 ?_
      refine sx_goto (tgt := 173) dc_Re_advance_76 (by decide) ?_
      exact jk38 (hIu (hIu h35 a0 2 (hI h35 a0 3)) a0 4 (0 : Int32)) hk
theorem dc_Re_takes_0 : decode M_Re_takes.2.1 0 = .ok (.aload_n 0, 1) := by decide +kernel
theorem dc_Re_takes_1 : decode M_Re_takes.2.1 1 = .ok (.getfield 60, 3) := by decide +kernel
theorem dc_Re_takes_4 : decode M_Re_takes.2.1 4 = .ok (.iload_n 1, 1) := by decide +kernel
theorem dc_Re_takes_5 : decode M_Re_takes.2.1 5 = .ok (.if_icmp .eq 5, 3) := by decide +kernel
theorem dc_Re_takes_8 : decode M_Re_takes.2.1 8 = .ok (.iconst 0, 1) := by decide +kernel
theorem dc_Re_takes_9 : decode M_Re_takes.2.1 9 = .ok (.ireturn, 1) := by decide +kernel
theorem dc_Re_takes_10 : decode M_Re_takes.2.1 10 = .ok (.aload_n 0, 1) := by decide +kernel
theorem dc_Re_takes_11 : decode M_Re_takes.2.1 11 = .ok (.invokevirtual 47, 3) := by decide +kernel
theorem dc_Re_takes_14 : decode M_Re_takes.2.1 14 = .ok (.iconst 1, 1) := by decide +kernel
theorem dc_Re_takes_15 : decode M_Re_takes.2.1 15 = .ok (.ireturn, 1) := by decide +kernel
def f_Re_takes (a0 : Nat) (a1 : Int32) (h : xH) : Option (Int32 × xH) := gd (hK h a0 = 1) (if (hI h a0 4) = a1 then Option.bind (f_Re_advance a0 h) (fun q5 => some ((1 : Int32), q5.2)) else some ((0 : Int32), h))
theorem t_Re_takes {l : Launch} {z : xZ} {d mc ms : Nat} {Ph : Option xV → xH → Prop} {a0 : Nat} {a1 : Int32}  {h : xH} (hd : 8 ≤ d) (hk : OK (f_Re_takes a0 a1 h) (fun q => Ph (some (xI q.1)) q.2)) : Sx l z d mc ms M_Re_takes 0 (x_en [xR a0, xI a1] 2) [] h Ph := by
  unfold f_Re_takes at hk
  refine sx_eq (lc2 := [some (xR a0), some (xI a1)]) rfl rfl ?_
  refine sx_aload_n dc_Re_takes_0 rfl ?_
  obtain ⟨g3, hk⟩ := hk.g
  refine sx_get (ci := 1) (k := 4) rfl (by decide) wF_Re_60 g3 dc_Re_takes_1 ?_
  refine sx_iload_n dc_Re_takes_4 rfl ?_
  refine sx_icmp_eq (tgt := 10) dc_Re_takes_5 (by decide) (fun c4 => ?_) (fun c4 => ?_)
  · replace hk := hk.t c4
    refine sx_aload_n dc_Re_takes_10 rfl ?_
    obtain ⟨q5, eq5, hk⟩ := hk.bind
    refine sx_callV (d2 := d - 1) (mc2 := 0) (ms2 := 0) (as := []) mk_Re_advance rfl (x_rk (ci := 1) g3 rfl rfl) wM_Re_47 mi_Re_advance me_Re_advance rfl (Nat.le_of_ble_eq_true rfl) (Nat.le_of_ble_eq_true rfl) dc_Re_takes_11 (by omega) (Nat.zero_le _) (Nat.zero_le _) ?_
    refine t_Re_advance (by omega) ⟨q5, eq5, ?_⟩
    refine sx_eq0 (lc2 := [some (xR a0), some (xI a1)]) (st2 := []) rfl rfl ?_
    refine sx_iconst (v := (1 : Int32)) dc_Re_takes_14 (by decide) ?_
    exact sx_retT (v := (1 : Int32)) dc_Re_takes_15 (Or.inl ⟨rfl, rfl⟩) (by decide) hk.val
  · replace hk := hk.f c4
    refine sx_iconst (v := (0 : Int32)) dc_Re_takes_8 (by decide) ?_
    exact sx_retT (v := (0 : Int32)) dc_Re_takes_9 (Or.inl ⟨rfl, rfl⟩) (by decide) hk.val
theorem dc_Re_write_0 : decode M_Re_write.2.1 0 = .ok (.aload_n 0, 1) := by decide +kernel
theorem dc_Re_write_1 : decode M_Re_write.2.1 1 = .ok (.getfield 27, 3) := by decide +kernel
theorem dc_Re_write_4 : decode M_Re_write.2.1 4 = .ok (.aload_n 0, 1) := by decide +kernel
theorem dc_Re_write_5 : decode M_Re_write.2.1 5 = .ok (.getfield 15, 3) := by decide +kernel
theorem dc_Re_write_8 : decode M_Re_write.2.1 8 = .ok (.arraylength, 1) := by decide +kernel
theorem dc_Re_write_9 : decode M_Re_write.2.1 9 = .ok (.if_icmp .ge 20, 3) := by decide +kernel
theorem dc_Re_write_12 : decode M_Re_write.2.1 12 = .ok (.aload_n 0, 1) := by decide +kernel
theorem dc_Re_write_13 : decode M_Re_write.2.1 13 = .ok (.getfield 15, 3) := by decide +kernel
theorem dc_Re_write_16 : decode M_Re_write.2.1 16 = .ok (.aload_n 0, 1) := by decide +kernel
theorem dc_Re_write_17 : decode M_Re_write.2.1 17 = .ok (.dup, 1) := by decide +kernel
theorem dc_Re_write_18 : decode M_Re_write.2.1 18 = .ok (.getfield 27, 3) := by decide +kernel
theorem dc_Re_write_21 : decode M_Re_write.2.1 21 = .ok (.dup_x1, 1) := by decide +kernel
theorem dc_Re_write_22 : decode M_Re_write.2.1 22 = .ok (.iconst 1, 1) := by decide +kernel
theorem dc_Re_write_23 : decode M_Re_write.2.1 23 = .ok (.iadd, 1) := by decide +kernel
theorem dc_Re_write_24 : decode M_Re_write.2.1 24 = .ok (.putfield 27, 3) := by decide +kernel
theorem dc_Re_write_27 : decode M_Re_write.2.1 27 = .ok (.iload_n 1, 1) := by decide +kernel
theorem dc_Re_write_28 : decode M_Re_write.2.1 28 = .ok (.iastore, 1) := by decide +kernel
theorem dc_Re_write_29 : decode M_Re_write.2.1 29 = .ok (.return_, 1) := by decide +kernel
def f_Re_write (a0 : Nat) (a1 : Int32) (h : xH) : Option (Unit × xH) := gd (hK h a0 = 1) (gd (hK h (hR h a0 6) = 12) (jn (fun (x6 : xH) => some ((), x6)) (fun k7 => if (Int32.ofNat (hL h (hR h a0 6))) ≤ (hI h a0 7) then k7 h else gd (¬ ((hI h a0 7) < 0 ∨ hL h (hR h a0 6) ≤ (hI h a0 7).toNatClampNeg)) (k7 (hIu (hIu h a0 7 ((hI h a0 7) + (1 : Int32))) (hR h a0 6) (hI h a0 7).toNatClampNeg a1)))))
theorem t_Re_write {l : Launch} {z : xZ} {d mc ms : Nat} {Ph : Option xV → xH → Prop} {a0 : Nat} {a1 : Int32}  {h : xH} (hd : 1 ≤ d) (hk : OK (f_Re_write a0 a1 h) (fun q => Ph (none) q.2)) : Sx l z d mc ms M_Re_write 0 (x_en [xR a0, xI a1] 2) [] h Ph := by
  unfold f_Re_write at hk
  refine sx_eq (lc2 := [some (xR a0), some (xI a1)]) rfl rfl ?_
  refine sx_aload_n dc_Re_write_0 rfl ?_
  obtain ⟨g4, hk⟩ := hk.g
  refine sx_get (ci := 1) (k := 7) rfl (by decide) wF_Re_27 g4 dc_Re_write_1 ?_
  refine sx_aload_n dc_Re_write_4 rfl ?_
  refine sx_get (ci := 1) (k := 6) rfl (by decide) wF_Re_15 g4 dc_Re_write_5 ?_
  obtain ⟨g5, hk⟩ := hk.g
  refine sx_alen g5 (by decide) dc_Re_write_8 ?_
  refine hk.j (X := fun x6 => Sx l z d mc ms M_Re_write 29 [some (xR a0), some (xI a1)] [] x6 Ph) (fun x6 hk => ?_) (fun k7 jk7 hk => ?_)
  · exact sx_retV dc_Re_write_29 rfl hk.val
  · refine sx_icmp_ge (tgt := 29) dc_Re_write_9 (by decide) (fun c8 => ?_) (fun c8 => ?_)
    · replace hk := hk.t c8
      exact jk7 h hk
    · replace hk := hk.f c8
      refine sx_aload_n dc_Re_write_12 rfl ?_
      refine sx_get (ci := 1) (k := 6) rfl (by decide) wF_Re_15 g4 dc_Re_write_13 ?_
      refine sx_aload_n dc_Re_write_16 rfl ?_
      refine sx_dup dc_Re_write_17 rfl ?_
      refine sx_get (ci := 1) (k := 7) rfl (by decide) wF_Re_27 g4 dc_Re_write_18 ?_
      refine sx_dup_x1 dc_Re_write_21 rfl rfl ?_
      refine sx_iconst (v := (1 : Int32)) dc_Re_write_22 (by decide) ?_
      refine sx_iadd dc_Re_write_23 ?_
      refine sx_putI (ci := 1) (k := 7) rfl (by decide) wF_Re_27 rfl g4 (Or.inl rfl) dc_Re_write_24 ?_
      refine sx_iload_n dc_Re_write_27 rfl ?_
      obtain ⟨g9, hk⟩ := hk.g
      refine sx_iast g5 g9 dc_Re_write_28 ?_
      exact jk7 (hIu (hIu h a0 7 ((hI h a0 7) + (1 : Int32))) (hR h a0 6) (hI h a0 7).toNatClampNeg a1) hk
theorem dc_Re_readBoth_0 : decode M_Re_readBoth.2.1 0 = .ok (.aload_n 0, 1) := by decide +kernel
theorem dc_Re_readBoth_1 : decode M_Re_readBoth.2.1 1 = .ok (.iload_n 1, 1) := by decide +kernel
theorem dc_Re_readBoth_2 : decode M_Re_readBoth.2.1 2 = .ok (.invokevirtual 70, 3) := by decide +kernel
theorem dc_Re_readBoth_5 : decode M_Re_readBoth.2.1 5 = .ok (.ifCond .ne 5, 3) := by decide +kernel
theorem dc_Re_readBoth_8 : decode M_Re_readBoth.2.1 8 = .ok (.iconst 0, 1) := by decide +kernel
theorem dc_Re_readBoth_9 : decode M_Re_readBoth.2.1 9 = .ok (.ireturn, 1) := by decide +kernel
theorem dc_Re_readBoth_10 : decode M_Re_readBoth.2.1 10 = .ok (.iconst 0, 1) := by decide +kernel
theorem dc_Re_readBoth_11 : decode M_Re_readBoth.2.1 11 = .ok (.istore_n 2, 1) := by decide +kernel
theorem dc_Re_readBoth_12 : decode M_Re_readBoth.2.1 12 = .ok (.iload_n 2, 1) := by decide +kernel
theorem dc_Re_readBoth_13 : decode M_Re_readBoth.2.1 13 = .ok (.sipush 160, 3) := by decide +kernel
theorem dc_Re_readBoth_16 : decode M_Re_readBoth.2.1 16 = .ok (.if_icmp .ge 39, 3) := by decide +kernel
theorem dc_Re_readBoth_19 : decode M_Re_readBoth.2.1 19 = .ok (.aload_n 0, 1) := by decide +kernel
theorem dc_Re_readBoth_20 : decode M_Re_readBoth.2.1 20 = .ok (.getfield 60, 3) := by decide +kernel
theorem dc_Re_readBoth_23 : decode M_Re_readBoth.2.1 23 = .ok (.sipush 266, 3) := by decide +kernel
theorem dc_Re_readBoth_26 : decode M_Re_readBoth.2.1 26 = .ok (.if_icmp .ne 29, 3) := by decide +kernel
theorem dc_Re_readBoth_29 : decode M_Re_readBoth.2.1 29 = .ok (.aload_n 0, 1) := by decide +kernel
theorem dc_Re_readBoth_30 : decode M_Re_readBoth.2.1 30 = .ok (.invokevirtual 47, 3) := by decide +kernel
theorem dc_Re_readBoth_33 : decode M_Re_readBoth.2.1 33 = .ok (.aload_n 0, 1) := by decide +kernel
theorem dc_Re_readBoth_34 : decode M_Re_readBoth.2.1 34 = .ok (.iload_n 1, 1) := by decide +kernel
theorem dc_Re_readBoth_35 : decode M_Re_readBoth.2.1 35 = .ok (.invokevirtual 70, 3) := by decide +kernel
theorem dc_Re_readBoth_38 : decode M_Re_readBoth.2.1 38 = .ok (.ifCond .ne 5, 3) := by decide +kernel
theorem dc_Re_readBoth_41 : decode M_Re_readBoth.2.1 41 = .ok (.iconst 0, 1) := by decide +kernel
theorem dc_Re_readBoth_42 : decode M_Re_readBoth.2.1 42 = .ok (.ireturn, 1) := by decide +kernel
theorem dc_Re_readBoth_43 : decode M_Re_readBoth.2.1 43 = .ok (.aload_n 0, 1) := by decide +kernel
theorem dc_Re_readBoth_44 : decode M_Re_readBoth.2.1 44 = .ok (.bipush (-7), 2) := by decide +kernel
theorem dc_Re_readBoth_46 : decode M_Re_readBoth.2.1 46 = .ok (.invokevirtual 66, 3) := by decide +kernel
theorem dc_Re_readBoth_49 : decode M_Re_readBoth.2.1 49 = .ok (.iinc 2 1, 3) := by decide +kernel
theorem dc_Re_readBoth_52 : decode M_Re_readBoth.2.1 52 = .ok (.goto (-40), 3) := by decide +kernel
theorem dc_Re_readBoth_55 : decode M_Re_readBoth.2.1 55 = .ok (.iconst 1, 1) := by decide +kernel
theorem dc_Re_readBoth_56 : decode M_Re_readBoth.2.1 56 = .ok (.ireturn, 1) := by decide +kernel
theorem dc_Re_readCompared_0 : decode M_Re_readCompared.2.1 0 = .ok (.aload_n 0, 1) := by decide +kernel
theorem dc_Re_readCompared_1 : decode M_Re_readCompared.2.1 1 = .ok (.iload_n 1, 1) := by decide +kernel
theorem dc_Re_readCompared_2 : decode M_Re_readCompared.2.1 2 = .ok (.invokevirtual 76, 3) := by decide +kernel
theorem dc_Re_readCompared_5 : decode M_Re_readCompared.2.1 5 = .ok (.ifCond .ne 5, 3) := by decide +kernel
theorem dc_Re_readCompared_8 : decode M_Re_readCompared.2.1 8 = .ok (.iconst 0, 1) := by decide +kernel
theorem dc_Re_readCompared_9 : decode M_Re_readCompared.2.1 9 = .ok (.ireturn, 1) := by decide +kernel
theorem dc_Re_readCompared_10 : decode M_Re_readCompared.2.1 10 = .ok (.aload_n 0, 1) := by decide +kernel
theorem dc_Re_readCompared_11 : decode M_Re_readCompared.2.1 11 = .ok (.getfield 60, 3) := by decide +kernel
theorem dc_Re_readCompared_14 : decode M_Re_readCompared.2.1 14 = .ok (.bipush 60, 2) := by decide +kernel
theorem dc_Re_readCompared_16 : decode M_Re_readCompared.2.1 16 = .ok (.if_icmp .eq 14, 3) := by decide +kernel
theorem dc_Re_readCompared_19 : decode M_Re_readCompared.2.1 19 = .ok (.aload_n 0, 1) := by decide +kernel
theorem dc_Re_readCompared_20 : decode M_Re_readCompared.2.1 20 = .ok (.getfield 60, 3) := by decide +kernel
theorem dc_Re_readCompared_23 : decode M_Re_readCompared.2.1 23 = .ok (.bipush 61, 2) := by decide +kernel
theorem dc_Re_readCompared_25 : decode M_Re_readCompared.2.1 25 = .ok (.if_icmp .eq 5, 3) := by decide +kernel
theorem dc_Re_readCompared_28 : decode M_Re_readCompared.2.1 28 = .ok (.iconst 1, 1) := by decide +kernel
theorem dc_Re_readCompared_29 : decode M_Re_readCompared.2.1 29 = .ok (.ireturn, 1) := by decide +kernel
theorem dc_Re_readCompared_30 : decode M_Re_readCompared.2.1 30 = .ok (.aload_n 0, 1) := by decide +kernel
theorem dc_Re_readCompared_31 : decode M_Re_readCompared.2.1 31 = .ok (.getfield 60, 3) := by decide +kernel
theorem dc_Re_readCompared_34 : decode M_Re_readCompared.2.1 34 = .ok (.istore_n 2, 1) := by decide +kernel
theorem dc_Re_readCompared_35 : decode M_Re_readCompared.2.1 35 = .ok (.aload_n 0, 1) := by decide +kernel
theorem dc_Re_readCompared_36 : decode M_Re_readCompared.2.1 36 = .ok (.invokevirtual 47, 3) := by decide +kernel
theorem dc_Re_readCompared_39 : decode M_Re_readCompared.2.1 39 = .ok (.aload_n 0, 1) := by decide +kernel
theorem dc_Re_readCompared_40 : decode M_Re_readCompared.2.1 40 = .ok (.iload_n 1, 1) := by decide +kernel
theorem dc_Re_readCompared_41 : decode M_Re_readCompared.2.1 41 = .ok (.invokevirtual 76, 3) := by decide +kernel
theorem dc_Re_readCompared_44 : decode M_Re_readCompared.2.1 44 = .ok (.ifCond .ne 5, 3) := by decide +kernel
theorem dc_Re_readCompared_47 : decode M_Re_readCompared.2.1 47 = .ok (.iconst 0, 1) := by decide +kernel
theorem dc_Re_readCompared_48 : decode M_Re_readCompared.2.1 48 = .ok (.ireturn, 1) := by decide +kernel
theorem dc_Re_readCompared_49 : decode M_Re_readCompared.2.1 49 = .ok (.aload_n 0, 1) := by decide +kernel
theorem dc_Re_readCompared_50 : decode M_Re_readCompared.2.1 50 = .ok (.iload_n 2, 1) := by decide +kernel
theorem dc_Re_readCompared_51 : decode M_Re_readCompared.2.1 51 = .ok (.bipush 60, 2) := by decide +kernel
theorem dc_Re_readCompared_53 : decode M_Re_readCompared.2.1 53 = .ok (.if_icmp .ne 8, 3) := by decide +kernel
theorem dc_Re_readCompared_56 : decode M_Re_readCompared.2.1 56 = .ok (.bipush (-4), 2) := by decide +kernel
theorem dc_Re_readCompared_58 : decode M_Re_readCompared.2.1 58 = .ok (.goto 5, 3) := by decide +kernel
theorem dc_Re_readCompared_61 : decode M_Re_readCompared.2.1 61 = .ok (.bipush (-5), 2) := by decide +kernel
theorem dc_Re_readCompared_63 : decode M_Re_readCompared.2.1 63 = .ok (.invokevirtual 66, 3) := by decide +kernel
theorem dc_Re_readCompared_66 : decode M_Re_readCompared.2.1 66 = .ok (.iconst 1, 1) := by decide +kernel
theorem dc_Re_readCompared_67 : decode M_Re_readCompared.2.1 67 = .ok (.ireturn, 1) := by decide +kernel
theorem dc_Re_readEither_0 : decode M_Re_readEither.2.1 0 = .ok (.aload_n 0, 1) := by decide +kernel
theorem dc_Re_readEither_1 : decode M_Re_readEither.2.1 1 = .ok (.iload_n 1, 1) := by decide +kernel
theorem dc_Re_readEither_2 : decode M_Re_readEither.2.1 2 = .ok (.invokevirtual 63, 3) := by decide +kernel
theorem dc_Re_readEither_5 : decode M_Re_readEither.2.1 5 = .ok (.ifCond .ne 5, 3) := by decide +kernel
theorem dc_Re_readEither_8 : decode M_Re_readEither.2.1 8 = .ok (.iconst 0, 1) := by decide +kernel
theorem dc_Re_readEither_9 : decode M_Re_readEither.2.1 9 = .ok (.ireturn, 1) := by decide +kernel
theorem dc_Re_readEither_10 : decode M_Re_readEither.2.1 10 = .ok (.iconst 0, 1) := by decide +kernel
theorem dc_Re_readEither_11 : decode M_Re_readEither.2.1 11 = .ok (.istore_n 2, 1) := by decide +kernel
theorem dc_Re_readEither_12 : decode M_Re_readEither.2.1 12 = .ok (.iload_n 2, 1) := by decide +kernel
theorem dc_Re_readEither_13 : decode M_Re_readEither.2.1 13 = .ok (.sipush 160, 3) := by decide +kernel
theorem dc_Re_readEither_16 : decode M_Re_readEither.2.1 16 = .ok (.if_icmp .ge 39, 3) := by decide +kernel
theorem dc_Re_readEither_19 : decode M_Re_readEither.2.1 19 = .ok (.aload_n 0, 1) := by decide +kernel
theorem dc_Re_readEither_20 : decode M_Re_readEither.2.1 20 = .ok (.getfield 60, 3) := by decide +kernel
theorem dc_Re_readEither_23 : decode M_Re_readEither.2.1 23 = .ok (.sipush 265, 3) := by decide +kernel
theorem dc_Re_readEither_26 : decode M_Re_readEither.2.1 26 = .ok (.if_icmp .ne 29, 3) := by decide +kernel
theorem dc_Re_readEither_29 : decode M_Re_readEither.2.1 29 = .ok (.aload_n 0, 1) := by decide +kernel
theorem dc_Re_readEither_30 : decode M_Re_readEither.2.1 30 = .ok (.invokevirtual 47, 3) := by decide +kernel
theorem dc_Re_readEither_33 : decode M_Re_readEither.2.1 33 = .ok (.aload_n 0, 1) := by decide +kernel
theorem dc_Re_readEither_34 : decode M_Re_readEither.2.1 34 = .ok (.iload_n 1, 1) := by decide +kernel
theorem dc_Re_readEither_35 : decode M_Re_readEither.2.1 35 = .ok (.invokevirtual 63, 3) := by decide +kernel
theorem dc_Re_readEither_38 : decode M_Re_readEither.2.1 38 = .ok (.ifCond .ne 5, 3) := by decide +kernel
theorem dc_Re_readEither_41 : decode M_Re_readEither.2.1 41 = .ok (.iconst 0, 1) := by decide +kernel
theorem dc_Re_readEither_42 : decode M_Re_readEither.2.1 42 = .ok (.ireturn, 1) := by decide +kernel
theorem dc_Re_readEither_43 : decode M_Re_readEither.2.1 43 = .ok (.aload_n 0, 1) := by decide +kernel
theorem dc_Re_readEither_44 : decode M_Re_readEither.2.1 44 = .ok (.bipush (-6), 2) := by decide +kernel
theorem dc_Re_readEither_46 : decode M_Re_readEither.2.1 46 = .ok (.invokevirtual 66, 3) := by decide +kernel
theorem dc_Re_readEither_49 : decode M_Re_readEither.2.1 49 = .ok (.iinc 2 1, 3) := by decide +kernel
theorem dc_Re_readEither_52 : decode M_Re_readEither.2.1 52 = .ok (.goto (-40), 3) := by decide +kernel
theorem dc_Re_readEither_55 : decode M_Re_readEither.2.1 55 = .ok (.iconst 1, 1) := by decide +kernel
theorem dc_Re_readEither_56 : decode M_Re_readEither.2.1 56 = .ok (.ireturn, 1) := by decide +kernel
theorem dc_Re_readNot_0 : decode M_Re_readNot.2.1 0 = .ok (.iconst 0, 1) := by decide +kernel
theorem dc_Re_readNot_1 : decode M_Re_readNot.2.1 1 = .ok (.istore_n 2, 1) := by decide +kernel
theorem dc_Re_readNot_2 : decode M_Re_readNot.2.1 2 = .ok (.aload_n 0, 1) := by decide +kernel
theorem dc_Re_readNot_3 : decode M_Re_readNot.2.1 3 = .ok (.getfield 60, 3) := by decide +kernel
theorem dc_Re_readNot_6 : decode M_Re_readNot.2.1 6 = .ok (.sipush 267, 3) := by decide +kernel
theorem dc_Re_readNot_9 : decode M_Re_readNot.2.1 9 = .ok (.if_icmp .ne 20, 3) := by decide +kernel
theorem dc_Re_readNot_12 : decode M_Re_readNot.2.1 12 = .ok (.iload_n 1, 1) := by decide +kernel
theorem dc_Re_readNot_13 : decode M_Re_readNot.2.1 13 = .ok (.iload_n 2, 1) := by decide +kernel
theorem dc_Re_readNot_14 : decode M_Re_readNot.2.1 14 = .ok (.iadd, 1) := by decide +kernel
theorem dc_Re_readNot_15 : decode M_Re_readNot.2.1 15 = .ok (.iconst 5, 1) := by decide +kernel
theorem dc_Re_readNot_16 : decode M_Re_readNot.2.1 16 = .ok (.if_icmp .ge 13, 3) := by decide +kernel
theorem dc_Re_readNot_19 : decode M_Re_readNot.2.1 19 = .ok (.aload_n 0, 1) := by decide +kernel
theorem dc_Re_readNot_20 : decode M_Re_readNot.2.1 20 = .ok (.invokevirtual 47, 3) := by decide +kernel
theorem dc_Re_readNot_23 : decode M_Re_readNot.2.1 23 = .ok (.iinc 2 1, 3) := by decide +kernel
theorem dc_Re_readNot_26 : decode M_Re_readNot.2.1 26 = .ok (.goto (-24), 3) := by decide +kernel
theorem dc_Re_readNot_29 : decode M_Re_readNot.2.1 29 = .ok (.aload_n 0, 1) := by decide +kernel
theorem dc_Re_readNot_30 : decode M_Re_readNot.2.1 30 = .ok (.iload_n 1, 1) := by decide +kernel
theorem dc_Re_readNot_31 : decode M_Re_readNot.2.1 31 = .ok (.iload_n 2, 1) := by decide +kernel
theorem dc_Re_readNot_32 : decode M_Re_readNot.2.1 32 = .ok (.iadd, 1) := by decide +kernel
theorem dc_Re_readNot_33 : decode M_Re_readNot.2.1 33 = .ok (.invokevirtual 73, 3) := by decide +kernel
theorem dc_Re_readNot_36 : decode M_Re_readNot.2.1 36 = .ok (.ifCond .ne 5, 3) := by decide +kernel
theorem dc_Re_readNot_39 : decode M_Re_readNot.2.1 39 = .ok (.iconst 0, 1) := by decide +kernel
theorem dc_Re_readNot_40 : decode M_Re_readNot.2.1 40 = .ok (.ireturn, 1) := by decide +kernel
theorem dc_Re_readNot_41 : decode M_Re_readNot.2.1 41 = .ok (.iconst 0, 1) := by decide +kernel
theorem dc_Re_readNot_42 : decode M_Re_readNot.2.1 42 = .ok (.istore_n 3, 1) := by decide +kernel
theorem dc_Re_readNot_43 : decode M_Re_readNot.2.1 43 = .ok (.iload_n 3, 1) := by decide +kernel
theorem dc_Re_readNot_44 : decode M_Re_readNot.2.1 44 = .ok (.iload_n 2, 1) := by decide +kernel
theorem dc_Re_readNot_45 : decode M_Re_readNot.2.1 45 = .ok (.if_icmp .ge 15, 3) := by decide +kernel
theorem dc_Re_readNot_48 : decode M_Re_readNot.2.1 48 = .ok (.aload_n 0, 1) := by decide +kernel
theorem dc_Re_readNot_49 : decode M_Re_readNot.2.1 49 = .ok (.bipush (-8), 2) := by decide +kernel
theorem dc_Re_readNot_51 : decode M_Re_readNot.2.1 51 = .ok (.invokevirtual 66, 3) := by decide +kernel
theorem dc_Re_readNot_54 : decode M_Re_readNot.2.1 54 = .ok (.iinc 3 1, 3) := by decide +kernel
theorem dc_Re_readNot_57 : decode M_Re_readNot.2.1 57 = .ok (.goto (-14), 3) := by decide +kernel
theorem dc_Re_readNot_60 : decode M_Re_readNot.2.1 60 = .ok (.iconst 1, 1) := by decide +kernel
theorem dc_Re_readNot_61 : decode M_Re_readNot.2.1 61 = .ok (.ireturn, 1) := by decide +kernel
theorem dc_Re_readOne_0 : decode M_Re_readOne.2.1 0 = .ok (.iconst 0, 1) := by decide +kernel
theorem dc_Re_readOne_1 : decode M_Re_readOne.2.1 1 = .ok (.istore_n 2, 1) := by decide +kernel
theorem dc_Re_readOne_2 : decode M_Re_readOne.2.1 2 = .ok (.aload_n 0, 1) := by decide +kernel
theorem dc_Re_readOne_3 : decode M_Re_readOne.2.1 3 = .ok (.getfield 60, 3) := by decide +kernel
theorem dc_Re_readOne_6 : decode M_Re_readOne.2.1 6 = .ok (.bipush 45, 2) := by decide +kernel
theorem dc_Re_readOne_8 : decode M_Re_readOne.2.1 8 = .ok (.if_icmp .ne 20, 3) := by decide +kernel
theorem dc_Re_readOne_11 : decode M_Re_readOne.2.1 11 = .ok (.iload_n 1, 1) := by decide +kernel
theorem dc_Re_readOne_12 : decode M_Re_readOne.2.1 12 = .ok (.iload_n 2, 1) := by decide +kernel
theorem dc_Re_readOne_13 : decode M_Re_readOne.2.1 13 = .ok (.iadd, 1) := by decide +kernel
theorem dc_Re_readOne_14 : decode M_Re_readOne.2.1 14 = .ok (.iconst 5, 1) := by decide +kernel
theorem dc_Re_readOne_15 : decode M_Re_readOne.2.1 15 = .ok (.if_icmp .ge 13, 3) := by decide +kernel
theorem dc_Re_readOne_18 : decode M_Re_readOne.2.1 18 = .ok (.aload_n 0, 1) := by decide +kernel
theorem dc_Re_readOne_19 : decode M_Re_readOne.2.1 19 = .ok (.invokevirtual 47, 3) := by decide +kernel
theorem dc_Re_readOne_22 : decode M_Re_readOne.2.1 22 = .ok (.iinc 2 1, 3) := by decide +kernel
theorem dc_Re_readOne_25 : decode M_Re_readOne.2.1 25 = .ok (.goto (-23), 3) := by decide +kernel
theorem dc_Re_readOne_28 : decode M_Re_readOne.2.1 28 = .ok (.aload_n 0, 1) := by decide +kernel
theorem dc_Re_readOne_29 : decode M_Re_readOne.2.1 29 = .ok (.iload_n 1, 1) := by decide +kernel
theorem dc_Re_readOne_30 : decode M_Re_readOne.2.1 30 = .ok (.iload_n 2, 1) := by decide +kernel
theorem dc_Re_readOne_31 : decode M_Re_readOne.2.1 31 = .ok (.iadd, 1) := by decide +kernel
theorem dc_Re_readOne_32 : decode M_Re_readOne.2.1 32 = .ok (.invokevirtual 85, 3) := by decide +kernel
theorem dc_Re_readOne_35 : decode M_Re_readOne.2.1 35 = .ok (.ifCond .ne 5, 3) := by decide +kernel
theorem dc_Re_readOne_38 : decode M_Re_readOne.2.1 38 = .ok (.iconst 0, 1) := by decide +kernel
theorem dc_Re_readOne_39 : decode M_Re_readOne.2.1 39 = .ok (.ireturn, 1) := by decide +kernel
theorem dc_Re_readOne_40 : decode M_Re_readOne.2.1 40 = .ok (.iconst 0, 1) := by decide +kernel
theorem dc_Re_readOne_41 : decode M_Re_readOne.2.1 41 = .ok (.istore_n 3, 1) := by decide +kernel
theorem dc_Re_readOne_42 : decode M_Re_readOne.2.1 42 = .ok (.iload_n 3, 1) := by decide +kernel
theorem dc_Re_readOne_43 : decode M_Re_readOne.2.1 43 = .ok (.iload_n 2, 1) := by decide +kernel
theorem dc_Re_readOne_44 : decode M_Re_readOne.2.1 44 = .ok (.if_icmp .ge 15, 3) := by decide +kernel
theorem dc_Re_readOne_47 : decode M_Re_readOne.2.1 47 = .ok (.aload_n 0, 1) := by decide +kernel
theorem dc_Re_readOne_48 : decode M_Re_readOne.2.1 48 = .ok (.bipush (-9), 2) := by decide +kernel
theorem dc_Re_readOne_50 : decode M_Re_readOne.2.1 50 = .ok (.invokevirtual 66, 3) := by decide +kernel
theorem dc_Re_readOne_53 : decode M_Re_readOne.2.1 53 = .ok (.iinc 3 1, 3) := by decide +kernel
theorem dc_Re_readOne_56 : decode M_Re_readOne.2.1 56 = .ok (.goto (-14), 3) := by decide +kernel
theorem dc_Re_readOne_59 : decode M_Re_readOne.2.1 59 = .ok (.iconst 1, 1) := by decide +kernel
theorem dc_Re_readOne_60 : decode M_Re_readOne.2.1 60 = .ok (.ireturn, 1) := by decide +kernel
theorem dc_Re_readPlain_0 : decode M_Re_readPlain.2.1 0 = .ok (.aload_n 0, 1) := by decide +kernel
theorem dc_Re_readPlain_1 : decode M_Re_readPlain.2.1 1 = .ok (.getfield 60, 3) := by decide +kernel
theorem dc_Re_readPlain_4 : decode M_Re_readPlain.2.1 4 = .ok (.iconst 1, 1) := by decide +kernel
theorem dc_Re_readPlain_5 : decode M_Re_readPlain.2.1 5 = .ok (.if_icmp .ne 14, 3) := by decide +kernel
theorem dc_Re_readPlain_8 : decode M_Re_readPlain.2.1 8 = .ok (.aload_n 0, 1) := by decide +kernel
theorem dc_Re_readPlain_9 : decode M_Re_readPlain.2.1 9 = .ok (.aload_n 0, 1) := by decide +kernel
theorem dc_Re_readPlain_10 : decode M_Re_readPlain.2.1 10 = .ok (.getfield 88, 3) := by decide +kernel
theorem dc_Re_readPlain_13 : decode M_Re_readPlain.2.1 13 = .ok (.invokevirtual 66, 3) := by decide +kernel
theorem dc_Re_readPlain_16 : decode M_Re_readPlain.2.1 16 = .ok (.goto 87, 3) := by decide +kernel
theorem dc_Re_readPlain_19 : decode M_Re_readPlain.2.1 19 = .ok (.aload_n 0, 1) := by decide +kernel
theorem dc_Re_readPlain_20 : decode M_Re_readPlain.2.1 20 = .ok (.getfield 60, 3) := by decide +kernel
theorem dc_Re_readPlain_23 : decode M_Re_readPlain.2.1 23 = .ok (.sipush 256, 3) := by decide +kernel
theorem dc_Re_readPlain_26 : decode M_Re_readPlain.2.1 26 = .ok (.if_icmp .lt 32, 3) := by decide +kernel
theorem dc_Re_readPlain_29 : decode M_Re_readPlain.2.1 29 = .ok (.aload_n 0, 1) := by decide +kernel
theorem dc_Re_readPlain_30 : decode M_Re_readPlain.2.1 30 = .ok (.getfield 60, 3) := by decide +kernel
theorem dc_Re_readPlain_33 : decode M_Re_readPlain.2.1 33 = .ok (.sipush 262, 3) := by decide +kernel
theorem dc_Re_readPlain_36 : decode M_Re_readPlain.2.1 36 = .ok (.if_icmp .ge 22, 3) := by decide +kernel
theorem dc_Re_readPlain_39 : decode M_Re_readPlain.2.1 39 = .ok (.aload_n 0, 1) := by decide +kernel
theorem dc_Re_readPlain_40 : decode M_Re_readPlain.2.1 40 = .ok (.sipush 10000, 3) := by decide +kernel
theorem dc_Re_readPlain_43 : decode M_Re_readPlain.2.1 43 = .ok (.aload_n 0, 1) := by decide +kernel
theorem dc_Re_readPlain_44 : decode M_Re_readPlain.2.1 44 = .ok (.getfield 60, 3) := by decide +kernel
theorem dc_Re_readPlain_47 : decode M_Re_readPlain.2.1 47 = .ok (.iadd, 1) := by decide +kernel
theorem dc_Re_readPlain_48 : decode M_Re_readPlain.2.1 48 = .ok (.sipush 256, 3) := by decide +kernel
theorem dc_Re_readPlain_51 : decode M_Re_readPlain.2.1 51 = .ok (.isub, 1) := by decide +kernel
theorem dc_Re_readPlain_52 : decode M_Re_readPlain.2.1 52 = .ok (.invokevirtual 66, 3) := by decide +kernel
theorem dc_Re_readPlain_55 : decode M_Re_readPlain.2.1 55 = .ok (.goto 48, 3) := by decide +kernel
theorem dc_Re_readPlain_58 : decode M_Re_readPlain.2.1 58 = .ok (.aload_n 0, 1) := by decide +kernel
theorem dc_Re_readPlain_59 : decode M_Re_readPlain.2.1 59 = .ok (.getfield 60, 3) := by decide +kernel
theorem dc_Re_readPlain_62 : decode M_Re_readPlain.2.1 62 = .ok (.bipush 40, 2) := by decide +kernel
theorem dc_Re_readPlain_64 : decode M_Re_readPlain.2.1 64 = .ok (.if_icmp .ne 8, 3) := by decide +kernel
theorem dc_Re_readPlain_67 : decode M_Re_readPlain.2.1 67 = .ok (.iload_n 1, 1) := by decide +kernel
theorem dc_Re_readPlain_68 : decode M_Re_readPlain.2.1 68 = .ok (.iconst 5, 1) := by decide +kernel
theorem dc_Re_readPlain_69 : decode M_Re_readPlain.2.1 69 = .ok (.if_icmp .lt 5, 3) := by decide +kernel
theorem dc_Re_readPlain_72 : decode M_Re_readPlain.2.1 72 = .ok (.iconst 0, 1) := by decide +kernel
theorem dc_Re_readPlain_73 : decode M_Re_readPlain.2.1 73 = .ok (.ireturn, 1) := by decide +kernel
theorem dc_Re_readPlain_74 : decode M_Re_readPlain.2.1 74 = .ok (.aload_n 0, 1) := by decide +kernel
theorem dc_Re_readPlain_75 : decode M_Re_readPlain.2.1 75 = .ok (.invokevirtual 47, 3) := by decide +kernel
theorem dc_Re_readPlain_78 : decode M_Re_readPlain.2.1 78 = .ok (.aload_n 0, 1) := by decide +kernel
theorem dc_Re_readPlain_79 : decode M_Re_readPlain.2.1 79 = .ok (.iload_n 1, 1) := by decide +kernel
theorem dc_Re_readPlain_80 : decode M_Re_readPlain.2.1 80 = .ok (.iconst 1, 1) := by decide +kernel
theorem dc_Re_readPlain_81 : decode M_Re_readPlain.2.1 81 = .ok (.iadd, 1) := by decide +kernel
theorem dc_Re_readPlain_82 : decode M_Re_readPlain.2.1 82 = .ok (.invokevirtual 54, 3) := by decide +kernel
theorem dc_Re_readPlain_85 : decode M_Re_readPlain.2.1 85 = .ok (.ifCond .eq 16, 3) := by decide +kernel
theorem dc_Re_readPlain_88 : decode M_Re_readPlain.2.1 88 = .ok (.aload_n 0, 1) := by decide +kernel
theorem dc_Re_readPlain_89 : decode M_Re_readPlain.2.1 89 = .ok (.bipush 41, 2) := by decide +kernel
theorem dc_Re_readPlain_91 : decode M_Re_readPlain.2.1 91 = .ok (.invokevirtual 50, 3) := by decide +kernel
theorem dc_Re_readPlain_94 : decode M_Re_readPlain.2.1 94 = .ok (.ifCond .eq 7, 3) := by decide +kernel
theorem dc_Re_readPlain_97 : decode M_Re_readPlain.2.1 97 = .ok (.iconst 1, 1) := by decide +kernel
theorem dc_Re_readPlain_98 : decode M_Re_readPlain.2.1 98 = .ok (.goto 4, 3) := by decide +kernel
theorem dc_Re_readPlain_101 : decode M_Re_readPlain.2.1 101 = .ok (.iconst 0, 1) := by decide +kernel
theorem dc_Re_readPlain_102 : decode M_Re_readPlain.2.1 102 = .ok (.ireturn, 1) := by decide +kernel
theorem dc_Re_readPlain_103 : decode M_Re_readPlain.2.1 103 = .ok (.aload_n 0, 1) := by decide +kernel
theorem dc_Re_readPlain_104 : decode M_Re_readPlain.2.1 104 = .ok (.invokevirtual 47, 3) := by decide +kernel
theorem dc_Re_readPlain_107 : decode M_Re_readPlain.2.1 107 = .ok (.iconst 1, 1) := by decide +kernel
theorem dc_Re_readPlain_108 : decode M_Re_readPlain.2.1 108 = .ok (.ireturn, 1) := by decide +kernel
theorem dc_Re_readSum_0 : decode M_Re_readSum.2.1 0 = .ok (.aload_n 0, 1) := by decide +kernel
theorem dc_Re_readSum_1 : decode M_Re_readSum.2.1 1 = .ok (.iload_n 1, 1) := by decide +kernel
theorem dc_Re_readSum_2 : decode M_Re_readSum.2.1 2 = .ok (.invokevirtual 79, 3) := by decide +kernel
theorem dc_Re_readSum_5 : decode M_Re_readSum.2.1 5 = .ok (.ifCond .ne 5, 3) := by decide +kernel
theorem dc_Re_readSum_8 : decode M_Re_readSum.2.1 8 = .ok (.iconst 0, 1) := by decide +kernel
theorem dc_Re_readSum_9 : decode M_Re_readSum.2.1 9 = .ok (.ireturn, 1) := by decide +kernel
theorem dc_Re_readSum_10 : decode M_Re_readSum.2.1 10 = .ok (.iconst 0, 1) := by decide +kernel
theorem dc_Re_readSum_11 : decode M_Re_readSum.2.1 11 = .ok (.istore_n 2, 1) := by decide +kernel
theorem dc_Re_readSum_12 : decode M_Re_readSum.2.1 12 = .ok (.iload_n 2, 1) := by decide +kernel
theorem dc_Re_readSum_13 : decode M_Re_readSum.2.1 13 = .ok (.sipush 160, 3) := by decide +kernel
theorem dc_Re_readSum_16 : decode M_Re_readSum.2.1 16 = .ok (.if_icmp .ge 62, 3) := by decide +kernel
theorem dc_Re_readSum_19 : decode M_Re_readSum.2.1 19 = .ok (.aload_n 0, 1) := by decide +kernel
theorem dc_Re_readSum_20 : decode M_Re_readSum.2.1 20 = .ok (.getfield 60, 3) := by decide +kernel
theorem dc_Re_readSum_23 : decode M_Re_readSum.2.1 23 = .ok (.bipush 43, 2) := by decide +kernel
theorem dc_Re_readSum_25 : decode M_Re_readSum.2.1 25 = .ok (.if_icmp .eq 12, 3) := by decide +kernel
theorem dc_Re_readSum_28 : decode M_Re_readSum.2.1 28 = .ok (.aload_n 0, 1) := by decide +kernel
theorem dc_Re_readSum_29 : decode M_Re_readSum.2.1 29 = .ok (.getfield 60, 3) := by decide +kernel
theorem dc_Re_readSum_32 : decode M_Re_readSum.2.1 32 = .ok (.bipush 45, 2) := by decide +kernel
theorem dc_Re_readSum_34 : decode M_Re_readSum.2.1 34 = .ok (.if_icmp .ne 44, 3) := by decide +kernel
theorem dc_Re_readSum_37 : decode M_Re_readSum.2.1 37 = .ok (.aload_n 0, 1) := by decide +kernel
theorem dc_Re_readSum_38 : decode M_Re_readSum.2.1 38 = .ok (.getfield 60, 3) := by decide +kernel
theorem dc_Re_readSum_41 : decode M_Re_readSum.2.1 41 = .ok (.istore_n 3, 1) := by decide +kernel
theorem dc_Re_readSum_42 : decode M_Re_readSum.2.1 42 = .ok (.aload_n 0, 1) := by decide +kernel
theorem dc_Re_readSum_43 : decode M_Re_readSum.2.1 43 = .ok (.invokevirtual 47, 3) := by decide +kernel
theorem dc_Re_readSum_46 : decode M_Re_readSum.2.1 46 = .ok (.aload_n 0, 1) := by decide +kernel
theorem dc_Re_readSum_47 : decode M_Re_readSum.2.1 47 = .ok (.iload_n 1, 1) := by decide +kernel
theorem dc_Re_readSum_48 : decode M_Re_readSum.2.1 48 = .ok (.invokevirtual 79, 3) := by decide +kernel
theorem dc_Re_readSum_51 : decode M_Re_readSum.2.1 51 = .ok (.ifCond .ne 5, 3) := by decide +kernel
theorem dc_Re_readSum_54 : decode M_Re_readSum.2.1 54 = .ok (.iconst 0, 1) := by decide +kernel
theorem dc_Re_readSum_55 : decode M_Re_readSum.2.1 55 = .ok (.ireturn, 1) := by decide +kernel
theorem dc_Re_readSum_56 : decode M_Re_readSum.2.1 56 = .ok (.aload_n 0, 1) := by decide +kernel
theorem dc_Re_readSum_57 : decode M_Re_readSum.2.1 57 = .ok (.iload_n 3, 1) := by decide +kernel
theorem dc_Re_readSum_58 : decode M_Re_readSum.2.1 58 = .ok (.bipush 43, 2) := by decide +kernel
theorem dc_Re_readSum_60 : decode M_Re_readSum.2.1 60 = .ok (.if_icmp .ne 7, 3) := by decide +kernel
theorem dc_Re_readSum_63 : decode M_Re_readSum.2.1 63 = .ok (.iconst (-1), 1) := by decide +kernel
theorem dc_Re_readSum_64 : decode M_Re_readSum.2.1 64 = .ok (.goto 5, 3) := by decide +kernel
theorem dc_Re_readSum_67 : decode M_Re_readSum.2.1 67 = .ok (.bipush (-2), 2) := by decide +kernel
theorem dc_Re_readSum_69 : decode M_Re_readSum.2.1 69 = .ok (.invokevirtual 66, 3) := by decide +kernel
theorem dc_Re_readSum_72 : decode M_Re_readSum.2.1 72 = .ok (.iinc 2 1, 3) := by decide +kernel
theorem dc_Re_readSum_75 : decode M_Re_readSum.2.1 75 = .ok (.goto (-63), 3) := by decide +kernel
theorem dc_Re_readSum_78 : decode M_Re_readSum.2.1 78 = .ok (.iconst 1, 1) := by decide +kernel
theorem dc_Re_readSum_79 : decode M_Re_readSum.2.1 79 = .ok (.ireturn, 1) := by decide +kernel
theorem dc_Re_readTerm_0 : decode M_Re_readTerm.2.1 0 = .ok (.aload_n 0, 1) := by decide +kernel
theorem dc_Re_readTerm_1 : decode M_Re_readTerm.2.1 1 = .ok (.iload_n 1, 1) := by decide +kernel
theorem dc_Re_readTerm_2 : decode M_Re_readTerm.2.1 2 = .ok (.invokevirtual 82, 3) := by decide +kernel
theorem dc_Re_readTerm_5 : decode M_Re_readTerm.2.1 5 = .ok (.ifCond .ne 5, 3) := by decide +kernel
theorem dc_Re_readTerm_8 : decode M_Re_readTerm.2.1 8 = .ok (.iconst 0, 1) := by decide +kernel
theorem dc_Re_readTerm_9 : decode M_Re_readTerm.2.1 9 = .ok (.ireturn, 1) := by decide +kernel
theorem dc_Re_readTerm_10 : decode M_Re_readTerm.2.1 10 = .ok (.iconst 0, 1) := by decide +kernel
theorem dc_Re_readTerm_11 : decode M_Re_readTerm.2.1 11 = .ok (.istore_n 2, 1) := by decide +kernel
theorem dc_Re_readTerm_12 : decode M_Re_readTerm.2.1 12 = .ok (.iload_n 2, 1) := by decide +kernel
theorem dc_Re_readTerm_13 : decode M_Re_readTerm.2.1 13 = .ok (.sipush 160, 3) := by decide +kernel
theorem dc_Re_readTerm_16 : decode M_Re_readTerm.2.1 16 = .ok (.if_icmp .ge 38, 3) := by decide +kernel
theorem dc_Re_readTerm_19 : decode M_Re_readTerm.2.1 19 = .ok (.aload_n 0, 1) := by decide +kernel
theorem dc_Re_readTerm_20 : decode M_Re_readTerm.2.1 20 = .ok (.getfield 60, 3) := by decide +kernel
theorem dc_Re_readTerm_23 : decode M_Re_readTerm.2.1 23 = .ok (.bipush 42, 2) := by decide +kernel
theorem dc_Re_readTerm_25 : decode M_Re_readTerm.2.1 25 = .ok (.if_icmp .ne 29, 3) := by decide +kernel
theorem dc_Re_readTerm_28 : decode M_Re_readTerm.2.1 28 = .ok (.aload_n 0, 1) := by decide +kernel
theorem dc_Re_readTerm_29 : decode M_Re_readTerm.2.1 29 = .ok (.invokevirtual 47, 3) := by decide +kernel
theorem dc_Re_readTerm_32 : decode M_Re_readTerm.2.1 32 = .ok (.aload_n 0, 1) := by decide +kernel
theorem dc_Re_readTerm_33 : decode M_Re_readTerm.2.1 33 = .ok (.iload_n 1, 1) := by decide +kernel
theorem dc_Re_readTerm_34 : decode M_Re_readTerm.2.1 34 = .ok (.invokevirtual 82, 3) := by decide +kernel
theorem dc_Re_readTerm_37 : decode M_Re_readTerm.2.1 37 = .ok (.ifCond .ne 5, 3) := by decide +kernel
theorem dc_Re_readTerm_40 : decode M_Re_readTerm.2.1 40 = .ok (.iconst 0, 1) := by decide +kernel
theorem dc_Re_readTerm_41 : decode M_Re_readTerm.2.1 41 = .ok (.ireturn, 1) := by decide +kernel
theorem dc_Re_readTerm_42 : decode M_Re_readTerm.2.1 42 = .ok (.aload_n 0, 1) := by decide +kernel
theorem dc_Re_readTerm_43 : decode M_Re_readTerm.2.1 43 = .ok (.bipush (-3), 2) := by decide +kernel
theorem dc_Re_readTerm_45 : decode M_Re_readTerm.2.1 45 = .ok (.invokevirtual 66, 3) := by decide +kernel
theorem dc_Re_readTerm_48 : decode M_Re_readTerm.2.1 48 = .ok (.iinc 2 1, 3) := by decide +kernel
theorem dc_Re_readTerm_51 : decode M_Re_readTerm.2.1 51 = .ok (.goto (-39), 3) := by decide +kernel
theorem dc_Re_readTerm_54 : decode M_Re_readTerm.2.1 54 = .ok (.iconst 1, 1) := by decide +kernel
theorem dc_Re_readTerm_55 : decode M_Re_readTerm.2.1 55 = .ok (.ireturn, 1) := by decide +kernel
def f_Re_readPlain (R0 : Nat → Int32 → xH → Option (Int32 × xH)) (a0 : Nat) (a1 : Int32) (h : xH) : Option (Int32 × xH) := gd (hK h a0 = 1) (jn (fun (x12 : xH) => gd (hK x12 a0 = 1) (Option.bind (f_Re_advance a0 x12) (fun q14 => some ((1 : Int32), q14.2)))) (fun k13 => if (hI h a0 4) = (1 : Int32) then Option.bind (f_Re_write a0 (hI h a0 5) h) (fun q37 => k13 q37.2) else jn (fun (x17 : Unit) => jn (fun (x19 : Unit) => some ((0 : Int32), h)) (fun k20 => if (hI h a0 4) = (40 : Int32) then if a1 < (5 : Int32) then Option.bind (f_Re_advance a0 h) (fun q23 => gd (hK q23.2 a0 = 1) (Option.bind (R0 a0 (a1 + (1 : Int32)) q23.2) (fun q24 => jn (fun (x26 : Int32 × xH) => some (nb x26.1, x26.2)) (fun k27 => jn (fun (x28 : xH) => k27 ((0 : Int32), x28)) (fun k29 => if q24.1 = 0 then k29 q24.2 else gd (hK q24.2 a0 = 1) (Option.bind (f_Re_takes a0 (41 : Int32) q24.2) (fun q31 => if q31.1 = 0 then k29 q31.2 else k27 ((1 : Int32), q31.2)))))))) else k20 () else k20 ())) (fun k18 => if (hI h a0 4) < (256 : Int32) then k18 () else if (262 : Int32) ≤ (hI h a0 4) then k18 () else Option.bind (f_Re_write a0 (((10000 : Int32) + (hI h a0 4)) - (256 : Int32)) h) (fun q36 => k13 q36.2))))
def f_Re_readOne_L2 (R0 : Nat → Int32 → xH → Option (Int32 × xH)) (a0 : Nat) (a1 : Int32) : Nat → Int32 → xH → (Int32 → xH → Option (Int32 × xH)) → Option (Int32 × xH)
  | 0, _, _, _ => none
  | n + 1, a2, h, K => gd (hK h a0 = 1) (if (hI h a0 4) = (45 : Int32) then if (5 : Int32) ≤ (a1 + a2) then K a2 h else Option.bind (f_Re_advance a0 h) (fun q9 => f_Re_readOne_L2 R0 a0 a1 n (a2 + (1 : Int32)) q9.2 K) else K a2 h)
def f_Re_readOne_L42 (R0 : Nat → Int32 → xH → Option (Int32 × xH)) (a0 : Nat) (a1 : Int32) (a2 : Int32) : Nat → Int32 → xH → (Int32 → xH → Option (Int32 × xH)) → Option (Int32 × xH)
  | 0, _, _, _ => none
  | n + 1, a3, h, K => if a2 ≤ a3 then K a3 h else gd (hK h a0 = 1) (Option.bind (f_Re_write a0 (-9 : Int32) h) (fun q16 => f_Re_readOne_L42 R0 a0 a1 a2 n (a3 + (1 : Int32)) q16.2 K))
def f_Re_readOne (R0 : Nat → Int32 → xH → Option (Int32 × xH)) (a0 : Nat) (a1 : Int32) (h : xH) : Option (Int32 × xH) := f_Re_readOne_L2 R0 a0 a1 fu (0 : Int32) h (fun v10 h11 => gd (hK h11 a0 = 1) (Option.bind (f_Re_readPlain R0 a0 (a1 + v10) h11) (fun q12 => if q12.1 = 0 then some ((0 : Int32), q12.2) else f_Re_readOne_L42 R0 a0 a1 v10 fu (0 : Int32) q12.2 (fun v18 h19 => some ((1 : Int32), h19)))))
def f_Re_readTerm_L12 (R0 : Nat → Int32 → xH → Option (Int32 × xH)) (a0 : Nat) (a1 : Int32) : Nat → Int32 → xH → (Int32 → xH → Option (Int32 × xH)) → Option (Int32 × xH)
  | 0, _, _, _ => none
  | n + 1, a2, h, K => if (160 : Int32) ≤ a2 then K a2 h else gd (hK h a0 = 1) (if (hI h a0 4) = (42 : Int32) then Option.bind (f_Re_advance a0 h) (fun q15 => gd (hK q15.2 a0 = 1) (Option.bind (f_Re_readOne R0 a0 a1 q15.2) (fun q16 => if q16.1 = 0 then some ((0 : Int32), q16.2) else gd (hK q16.2 a0 = 1) (Option.bind (f_Re_write a0 (-3 : Int32) q16.2) (fun q19 => f_Re_readTerm_L12 R0 a0 a1 n (a2 + (1 : Int32)) q19.2 K))))) else K a2 h)
def f_Re_readTerm (R0 : Nat → Int32 → xH → Option (Int32 × xH)) (a0 : Nat) (a1 : Int32) (h : xH) : Option (Int32 × xH) := gd (hK h a0 = 1) (Option.bind (f_Re_readOne R0 a0 a1 h) (fun q9 => if q9.1 = 0 then some ((0 : Int32), q9.2) else f_Re_readTerm_L12 R0 a0 a1 fu (0 : Int32) q9.2 (fun v21 h22 => some ((1 : Int32), h22))))
def f_Re_readSum_L12 (R0 : Nat → Int32 → xH → Option (Int32 × xH)) (a0 : Nat) (a1 : Int32) : Nat → Int32 → xH → (Int32 → xH → Option (Int32 × xH)) → Option (Int32 × xH)
  | 0, _, _, _ => none
  | n + 1, a2, h, K => if (160 : Int32) ≤ a2 then K a2 h else gd (hK h a0 = 1) (jn (fun (x14 : Unit) => Option.bind (f_Re_advance a0 h) (fun q16 => gd (hK q16.2 a0 = 1) (Option.bind (f_Re_readTerm R0 a0 a1 q16.2) (fun q17 => if q17.1 = 0 then some ((0 : Int32), q17.2) else gd (hK q17.2 a0 = 1) (Option.bind (f_Re_write a0 (if (hI h a0 4) = (43 : Int32) then (-1 : Int32) else (-2 : Int32)) q17.2) (fun q22 => f_Re_readSum_L12 R0 a0 a1 n (a2 + (1 : Int32)) q22.2 K)))))) (fun k15 => if (hI h a0 4) = (43 : Int32) then k15 () else if (hI h a0 4) = (45 : Int32) then k15 () else K a2 h))
def f_Re_readSum (R0 : Nat → Int32 → xH → Option (Int32 × xH)) (a0 : Nat) (a1 : Int32) (h : xH) : Option (Int32 × xH) := gd (hK h a0 = 1) (Option.bind (f_Re_readTerm R0 a0 a1 h) (fun q9 => if q9.1 = 0 then some ((0 : Int32), q9.2) else f_Re_readSum_L12 R0 a0 a1 fu (0 : Int32) q9.2 (fun v26 h27 => some ((1 : Int32), h27))))
def f_Re_readCompared (R0 : Nat → Int32 → xH → Option (Int32 × xH)) (a0 : Nat) (a1 : Int32) (h : xH) : Option (Int32 × xH) := gd (hK h a0 = 1) (Option.bind (f_Re_readSum R0 a0 a1 h) (fun q9 => if q9.1 = 0 then some ((0 : Int32), q9.2) else gd (hK q9.2 a0 = 1) (jn (fun (x13 : Unit) => Option.bind (f_Re_advance a0 q9.2) (fun q15 => gd (hK q15.2 a0 = 1) (Option.bind (f_Re_readSum R0 a0 a1 q15.2) (fun q16 => if q16.1 = 0 then some ((0 : Int32), q16.2) else gd (hK q16.2 a0 = 1) (Option.bind (f_Re_write a0 (if (hI q9.2 a0 4) = (60 : Int32) then (-4 : Int32) else (-5 : Int32)) q16.2) (fun q21 => some ((1 : Int32), q21.2))))))) (fun k14 => if (hI q9.2 a0 4) = (60 : Int32) then k14 () else if (hI q9.2 a0 4) = (61 : Int32) then k14 () else some ((1 : Int32), q9.2)))))
def f_Re_readNot_L2 (R0 : Nat → Int32 → xH → Option (Int32 × xH)) (a0 : Nat) (a1 : Int32) : Nat → Int32 → xH → (Int32 → xH → Option (Int32 × xH)) → Option (Int32 × xH)
  | 0, _, _, _ => none
  | n + 1, a2, h, K => gd (hK h a0 = 1) (if (hI h a0 4) = (267 : Int32) then if (5 : Int32) ≤ (a1 + a2) then K a2 h else Option.bind (f_Re_advance a0 h) (fun q9 => f_Re_readNot_L2 R0 a0 a1 n (a2 + (1 : Int32)) q9.2 K) else K a2 h)
def f_Re_readNot_L43 (R0 : Nat → Int32 → xH → Option (Int32 × xH)) (a0 : Nat) (a1 : Int32) (a2 : Int32) : Nat → Int32 → xH → (Int32 → xH → Option (Int32 × xH)) → Option (Int32 × xH)
  | 0, _, _, _ => none
  | n + 1, a3, h, K => if a2 ≤ a3 then K a3 h else gd (hK h a0 = 1) (Option.bind (f_Re_write a0 (-8 : Int32) h) (fun q16 => f_Re_readNot_L43 R0 a0 a1 a2 n (a3 + (1 : Int32)) q16.2 K))
def f_Re_readNot (R0 : Nat → Int32 → xH → Option (Int32 × xH)) (a0 : Nat) (a1 : Int32) (h : xH) : Option (Int32 × xH) := f_Re_readNot_L2 R0 a0 a1 fu (0 : Int32) h (fun v10 h11 => gd (hK h11 a0 = 1) (Option.bind (f_Re_readCompared R0 a0 (a1 + v10) h11) (fun q12 => if q12.1 = 0 then some ((0 : Int32), q12.2) else f_Re_readNot_L43 R0 a0 a1 v10 fu (0 : Int32) q12.2 (fun v18 h19 => some ((1 : Int32), h19)))))
def f_Re_readBoth_L12 (R0 : Nat → Int32 → xH → Option (Int32 × xH)) (a0 : Nat) (a1 : Int32) : Nat → Int32 → xH → (Int32 → xH → Option (Int32 × xH)) → Option (Int32 × xH)
  | 0, _, _, _ => none
  | n + 1, a2, h, K => if (160 : Int32) ≤ a2 then K a2 h else gd (hK h a0 = 1) (if (hI h a0 4) = (266 : Int32) then Option.bind (f_Re_advance a0 h) (fun q15 => gd (hK q15.2 a0 = 1) (Option.bind (f_Re_readNot R0 a0 a1 q15.2) (fun q16 => if q16.1 = 0 then some ((0 : Int32), q16.2) else gd (hK q16.2 a0 = 1) (Option.bind (f_Re_write a0 (-7 : Int32) q16.2) (fun q19 => f_Re_readBoth_L12 R0 a0 a1 n (a2 + (1 : Int32)) q19.2 K))))) else K a2 h)
def f_Re_readBoth (R0 : Nat → Int32 → xH → Option (Int32 × xH)) (a0 : Nat) (a1 : Int32) (h : xH) : Option (Int32 × xH) := gd (hK h a0 = 1) (Option.bind (f_Re_readNot R0 a0 a1 h) (fun q9 => if q9.1 = 0 then some ((0 : Int32), q9.2) else f_Re_readBoth_L12 R0 a0 a1 fu (0 : Int32) q9.2 (fun v21 h22 => some ((1 : Int32), h22))))
def f_Re_readEither_L12 (R0 : Nat → Int32 → xH → Option (Int32 × xH)) (a0 : Nat) (a1 : Int32) : Nat → Int32 → xH → (Int32 → xH → Option (Int32 × xH)) → Option (Int32 × xH)
  | 0, _, _, _ => none
  | n + 1, a2, h, K => if (160 : Int32) ≤ a2 then K a2 h else gd (hK h a0 = 1) (if (hI h a0 4) = (265 : Int32) then Option.bind (f_Re_advance a0 h) (fun q15 => gd (hK q15.2 a0 = 1) (Option.bind (f_Re_readBoth R0 a0 a1 q15.2) (fun q16 => if q16.1 = 0 then some ((0 : Int32), q16.2) else gd (hK q16.2 a0 = 1) (Option.bind (f_Re_write a0 (-6 : Int32) q16.2) (fun q19 => f_Re_readEither_L12 R0 a0 a1 n (a2 + (1 : Int32)) q19.2 K))))) else K a2 h)
def fb_Re_readEither (R0 : Nat → Int32 → xH → Option (Int32 × xH)) (a0 : Nat) (a1 : Int32) (h : xH) : Option (Int32 × xH) := gd (hK h a0 = 1) (Option.bind (f_Re_readBoth R0 a0 a1 h) (fun q9 => if q9.1 = 0 then some ((0 : Int32), q9.2) else f_Re_readEither_L12 R0 a0 a1 fu (0 : Int32) q9.2 (fun v21 h22 => some ((1 : Int32), h22))))
def G_Re : Nat → Nat → Int32 → xH → Option (Int32 × xH)
  | 0 => fun _ _ _ => none
  | g + 1 => fun a0 a1 h => fb_Re_readEither (G_Re g) a0 a1 h
def f_Re_readEither (a0 : Nat) (a1 : Int32) (h : xH) : Option (Int32 × xH) := G_Re 24 a0 a1 h
theorem t_Re_readPlain {l : Launch} {z : xZ} {d mc ms : Nat} {Ph : Option xV → xH → Prop} {R0 : Nat → Int32 → xH → Option (Int32 × xH)} {B : Nat} (hR0 : ∀ {d mc ms : Nat} {Ph : Option xV → xH → Prop} {a0 : Nat} {a1 : Int32} {h : xH}, B ≤ d → OK (R0 a0 a1 h) (fun q => Ph (some (xI q.1)) q.2) → Sx l z d mc ms M_Re_readEither 0 (x_en [xR a0, xI a1] 3) [] h Ph) {a0 : Nat} {a1 : Int32}  {h : xH} (hd : B + 9 ≤ d) (hk : OK (f_Re_readPlain R0 a0 a1 h) (fun q => Ph (some (xI q.1)) q.2)) : Sx l z d mc ms M_Re_readPlain 0 (x_en [xR a0, xI a1] 2) [] h Ph := by
  unfold f_Re_readPlain at hk
  refine sx_eq (lc2 := [some (xR a0), some (xI a1)]) rfl rfl ?_
  refine sx_aload_n dc_Re_readPlain_0 rfl ?_
  obtain ⟨g11, hk⟩ := hk.g
  refine sx_get (ci := 1) (k := 4) rfl (by decide) wF_Re_60 g11 dc_Re_readPlain_1 ?_
  refine sx_iconst (v := (1 : Int32)) dc_Re_readPlain_4 (by decide) ?_
  refine hk.j (X := fun x12 => Sx l z d mc ms M_Re_readPlain 103 [some (xR a0), some (xI a1)] [] x12 Ph) (fun x12 hk => ?_) (fun k13 jk13 hk => ?_)
  · refine sx_aload_n dc_Re_readPlain_103 rfl ?_
    obtain ⟨g15, hk⟩ := hk.g
    obtain ⟨q14, eq14, hk⟩ := hk.bind
    refine sx_callV (d2 := d - 1) (mc2 := 0) (ms2 := 0) (as := []) mk_Re_advance rfl (x_rk (ci := 1) g15 rfl rfl) wM_Re_47 mi_Re_advance me_Re_advance rfl (Nat.le_of_ble_eq_true rfl) (Nat.le_of_ble_eq_true rfl) dc_Re_readPlain_104 (by omega) (Nat.zero_le _) (Nat.zero_le _) ?_
    refine t_Re_advance (by omega) ⟨q14, eq14, ?_⟩
    refine sx_eq0 (lc2 := [some (xR a0), some (xI a1)]) (st2 := []) rfl rfl ?_
    refine sx_iconst (v := (1 : Int32)) dc_Re_readPlain_107 (by decide) ?_
    exact sx_retT (v := (1 : Int32)) dc_Re_readPlain_108 (Or.inl ⟨rfl, rfl⟩) (by decide) hk.val
  · refine sx_icmp_ne (tgt := 19) dc_Re_readPlain_5 (by decide) (fun c16 => ?_) (fun c16 => ?_)
    · replace hk := hk.f c16
      refine sx_aload_n dc_Re_readPlain_19 rfl ?_
      refine sx_get (ci := 1) (k := 4) rfl (by decide) wF_Re_60 g11 dc_Re_readPlain_20 ?_
      refine sx_sipush (v := (256 : Int32)) dc_Re_readPlain_23 (by decide) ?_
      refine hk.j (X := fun x17 => Sx l z d mc ms M_Re_readPlain 58 [some (xR a0), some (xI a1)] [] h Ph) (fun x17 hk => ?_) (fun k18 jk18 hk => ?_)
      · refine sx_aload_n dc_Re_readPlain_58 rfl ?_
        refine sx_get (ci := 1) (k := 4) rfl (by decide) wF_Re_60 g11 dc_Re_readPlain_59 ?_
        refine sx_bipush (v := (40 : Int32)) dc_Re_readPlain_62 (by decide) ?_
        refine hk.j (X := fun x19 => Sx l z d mc ms M_Re_readPlain 72 [some (xR a0), some (xI a1)] [] h Ph) (fun x19 hk => ?_) (fun k20 jk20 hk => ?_)
        · refine sx_iconst (v := (0 : Int32)) dc_Re_readPlain_72 (by decide) ?_
          exact sx_retT (v := (0 : Int32)) dc_Re_readPlain_73 (Or.inl ⟨rfl, rfl⟩) (by decide) hk.val
        · refine sx_icmp_ne (tgt := 72) dc_Re_readPlain_64 (by decide) (fun c21 => ?_) (fun c21 => ?_)
          · replace hk := hk.f c21
            exact jk20 () hk
          · replace hk := hk.t c21
            refine sx_iload_n dc_Re_readPlain_67 rfl ?_
            refine sx_iconst (v := (5 : Int32)) dc_Re_readPlain_68 (by decide) ?_
            refine sx_icmp_lt (tgt := 74) dc_Re_readPlain_69 (by decide) (fun c22 => ?_) (fun c22 => ?_)
            · replace hk := hk.t c22
              refine sx_aload_n dc_Re_readPlain_74 rfl ?_
              obtain ⟨q23, eq23, hk⟩ := hk.bind
              refine sx_callV (d2 := d - 1) (mc2 := 0) (ms2 := 0) (as := []) mk_Re_advance rfl (x_rk (ci := 1) g11 rfl rfl) wM_Re_47 mi_Re_advance me_Re_advance rfl (Nat.le_of_ble_eq_true rfl) (Nat.le_of_ble_eq_true rfl) dc_Re_readPlain_75 (by omega) (Nat.zero_le _) (Nat.zero_le _) ?_
              refine t_Re_advance (by omega) ⟨q23, eq23, ?_⟩
              refine sx_eq0 (lc2 := [some (xR a0), some (xI a1)]) (st2 := []) rfl rfl ?_
              refine sx_aload_n dc_Re_readPlain_78 rfl ?_
              refine sx_iload_n dc_Re_readPlain_79 rfl ?_
              refine sx_iconst (v := (1 : Int32)) dc_Re_readPlain_80 (by decide) ?_
              refine sx_iadd dc_Re_readPlain_81 ?_
              obtain ⟨g25, hk⟩ := hk.g
              obtain ⟨q24, eq24, hk⟩ := hk.bind
              refine sx_callV (d2 := d - 1) (mc2 := 0) (ms2 := 0) (as := [xI (a1 + (1 : Int32))]) mk_Re_readEither rfl (x_rk (ci := 1) g25 rfl rfl) wM_Re_54 mi_Re_readEither me_Re_readEither rfl (Nat.le_of_ble_eq_true rfl) (Nat.le_of_ble_eq_true rfl) dc_Re_readPlain_82 (by omega) (Nat.zero_le _) (Nat.zero_le _) ?_
              refine hR0 (by omega) ⟨q24, eq24, ?_⟩
              refine sx_eq0 (lc2 := [some (xR a0), some (xI a1)]) (st2 := [xI q24.1]) rfl rfl ?_
              refine hk.j (X := fun x26 => Sx l z d mc ms M_Re_readPlain 102 [some (xR a0), some (xI a1)] [xI x26.1] x26.2 Ph) (fun x26 hk => ?_) (fun k27 jk27 hk => ?_)
              · exact sx_retT dc_Re_readPlain_102 (Or.inl ⟨rfl, rfl⟩) rfl hk.val
              · refine hk.j (X := fun x28 => Sx l z d mc ms M_Re_readPlain 101 [some (xR a0), some (xI a1)] [] x28 Ph) (fun x28 hk => ?_) (fun k29 jk29 hk => ?_)
                · refine sx_iconst (v := (0 : Int32)) dc_Re_readPlain_101 (by decide) ?_
                  exact jk27 ((0 : Int32), x28) hk
                · refine sx_if_eq (tgt := 101) dc_Re_readPlain_85 (by decide) (fun c30 => ?_) (fun c30 => ?_)
                  · replace hk := hk.t c30
                    exact jk29 q24.2 hk
                  · replace hk := hk.f c30
                    refine sx_aload_n dc_Re_readPlain_88 rfl ?_
                    refine sx_bipush (v := (41 : Int32)) dc_Re_readPlain_89 (by decide) ?_
                    obtain ⟨g32, hk⟩ := hk.g
                    obtain ⟨q31, eq31, hk⟩ := hk.bind
                    refine sx_callV (d2 := d - 1) (mc2 := 0) (ms2 := 0) (as := [xI (41 : Int32)]) mk_Re_takes rfl (x_rk (ci := 1) g32 rfl rfl) wM_Re_50 mi_Re_takes me_Re_takes rfl (Nat.le_of_ble_eq_true rfl) (Nat.le_of_ble_eq_true rfl) dc_Re_readPlain_91 (by omega) (Nat.zero_le _) (Nat.zero_le _) ?_
                    refine t_Re_takes (by omega) ⟨q31, eq31, ?_⟩
                    refine sx_eq0 (lc2 := [some (xR a0), some (xI a1)]) (st2 := [xI q31.1]) rfl rfl ?_
                    refine sx_if_eq (tgt := 101) dc_Re_readPlain_94 (by decide) (fun c33 => ?_) (fun c33 => ?_)
                    · replace hk := hk.t c33
                      exact jk29 q31.2 hk
                    · replace hk := hk.f c33
                      refine sx_iconst (v := (1 : Int32)) dc_Re_readPlain_97 (by decide) ?_
                      refine sx_goto (tgt := 102) dc_Re_readPlain_98 (by decide) ?_
                      exact jk27 ((1 : Int32), q31.2) hk
            · replace hk := hk.f c22
              exact jk20 () hk
      · refine sx_icmp_lt (tgt := 58) dc_Re_readPlain_26 (by decide) (fun c34 => ?_) (fun c34 => ?_)
        · replace hk := hk.t c34
          exact jk18 () hk
        · replace hk := hk.f c34
          refine sx_aload_n dc_Re_readPlain_29 rfl ?_
          refine sx_get (ci := 1) (k := 4) rfl (by decide) wF_Re_60 g11 dc_Re_readPlain_30 ?_
          refine sx_sipush (v := (262 : Int32)) dc_Re_readPlain_33 (by decide) ?_
          refine sx_icmp_ge (tgt := 58) dc_Re_readPlain_36 (by decide) (fun c35 => ?_) (fun c35 => ?_)
          · replace hk := hk.t c35
            exact jk18 () hk
          · replace hk := hk.f c35
            refine sx_aload_n dc_Re_readPlain_39 rfl ?_
            refine sx_sipush (v := (10000 : Int32)) dc_Re_readPlain_40 (by decide) ?_
            refine sx_aload_n dc_Re_readPlain_43 rfl ?_
            refine sx_get (ci := 1) (k := 4) rfl (by decide) wF_Re_60 g11 dc_Re_readPlain_44 ?_
            refine sx_iadd dc_Re_readPlain_47 ?_
            refine sx_sipush (v := (256 : Int32)) dc_Re_readPlain_48 (by decide) ?_
            refine sx_isub dc_Re_readPlain_51 ?_
            obtain ⟨q36, eq36, hk⟩ := hk.bind
            refine sx_callV (d2 := d - 1) (mc2 := 0) (ms2 := 0) (as := [xI (((10000 : Int32) + (hI h a0 4)) - (256 : Int32))]) mk_Re_write rfl (x_rk (ci := 1) g11 rfl rfl) wM_Re_66 mi_Re_write me_Re_write rfl (Nat.le_of_ble_eq_true rfl) (Nat.le_of_ble_eq_true rfl) dc_Re_readPlain_52 (by omega) (Nat.zero_le _) (Nat.zero_le _) ?_
            refine t_Re_write (by omega) ⟨q36, eq36, ?_⟩
            refine sx_eq0 (lc2 := [some (xR a0), some (xI a1)]) (st2 := []) rfl rfl ?_
            refine sx_goto (tgt := 103) dc_Re_readPlain_55 (by decide) ?_
            exact jk13 q36.2 hk
    · replace hk := hk.t c16
      refine sx_aload_n dc_Re_readPlain_8 rfl ?_
      refine sx_aload_n dc_Re_readPlain_9 rfl ?_
      refine sx_get (ci := 1) (k := 5) rfl (by decide) wF_Re_88 g11 dc_Re_readPlain_10 ?_
      obtain ⟨q37, eq37, hk⟩ := hk.bind
      refine sx_callV (d2 := d - 1) (mc2 := 0) (ms2 := 0) (as := [xI (hI h a0 5)]) mk_Re_write rfl (x_rk (ci := 1) g11 rfl rfl) wM_Re_66 mi_Re_write me_Re_write rfl (Nat.le_of_ble_eq_true rfl) (Nat.le_of_ble_eq_true rfl) dc_Re_readPlain_13 (by omega) (Nat.zero_le _) (Nat.zero_le _) ?_
      refine t_Re_write (by omega) ⟨q37, eq37, ?_⟩
      refine sx_eq0 (lc2 := [some (xR a0), some (xI a1)]) (st2 := []) rfl rfl ?_
      refine sx_goto (tgt := 103) dc_Re_readPlain_16 (by decide) ?_
      exact jk13 q37.2 hk
theorem t_Re_readOne_L2 {l : Launch} {z : xZ} {d mc ms : Nat} {Ph : Option xV → xH → Prop} {R0 : Nat → Int32 → xH → Option (Int32 × xH)} {a0 : Nat} {a1 : Int32} {B : Nat} (hR0 : ∀ {d mc ms : Nat} {Ph : Option xV → xH → Prop} {a0 : Nat} {a1 : Int32} {h : xH}, B ≤ d → OK (R0 a0 a1 h) (fun q => Ph (some (xI q.1)) q.2) → Sx l z d mc ms M_Re_readEither 0 (x_en [xR a0, xI a1] 3) [] h Ph) (hd : B + 8 ≤ d) : ∀ (n : Nat) (a2 : Int32) (h : xH) (K : Int32 → xH → Option (Int32 × xH)), OK (f_Re_readOne_L2 R0 a0 a1 n a2 h K) (fun q => Ph (some (xI q.1)) q.2) → (∀ (a2 : Int32) (h : xH), OK (K a2 h) (fun q => Ph (some (xI q.1)) q.2) → Sx l z d mc ms M_Re_readOne 28 [some (xR a0), some (xI a1), some (xI a2), none] [] h Ph) → Sx l z d mc ms M_Re_readOne 2 [some (xR a0), some (xI a1), some (xI a2), none] [] h Ph := by
  intro n
  induction n with
  | zero => intro a2 h K hk hE; exact hk.no
  | succ n ih =>
    intro a2 h K hk hE
    rw [f_Re_readOne_L2] at hk
    refine sx_aload_n dc_Re_readOne_2 rfl ?_
    obtain ⟨g6, hk⟩ := hk.g
    refine sx_get (ci := 1) (k := 4) rfl (by decide) wF_Re_60 g6 dc_Re_readOne_3 ?_
    refine sx_bipush (v := (45 : Int32)) dc_Re_readOne_6 (by decide) ?_
    refine sx_icmp_ne (tgt := 28) dc_Re_readOne_8 (by decide) (fun c7 => ?_) (fun c7 => ?_)
    · replace hk := hk.f c7
      exact hE a2 h hk
    · replace hk := hk.t c7
      refine sx_iload_n dc_Re_readOne_11 rfl ?_
      refine sx_iload_n dc_Re_readOne_12 rfl ?_
      refine sx_iadd dc_Re_readOne_13 ?_
      refine sx_iconst (v := (5 : Int32)) dc_Re_readOne_14 (by decide) ?_
      refine sx_icmp_ge (tgt := 28) dc_Re_readOne_15 (by decide) (fun c8 => ?_) (fun c8 => ?_)
      · replace hk := hk.t c8
        exact hE a2 h hk
      · replace hk := hk.f c8
        refine sx_aload_n dc_Re_readOne_18 rfl ?_
        obtain ⟨q9, eq9, hk⟩ := hk.bind
        refine sx_callV (d2 := d - 1) (mc2 := 0) (ms2 := 0) (as := []) mk_Re_advance rfl (x_rk (ci := 1) g6 rfl rfl) wM_Re_47 mi_Re_advance me_Re_advance rfl (Nat.le_of_ble_eq_true rfl) (Nat.le_of_ble_eq_true rfl) dc_Re_readOne_19 (by omega) (Nat.zero_le _) (Nat.zero_le _) ?_
        refine t_Re_advance (by omega) ⟨q9, eq9, ?_⟩
        refine sx_eq0 (lc2 := [some (xR a0), some (xI a1), some (xI a2), none]) (st2 := []) rfl rfl ?_
        refine sx_iinc (v := (1 : Int32)) dc_Re_readOne_22 rfl (by decide) (by decide) (sx_eq (lc2 := [some (xR a0), some (xI a1), some (xI (a2 + (1 : Int32))), none]) rfl rfl ?_)
        refine sx_goto (tgt := 2) dc_Re_readOne_25 (by decide) ?_
        exact ih (a2 + (1 : Int32)) q9.2 _ hk hE
theorem t_Re_readOne_L42 {l : Launch} {z : xZ} {d mc ms : Nat} {Ph : Option xV → xH → Prop} {R0 : Nat → Int32 → xH → Option (Int32 × xH)} {a0 : Nat} {a1 : Int32} {a2 : Int32} {B : Nat} (hR0 : ∀ {d mc ms : Nat} {Ph : Option xV → xH → Prop} {a0 : Nat} {a1 : Int32} {h : xH}, B ≤ d → OK (R0 a0 a1 h) (fun q => Ph (some (xI q.1)) q.2) → Sx l z d mc ms M_Re_readEither 0 (x_en [xR a0, xI a1] 3) [] h Ph) (hd : B + 10 ≤ d) : ∀ (n : Nat) (a3 : Int32) (h : xH) (K : Int32 → xH → Option (Int32 × xH)), OK (f_Re_readOne_L42 R0 a0 a1 a2 n a3 h K) (fun q => Ph (some (xI q.1)) q.2) → (∀ (a3 : Int32) (h : xH), OK (K a3 h) (fun q => Ph (some (xI q.1)) q.2) → Sx l z d mc ms M_Re_readOne 59 [some (xR a0), some (xI a1), some (xI a2), some (xI a3)] [] h Ph) → Sx l z d mc ms M_Re_readOne 42 [some (xR a0), some (xI a1), some (xI a2), some (xI a3)] [] h Ph := by
  intro n
  induction n with
  | zero => intro a3 h K hk hE; exact hk.no
  | succ n ih =>
    intro a3 h K hk hE
    rw [f_Re_readOne_L42] at hk
    refine sx_iload_n dc_Re_readOne_42 rfl ?_
    refine sx_iload_n dc_Re_readOne_43 rfl ?_
    refine sx_icmp_ge (tgt := 59) dc_Re_readOne_44 (by decide) (fun c15 => ?_) (fun c15 => ?_)
    · replace hk := hk.t c15
      exact hE a3 h hk
    · replace hk := hk.f c15
      refine sx_aload_n dc_Re_readOne_47 rfl ?_
      refine sx_bipush (v := (-9 : Int32)) dc_Re_readOne_48 (by decide) ?_
      obtain ⟨g17, hk⟩ := hk.g
      obtain ⟨q16, eq16, hk⟩ := hk.bind
      refine sx_callV (d2 := d - 1) (mc2 := 0) (ms2 := 0) (as := [xI (-9 : Int32)]) mk_Re_write rfl (x_rk (ci := 1) g17 rfl rfl) wM_Re_66 mi_Re_write me_Re_write rfl (Nat.le_of_ble_eq_true rfl) (Nat.le_of_ble_eq_true rfl) dc_Re_readOne_50 (by omega) (Nat.zero_le _) (Nat.zero_le _) ?_
      refine t_Re_write (by omega) ⟨q16, eq16, ?_⟩
      refine sx_eq0 (lc2 := [some (xR a0), some (xI a1), some (xI a2), some (xI a3)]) (st2 := []) rfl rfl ?_
      refine sx_iinc (v := (1 : Int32)) dc_Re_readOne_53 rfl (by decide) (by decide) (sx_eq (lc2 := [some (xR a0), some (xI a1), some (xI a2), some (xI (a3 + (1 : Int32)))]) rfl rfl ?_)
      refine sx_goto (tgt := 42) dc_Re_readOne_56 (by decide) ?_
      exact ih (a3 + (1 : Int32)) q16.2 _ hk hE
theorem t_Re_readOne {l : Launch} {z : xZ} {d mc ms : Nat} {Ph : Option xV → xH → Prop} {R0 : Nat → Int32 → xH → Option (Int32 × xH)} {B : Nat} (hR0 : ∀ {d mc ms : Nat} {Ph : Option xV → xH → Prop} {a0 : Nat} {a1 : Int32} {h : xH}, B ≤ d → OK (R0 a0 a1 h) (fun q => Ph (some (xI q.1)) q.2) → Sx l z d mc ms M_Re_readEither 0 (x_en [xR a0, xI a1] 3) [] h Ph) {a0 : Nat} {a1 : Int32}  {h : xH} (hd : B + 10 ≤ d) (hk : OK (f_Re_readOne R0 a0 a1 h) (fun q => Ph (some (xI q.1)) q.2)) : Sx l z d mc ms M_Re_readOne 0 (x_en [xR a0, xI a1] 4) [] h Ph := by
  unfold f_Re_readOne at hk
  refine sx_eq (lc2 := [some (xR a0), some (xI a1), none, none]) rfl rfl ?_
  refine sx_iconst (v := (0 : Int32)) dc_Re_readOne_0 (by decide) ?_
  refine sx_istore_n dc_Re_readOne_1 (by decide) (sx_eq (lc2 := [some (xR a0), some (xI a1), some (xI (0 : Int32)), none]) rfl rfl ?_)
  refine t_Re_readOne_L2 hR0 (by omega) _ _ _ _ hk (fun v10 h11 hk => ?_)
  refine sx_aload_n dc_Re_readOne_28 rfl ?_
  refine sx_iload_n dc_Re_readOne_29 rfl ?_
  refine sx_iload_n dc_Re_readOne_30 rfl ?_
  refine sx_iadd dc_Re_readOne_31 ?_
  obtain ⟨g13, hk⟩ := hk.g
  obtain ⟨q12, eq12, hk⟩ := hk.bind
  refine sx_callV (d2 := d - 1) (mc2 := 0) (ms2 := 0) (as := [xI (a1 + v10)]) mk_Re_readPlain rfl (x_rk (ci := 1) g13 rfl rfl) wM_Re_85 mi_Re_readPlain me_Re_readPlain rfl (Nat.le_of_ble_eq_true rfl) (Nat.le_of_ble_eq_true rfl) dc_Re_readOne_32 (by omega) (Nat.zero_le _) (Nat.zero_le _) ?_
  refine t_Re_readPlain hR0 (by omega) ⟨q12, eq12, ?_⟩
  refine sx_eq0 (lc2 := [some (xR a0), some (xI a1), some (xI v10), none]) (st2 := [xI q12.1]) rfl rfl ?_
  refine sx_if_ne (tgt := 40) dc_Re_readOne_35 (by decide) (fun c14 => ?_) (fun c14 => ?_)
  · replace hk := hk.f c14
    refine sx_iconst (v := (0 : Int32)) dc_Re_readOne_40 (by decide) ?_
    refine sx_istore_n dc_Re_readOne_41 (by decide) (sx_eq (lc2 := [some (xR a0), some (xI a1), some (xI v10), some (xI (0 : Int32))]) rfl rfl ?_)
    refine t_Re_readOne_L42 hR0 (by omega) _ _ _ _ hk (fun v18 h19 hk => ?_)
    refine sx_iconst (v := (1 : Int32)) dc_Re_readOne_59 (by decide) ?_
    exact sx_retT (v := (1 : Int32)) dc_Re_readOne_60 (Or.inl ⟨rfl, rfl⟩) (by decide) hk.val
  · replace hk := hk.t c14
    refine sx_iconst (v := (0 : Int32)) dc_Re_readOne_38 (by decide) ?_
    exact sx_retT (v := (0 : Int32)) dc_Re_readOne_39 (Or.inl ⟨rfl, rfl⟩) (by decide) hk.val
theorem t_Re_readTerm_L12 {l : Launch} {z : xZ} {d mc ms : Nat} {Ph : Option xV → xH → Prop} {R0 : Nat → Int32 → xH → Option (Int32 × xH)} {a0 : Nat} {a1 : Int32} {B : Nat} (hR0 : ∀ {d mc ms : Nat} {Ph : Option xV → xH → Prop} {a0 : Nat} {a1 : Int32} {h : xH}, B ≤ d → OK (R0 a0 a1 h) (fun q => Ph (some (xI q.1)) q.2) → Sx l z d mc ms M_Re_readEither 0 (x_en [xR a0, xI a1] 3) [] h Ph) (hd : B + 11 ≤ d) : ∀ (n : Nat) (a2 : Int32) (h : xH) (K : Int32 → xH → Option (Int32 × xH)), OK (f_Re_readTerm_L12 R0 a0 a1 n a2 h K) (fun q => Ph (some (xI q.1)) q.2) → (∀ (a2 : Int32) (h : xH), OK (K a2 h) (fun q => Ph (some (xI q.1)) q.2) → Sx l z d mc ms M_Re_readTerm 54 [some (xR a0), some (xI a1), some (xI a2)] [] h Ph) → Sx l z d mc ms M_Re_readTerm 12 [some (xR a0), some (xI a1), some (xI a2)] [] h Ph := by
  intro n
  induction n with
  | zero => intro a2 h K hk hE; exact hk.no
  | succ n ih =>
    intro a2 h K hk hE
    rw [f_Re_readTerm_L12] at hk
    refine sx_iload_n dc_Re_readTerm_12 rfl ?_
    refine sx_sipush (v := (160 : Int32)) dc_Re_readTerm_13 (by decide) ?_
    refine sx_icmp_ge (tgt := 54) dc_Re_readTerm_16 (by decide) (fun c12 => ?_) (fun c12 => ?_)
    · replace hk := hk.t c12
      exact hE a2 h hk
    · replace hk := hk.f c12
      refine sx_aload_n dc_Re_readTerm_19 rfl ?_
      obtain ⟨g13, hk⟩ := hk.g
      refine sx_get (ci := 1) (k := 4) rfl (by decide) wF_Re_60 g13 dc_Re_readTerm_20 ?_
      refine sx_bipush (v := (42 : Int32)) dc_Re_readTerm_23 (by decide) ?_
      refine sx_icmp_ne (tgt := 54) dc_Re_readTerm_25 (by decide) (fun c14 => ?_) (fun c14 => ?_)
      · replace hk := hk.f c14
        exact hE a2 h hk
      · replace hk := hk.t c14
        refine sx_aload_n dc_Re_readTerm_28 rfl ?_
        obtain ⟨q15, eq15, hk⟩ := hk.bind
        refine sx_callV (d2 := d - 1) (mc2 := 0) (ms2 := 0) (as := []) mk_Re_advance rfl (x_rk (ci := 1) g13 rfl rfl) wM_Re_47 mi_Re_advance me_Re_advance rfl (Nat.le_of_ble_eq_true rfl) (Nat.le_of_ble_eq_true rfl) dc_Re_readTerm_29 (by omega) (Nat.zero_le _) (Nat.zero_le _) ?_
        refine t_Re_advance (by omega) ⟨q15, eq15, ?_⟩
        refine sx_eq0 (lc2 := [some (xR a0), some (xI a1), some (xI a2)]) (st2 := []) rfl rfl ?_
        refine sx_aload_n dc_Re_readTerm_32 rfl ?_
        refine sx_iload_n dc_Re_readTerm_33 rfl ?_
        obtain ⟨g17, hk⟩ := hk.g
        obtain ⟨q16, eq16, hk⟩ := hk.bind
        refine sx_callV (d2 := d - 1) (mc2 := 0) (ms2 := 0) (as := [xI a1]) mk_Re_readOne rfl (x_rk (ci := 1) g17 rfl rfl) wM_Re_82 mi_Re_readOne me_Re_readOne rfl (Nat.le_of_ble_eq_true rfl) (Nat.le_of_ble_eq_true rfl) dc_Re_readTerm_34 (by omega) (Nat.zero_le _) (Nat.zero_le _) ?_
        refine t_Re_readOne hR0 (by omega) ⟨q16, eq16, ?_⟩
        refine sx_eq0 (lc2 := [some (xR a0), some (xI a1), some (xI a2)]) (st2 := [xI q16.1]) rfl rfl ?_
        refine sx_if_ne (tgt := 42) dc_Re_readTerm_37 (by decide) (fun c18 => ?_) (fun c18 => ?_)
        · replace hk := hk.f c18
          refine sx_aload_n dc_Re_readTerm_42 rfl ?_
          refine sx_bipush (v := (-3 : Int32)) dc_Re_readTerm_43 (by decide) ?_
          obtain ⟨g20, hk⟩ := hk.g
          obtain ⟨q19, eq19, hk⟩ := hk.bind
          refine sx_callV (d2 := d - 1) (mc2 := 0) (ms2 := 0) (as := [xI (-3 : Int32)]) mk_Re_write rfl (x_rk (ci := 1) g20 rfl rfl) wM_Re_66 mi_Re_write me_Re_write rfl (Nat.le_of_ble_eq_true rfl) (Nat.le_of_ble_eq_true rfl) dc_Re_readTerm_45 (by omega) (Nat.zero_le _) (Nat.zero_le _) ?_
          refine t_Re_write (by omega) ⟨q19, eq19, ?_⟩
          refine sx_eq0 (lc2 := [some (xR a0), some (xI a1), some (xI a2)]) (st2 := []) rfl rfl ?_
          refine sx_iinc (v := (1 : Int32)) dc_Re_readTerm_48 rfl (by decide) (by decide) (sx_eq (lc2 := [some (xR a0), some (xI a1), some (xI (a2 + (1 : Int32)))]) rfl rfl ?_)
          refine sx_goto (tgt := 12) dc_Re_readTerm_51 (by decide) ?_
          exact ih (a2 + (1 : Int32)) q19.2 _ hk hE
        · replace hk := hk.t c18
          refine sx_iconst (v := (0 : Int32)) dc_Re_readTerm_40 (by decide) ?_
          exact sx_retT (v := (0 : Int32)) dc_Re_readTerm_41 (Or.inl ⟨rfl, rfl⟩) (by decide) hk.val
theorem t_Re_readTerm {l : Launch} {z : xZ} {d mc ms : Nat} {Ph : Option xV → xH → Prop} {R0 : Nat → Int32 → xH → Option (Int32 × xH)} {B : Nat} (hR0 : ∀ {d mc ms : Nat} {Ph : Option xV → xH → Prop} {a0 : Nat} {a1 : Int32} {h : xH}, B ≤ d → OK (R0 a0 a1 h) (fun q => Ph (some (xI q.1)) q.2) → Sx l z d mc ms M_Re_readEither 0 (x_en [xR a0, xI a1] 3) [] h Ph) {a0 : Nat} {a1 : Int32}  {h : xH} (hd : B + 11 ≤ d) (hk : OK (f_Re_readTerm R0 a0 a1 h) (fun q => Ph (some (xI q.1)) q.2)) : Sx l z d mc ms M_Re_readTerm 0 (x_en [xR a0, xI a1] 3) [] h Ph := by
  unfold f_Re_readTerm at hk
  refine sx_eq (lc2 := [some (xR a0), some (xI a1), none]) rfl rfl ?_
  refine sx_aload_n dc_Re_readTerm_0 rfl ?_
  refine sx_iload_n dc_Re_readTerm_1 rfl ?_
  obtain ⟨g10, hk⟩ := hk.g
  obtain ⟨q9, eq9, hk⟩ := hk.bind
  refine sx_callV (d2 := d - 1) (mc2 := 0) (ms2 := 0) (as := [xI a1]) mk_Re_readOne rfl (x_rk (ci := 1) g10 rfl rfl) wM_Re_82 mi_Re_readOne me_Re_readOne rfl (Nat.le_of_ble_eq_true rfl) (Nat.le_of_ble_eq_true rfl) dc_Re_readTerm_2 (by omega) (Nat.zero_le _) (Nat.zero_le _) ?_
  refine t_Re_readOne hR0 (by omega) ⟨q9, eq9, ?_⟩
  refine sx_eq0 (lc2 := [some (xR a0), some (xI a1), none]) (st2 := [xI q9.1]) rfl rfl ?_
  refine sx_if_ne (tgt := 10) dc_Re_readTerm_5 (by decide) (fun c11 => ?_) (fun c11 => ?_)
  · replace hk := hk.f c11
    refine sx_iconst (v := (0 : Int32)) dc_Re_readTerm_10 (by decide) ?_
    refine sx_istore_n dc_Re_readTerm_11 (by decide) (sx_eq (lc2 := [some (xR a0), some (xI a1), some (xI (0 : Int32))]) rfl rfl ?_)
    refine t_Re_readTerm_L12 hR0 (by omega) _ _ _ _ hk (fun v21 h22 hk => ?_)
    refine sx_iconst (v := (1 : Int32)) dc_Re_readTerm_54 (by decide) ?_
    exact sx_retT (v := (1 : Int32)) dc_Re_readTerm_55 (Or.inl ⟨rfl, rfl⟩) (by decide) hk.val
  · replace hk := hk.t c11
    refine sx_iconst (v := (0 : Int32)) dc_Re_readTerm_8 (by decide) ?_
    exact sx_retT (v := (0 : Int32)) dc_Re_readTerm_9 (Or.inl ⟨rfl, rfl⟩) (by decide) hk.val
theorem t_Re_readSum_L12 {l : Launch} {z : xZ} {d mc ms : Nat} {Ph : Option xV → xH → Prop} {R0 : Nat → Int32 → xH → Option (Int32 × xH)} {a0 : Nat} {a1 : Int32} {B : Nat} (hR0 : ∀ {d mc ms : Nat} {Ph : Option xV → xH → Prop} {a0 : Nat} {a1 : Int32} {h : xH}, B ≤ d → OK (R0 a0 a1 h) (fun q => Ph (some (xI q.1)) q.2) → Sx l z d mc ms M_Re_readEither 0 (x_en [xR a0, xI a1] 3) [] h Ph) (hd : B + 12 ≤ d) : ∀ (n : Nat) (a2 : Int32) (h : xH) (K : Int32 → xH → Option (Int32 × xH)), OK (f_Re_readSum_L12 R0 a0 a1 n a2 h K) (fun q => Ph (some (xI q.1)) q.2) → (∀ (a2 : Int32) (h : xH), OK (K a2 h) (fun q => Ph (some (xI q.1)) q.2) → Sx l z d mc ms M_Re_readSum 78 [some (xR a0), some (xI a1), some (xI a2), none] [] h Ph) → Sx l z d mc ms M_Re_readSum 12 [some (xR a0), some (xI a1), some (xI a2), none] [] h Ph := by
  intro n
  induction n with
  | zero => intro a2 h K hk hE; exact hk.no
  | succ n ih =>
    intro a2 h K hk hE
    rw [f_Re_readSum_L12] at hk
    refine sx_iload_n dc_Re_readSum_12 rfl ?_
    refine sx_sipush (v := (160 : Int32)) dc_Re_readSum_13 (by decide) ?_
    refine sx_icmp_ge (tgt := 78) dc_Re_readSum_16 (by decide) (fun c12 => ?_) (fun c12 => ?_)
    · replace hk := hk.t c12
      exact hE a2 h hk
    · replace hk := hk.f c12
      refine sx_aload_n dc_Re_readSum_19 rfl ?_
      obtain ⟨g13, hk⟩ := hk.g
      refine sx_get (ci := 1) (k := 4) rfl (by decide) wF_Re_60 g13 dc_Re_readSum_20 ?_
      refine sx_bipush (v := (43 : Int32)) dc_Re_readSum_23 (by decide) ?_
      refine hk.j (X := fun x14 => Sx l z d mc ms M_Re_readSum 37 [some (xR a0), some (xI a1), some (xI a2), none] [] h Ph) (fun x14 hk => ?_) (fun k15 jk15 hk => ?_)
      · refine sx_aload_n dc_Re_readSum_37 rfl ?_
        refine sx_get (ci := 1) (k := 4) rfl (by decide) wF_Re_60 g13 dc_Re_readSum_38 ?_
        refine sx_istore_n dc_Re_readSum_41 (by decide) (sx_eq (lc2 := [some (xR a0), some (xI a1), some (xI a2), some (xI (hI h a0 4))]) rfl rfl ?_)
        refine sx_aload_n dc_Re_readSum_42 rfl ?_
        obtain ⟨q16, eq16, hk⟩ := hk.bind
        refine sx_callV (d2 := d - 1) (mc2 := 0) (ms2 := 0) (as := []) mk_Re_advance rfl (x_rk (ci := 1) g13 rfl rfl) wM_Re_47 mi_Re_advance me_Re_advance rfl (Nat.le_of_ble_eq_true rfl) (Nat.le_of_ble_eq_true rfl) dc_Re_readSum_43 (by omega) (Nat.zero_le _) (Nat.zero_le _) ?_
        refine t_Re_advance (by omega) ⟨q16, eq16, ?_⟩
        refine sx_eq0 (lc2 := [some (xR a0), some (xI a1), some (xI a2), some (xI (hI h a0 4))]) (st2 := []) rfl rfl ?_
        refine sx_aload_n dc_Re_readSum_46 rfl ?_
        refine sx_iload_n dc_Re_readSum_47 rfl ?_
        obtain ⟨g18, hk⟩ := hk.g
        obtain ⟨q17, eq17, hk⟩ := hk.bind
        refine sx_callV (d2 := d - 1) (mc2 := 0) (ms2 := 0) (as := [xI a1]) mk_Re_readTerm rfl (x_rk (ci := 1) g18 rfl rfl) wM_Re_79 mi_Re_readTerm me_Re_readTerm rfl (Nat.le_of_ble_eq_true rfl) (Nat.le_of_ble_eq_true rfl) dc_Re_readSum_48 (by omega) (Nat.zero_le _) (Nat.zero_le _) ?_
        refine t_Re_readTerm hR0 (by omega) ⟨q17, eq17, ?_⟩
        refine sx_eq0 (lc2 := [some (xR a0), some (xI a1), some (xI a2), some (xI (hI h a0 4))]) (st2 := [xI q17.1]) rfl rfl ?_
        refine sx_if_ne (tgt := 56) dc_Re_readSum_51 (by decide) (fun c19 => ?_) (fun c19 => ?_)
        · replace hk := hk.f c19
          refine sx_aload_n dc_Re_readSum_56 rfl ?_
          refine sx_iload_n dc_Re_readSum_57 rfl ?_
          refine sx_bipush (v := (43 : Int32)) dc_Re_readSum_58 (by decide) ?_
          refine sx_mg (pc2 := 69) (lc2 := [some (xR a0), some (xI a1), some (xI a2), some (xI (hI h a0 4))]) (st2 := [xI (if (hI h a0 4) = (43 : Int32) then (-1 : Int32) else (-2 : Int32)), xR a0]) (h2 := q17.2) ?_ (fun J20 => ?_)
          · obtain ⟨g23, hk⟩ := hk.g
            obtain ⟨q22, eq22, hk⟩ := hk.bind
            refine sx_callV (d2 := d - 1) (mc2 := 0) (ms2 := 0) (as := [xI (if (hI h a0 4) = (43 : Int32) then (-1 : Int32) else (-2 : Int32))]) mk_Re_write rfl (x_rk (ci := 1) g23 rfl rfl) wM_Re_66 mi_Re_write me_Re_write rfl (Nat.le_of_ble_eq_true rfl) (Nat.le_of_ble_eq_true rfl) dc_Re_readSum_69 (by omega) (Nat.zero_le _) (Nat.zero_le _) ?_
            refine t_Re_write (by omega) ⟨q22, eq22, ?_⟩
            refine sx_eq0 (lc2 := [some (xR a0), some (xI a1), some (xI a2), some (xI (hI h a0 4))]) (st2 := []) rfl rfl ?_
            refine sx_iinc (v := (1 : Int32)) dc_Re_readSum_72 rfl (by decide) (by decide) (sx_eq (lc2 := [some (xR a0), some (xI a1), some (xI (a2 + (1 : Int32))), some (xI (hI h a0 4))]) rfl rfl ?_)
            refine sx_goto (tgt := 12) dc_Re_readSum_75 (by decide) ?_
            exact sx_less (by simp [x_le]) (ih (a2 + (1 : Int32)) q22.2 _ hk hE)
          · refine sx_icmp_ne (tgt := 67) dc_Re_readSum_60 (by decide) (fun c21 => ?_) (fun c21 => ?_)
            · try simp only [if_neg c21] at J20
              refine sx_bipush (v := (-2 : Int32)) dc_Re_readSum_67 (by decide) ?_
              exact J20
            · try simp only [if_pos c21] at J20
              refine sx_iconst (v := (-1 : Int32)) dc_Re_readSum_63 (by decide) ?_
              refine sx_goto (tgt := 69) dc_Re_readSum_64 (by decide) ?_
              exact J20
        · replace hk := hk.t c19
          refine sx_iconst (v := (0 : Int32)) dc_Re_readSum_54 (by decide) ?_
          exact sx_retT (v := (0 : Int32)) dc_Re_readSum_55 (Or.inl ⟨rfl, rfl⟩) (by decide) hk.val
      · refine sx_icmp_eq (tgt := 37) dc_Re_readSum_25 (by decide) (fun c24 => ?_) (fun c24 => ?_)
        · replace hk := hk.t c24
          exact jk15 () hk
        · replace hk := hk.f c24
          refine sx_aload_n dc_Re_readSum_28 rfl ?_
          refine sx_get (ci := 1) (k := 4) rfl (by decide) wF_Re_60 g13 dc_Re_readSum_29 ?_
          refine sx_bipush (v := (45 : Int32)) dc_Re_readSum_32 (by decide) ?_
          refine sx_icmp_ne (tgt := 78) dc_Re_readSum_34 (by decide) (fun c25 => ?_) (fun c25 => ?_)
          · replace hk := hk.f c25
            exact hE a2 h hk
          · replace hk := hk.t c25
            exact jk15 () hk
theorem t_Re_readSum {l : Launch} {z : xZ} {d mc ms : Nat} {Ph : Option xV → xH → Prop} {R0 : Nat → Int32 → xH → Option (Int32 × xH)} {B : Nat} (hR0 : ∀ {d mc ms : Nat} {Ph : Option xV → xH → Prop} {a0 : Nat} {a1 : Int32} {h : xH}, B ≤ d → OK (R0 a0 a1 h) (fun q => Ph (some (xI q.1)) q.2) → Sx l z d mc ms M_Re_readEither 0 (x_en [xR a0, xI a1] 3) [] h Ph) {a0 : Nat} {a1 : Int32}  {h : xH} (hd : B + 12 ≤ d) (hk : OK (f_Re_readSum R0 a0 a1 h) (fun q => Ph (some (xI q.1)) q.2)) : Sx l z d mc ms M_Re_readSum 0 (x_en [xR a0, xI a1] 4) [] h Ph := by
  unfold f_Re_readSum at hk
  refine sx_eq (lc2 := [some (xR a0), some (xI a1), none, none]) rfl rfl ?_
  refine sx_aload_n dc_Re_readSum_0 rfl ?_
  refine sx_iload_n dc_Re_readSum_1 rfl ?_
  obtain ⟨g10, hk⟩ := hk.g
  obtain ⟨q9, eq9, hk⟩ := hk.bind
  refine sx_callV (d2 := d - 1) (mc2 := 0) (ms2 := 0) (as := [xI a1]) mk_Re_readTerm rfl (x_rk (ci := 1) g10 rfl rfl) wM_Re_79 mi_Re_readTerm me_Re_readTerm rfl (Nat.le_of_ble_eq_true rfl) (Nat.le_of_ble_eq_true rfl) dc_Re_readSum_2 (by omega) (Nat.zero_le _) (Nat.zero_le _) ?_
  refine t_Re_readTerm hR0 (by omega) ⟨q9, eq9, ?_⟩
  refine sx_eq0 (lc2 := [some (xR a0), some (xI a1), none, none]) (st2 := [xI q9.1]) rfl rfl ?_
  refine sx_if_ne (tgt := 10) dc_Re_readSum_5 (by decide) (fun c11 => ?_) (fun c11 => ?_)
  · replace hk := hk.f c11
    refine sx_iconst (v := (0 : Int32)) dc_Re_readSum_10 (by decide) ?_
    refine sx_istore_n dc_Re_readSum_11 (by decide) (sx_eq (lc2 := [some (xR a0), some (xI a1), some (xI (0 : Int32)), none]) rfl rfl ?_)
    refine t_Re_readSum_L12 hR0 (by omega) _ _ _ _ hk (fun v26 h27 hk => ?_)
    refine sx_iconst (v := (1 : Int32)) dc_Re_readSum_78 (by decide) ?_
    exact sx_retT (v := (1 : Int32)) dc_Re_readSum_79 (Or.inl ⟨rfl, rfl⟩) (by decide) hk.val
  · replace hk := hk.t c11
    refine sx_iconst (v := (0 : Int32)) dc_Re_readSum_8 (by decide) ?_
    exact sx_retT (v := (0 : Int32)) dc_Re_readSum_9 (Or.inl ⟨rfl, rfl⟩) (by decide) hk.val
theorem t_Re_readCompared {l : Launch} {z : xZ} {d mc ms : Nat} {Ph : Option xV → xH → Prop} {R0 : Nat → Int32 → xH → Option (Int32 × xH)} {B : Nat} (hR0 : ∀ {d mc ms : Nat} {Ph : Option xV → xH → Prop} {a0 : Nat} {a1 : Int32} {h : xH}, B ≤ d → OK (R0 a0 a1 h) (fun q => Ph (some (xI q.1)) q.2) → Sx l z d mc ms M_Re_readEither 0 (x_en [xR a0, xI a1] 3) [] h Ph) {a0 : Nat} {a1 : Int32}  {h : xH} (hd : B + 13 ≤ d) (hk : OK (f_Re_readCompared R0 a0 a1 h) (fun q => Ph (some (xI q.1)) q.2)) : Sx l z d mc ms M_Re_readCompared 0 (x_en [xR a0, xI a1] 3) [] h Ph := by
  unfold f_Re_readCompared at hk
  refine sx_eq (lc2 := [some (xR a0), some (xI a1), none]) rfl rfl ?_
  refine sx_aload_n dc_Re_readCompared_0 rfl ?_
  refine sx_iload_n dc_Re_readCompared_1 rfl ?_
  obtain ⟨g10, hk⟩ := hk.g
  obtain ⟨q9, eq9, hk⟩ := hk.bind
  refine sx_callV (d2 := d - 1) (mc2 := 0) (ms2 := 0) (as := [xI a1]) mk_Re_readSum rfl (x_rk (ci := 1) g10 rfl rfl) wM_Re_76 mi_Re_readSum me_Re_readSum rfl (Nat.le_of_ble_eq_true rfl) (Nat.le_of_ble_eq_true rfl) dc_Re_readCompared_2 (by omega) (Nat.zero_le _) (Nat.zero_le _) ?_
  refine t_Re_readSum hR0 (by omega) ⟨q9, eq9, ?_⟩
  refine sx_eq0 (lc2 := [some (xR a0), some (xI a1), none]) (st2 := [xI q9.1]) rfl rfl ?_
  refine sx_if_ne (tgt := 10) dc_Re_readCompared_5 (by decide) (fun c11 => ?_) (fun c11 => ?_)
  · replace hk := hk.f c11
    refine sx_aload_n dc_Re_readCompared_10 rfl ?_
    obtain ⟨g12, hk⟩ := hk.g
    refine sx_get (ci := 1) (k := 4) rfl (by decide) wF_Re_60 g12 dc_Re_readCompared_11 ?_
    refine sx_bipush (v := (60 : Int32)) dc_Re_readCompared_14 (by decide) ?_
    refine hk.j (X := fun x13 => Sx l z d mc ms M_Re_readCompared 30 [some (xR a0), some (xI a1), none] [] q9.2 Ph) (fun x13 hk => ?_) (fun k14 jk14 hk => ?_)
    · refine sx_aload_n dc_Re_readCompared_30 rfl ?_
      refine sx_get (ci := 1) (k := 4) rfl (by decide) wF_Re_60 g12 dc_Re_readCompared_31 ?_
      refine sx_istore_n dc_Re_readCompared_34 (by decide) (sx_eq (lc2 := [some (xR a0), some (xI a1), some (xI (hI q9.2 a0 4))]) rfl rfl ?_)
      refine sx_aload_n dc_Re_readCompared_35 rfl ?_
      obtain ⟨q15, eq15, hk⟩ := hk.bind
      refine sx_callV (d2 := d - 1) (mc2 := 0) (ms2 := 0) (as := []) mk_Re_advance rfl (x_rk (ci := 1) g12 rfl rfl) wM_Re_47 mi_Re_advance me_Re_advance rfl (Nat.le_of_ble_eq_true rfl) (Nat.le_of_ble_eq_true rfl) dc_Re_readCompared_36 (by omega) (Nat.zero_le _) (Nat.zero_le _) ?_
      refine t_Re_advance (by omega) ⟨q15, eq15, ?_⟩
      refine sx_eq0 (lc2 := [some (xR a0), some (xI a1), some (xI (hI q9.2 a0 4))]) (st2 := []) rfl rfl ?_
      refine sx_aload_n dc_Re_readCompared_39 rfl ?_
      refine sx_iload_n dc_Re_readCompared_40 rfl ?_
      obtain ⟨g17, hk⟩ := hk.g
      obtain ⟨q16, eq16, hk⟩ := hk.bind
      refine sx_callV (d2 := d - 1) (mc2 := 0) (ms2 := 0) (as := [xI a1]) mk_Re_readSum rfl (x_rk (ci := 1) g17 rfl rfl) wM_Re_76 mi_Re_readSum me_Re_readSum rfl (Nat.le_of_ble_eq_true rfl) (Nat.le_of_ble_eq_true rfl) dc_Re_readCompared_41 (by omega) (Nat.zero_le _) (Nat.zero_le _) ?_
      refine t_Re_readSum hR0 (by omega) ⟨q16, eq16, ?_⟩
      refine sx_eq0 (lc2 := [some (xR a0), some (xI a1), some (xI (hI q9.2 a0 4))]) (st2 := [xI q16.1]) rfl rfl ?_
      refine sx_if_ne (tgt := 49) dc_Re_readCompared_44 (by decide) (fun c18 => ?_) (fun c18 => ?_)
      · replace hk := hk.f c18
        refine sx_aload_n dc_Re_readCompared_49 rfl ?_
        refine sx_iload_n dc_Re_readCompared_50 rfl ?_
        refine sx_bipush (v := (60 : Int32)) dc_Re_readCompared_51 (by decide) ?_
        refine sx_mg (pc2 := 63) (lc2 := [some (xR a0), some (xI a1), some (xI (hI q9.2 a0 4))]) (st2 := [xI (if (hI q9.2 a0 4) = (60 : Int32) then (-4 : Int32) else (-5 : Int32)), xR a0]) (h2 := q16.2) ?_ (fun J19 => ?_)
        · obtain ⟨g22, hk⟩ := hk.g
          obtain ⟨q21, eq21, hk⟩ := hk.bind
          refine sx_callV (d2 := d - 1) (mc2 := 0) (ms2 := 0) (as := [xI (if (hI q9.2 a0 4) = (60 : Int32) then (-4 : Int32) else (-5 : Int32))]) mk_Re_write rfl (x_rk (ci := 1) g22 rfl rfl) wM_Re_66 mi_Re_write me_Re_write rfl (Nat.le_of_ble_eq_true rfl) (Nat.le_of_ble_eq_true rfl) dc_Re_readCompared_63 (by omega) (Nat.zero_le _) (Nat.zero_le _) ?_
          refine t_Re_write (by omega) ⟨q21, eq21, ?_⟩
          refine sx_eq0 (lc2 := [some (xR a0), some (xI a1), some (xI (hI q9.2 a0 4))]) (st2 := []) rfl rfl ?_
          refine sx_iconst (v := (1 : Int32)) dc_Re_readCompared_66 (by decide) ?_
          exact sx_retT (v := (1 : Int32)) dc_Re_readCompared_67 (Or.inl ⟨rfl, rfl⟩) (by decide) hk.val
        · refine sx_icmp_ne (tgt := 61) dc_Re_readCompared_53 (by decide) (fun c20 => ?_) (fun c20 => ?_)
          · try simp only [if_neg c20] at J19
            refine sx_bipush (v := (-5 : Int32)) dc_Re_readCompared_61 (by decide) ?_
            exact J19
          · try simp only [if_pos c20] at J19
            refine sx_bipush (v := (-4 : Int32)) dc_Re_readCompared_56 (by decide) ?_
            refine sx_goto (tgt := 63) dc_Re_readCompared_58 (by decide) ?_
            exact J19
      · replace hk := hk.t c18
        refine sx_iconst (v := (0 : Int32)) dc_Re_readCompared_47 (by decide) ?_
        exact sx_retT (v := (0 : Int32)) dc_Re_readCompared_48 (Or.inl ⟨rfl, rfl⟩) (by decide) hk.val
    · refine sx_icmp_eq (tgt := 30) dc_Re_readCompared_16 (by decide) (fun c23 => ?_) (fun c23 => ?_)
      · replace hk := hk.t c23
        exact jk14 () hk
      · replace hk := hk.f c23
        refine sx_aload_n dc_Re_readCompared_19 rfl ?_
        refine sx_get (ci := 1) (k := 4) rfl (by decide) wF_Re_60 g12 dc_Re_readCompared_20 ?_
        refine sx_bipush (v := (61 : Int32)) dc_Re_readCompared_23 (by decide) ?_
        refine sx_icmp_eq (tgt := 30) dc_Re_readCompared_25 (by decide) (fun c24 => ?_) (fun c24 => ?_)
        · replace hk := hk.t c24
          exact jk14 () hk
        · replace hk := hk.f c24
          refine sx_iconst (v := (1 : Int32)) dc_Re_readCompared_28 (by decide) ?_
          exact sx_retT (v := (1 : Int32)) dc_Re_readCompared_29 (Or.inl ⟨rfl, rfl⟩) (by decide) hk.val
  · replace hk := hk.t c11
    refine sx_iconst (v := (0 : Int32)) dc_Re_readCompared_8 (by decide) ?_
    exact sx_retT (v := (0 : Int32)) dc_Re_readCompared_9 (Or.inl ⟨rfl, rfl⟩) (by decide) hk.val
theorem t_Re_readNot_L2 {l : Launch} {z : xZ} {d mc ms : Nat} {Ph : Option xV → xH → Prop} {R0 : Nat → Int32 → xH → Option (Int32 × xH)} {a0 : Nat} {a1 : Int32} {B : Nat} (hR0 : ∀ {d mc ms : Nat} {Ph : Option xV → xH → Prop} {a0 : Nat} {a1 : Int32} {h : xH}, B ≤ d → OK (R0 a0 a1 h) (fun q => Ph (some (xI q.1)) q.2) → Sx l z d mc ms M_Re_readEither 0 (x_en [xR a0, xI a1] 3) [] h Ph) (hd : B + 8 ≤ d) : ∀ (n : Nat) (a2 : Int32) (h : xH) (K : Int32 → xH → Option (Int32 × xH)), OK (f_Re_readNot_L2 R0 a0 a1 n a2 h K) (fun q => Ph (some (xI q.1)) q.2) → (∀ (a2 : Int32) (h : xH), OK (K a2 h) (fun q => Ph (some (xI q.1)) q.2) → Sx l z d mc ms M_Re_readNot 29 [some (xR a0), some (xI a1), some (xI a2), none] [] h Ph) → Sx l z d mc ms M_Re_readNot 2 [some (xR a0), some (xI a1), some (xI a2), none] [] h Ph := by
  intro n
  induction n with
  | zero => intro a2 h K hk hE; exact hk.no
  | succ n ih =>
    intro a2 h K hk hE
    rw [f_Re_readNot_L2] at hk
    refine sx_aload_n dc_Re_readNot_2 rfl ?_
    obtain ⟨g6, hk⟩ := hk.g
    refine sx_get (ci := 1) (k := 4) rfl (by decide) wF_Re_60 g6 dc_Re_readNot_3 ?_
    refine sx_sipush (v := (267 : Int32)) dc_Re_readNot_6 (by decide) ?_
    refine sx_icmp_ne (tgt := 29) dc_Re_readNot_9 (by decide) (fun c7 => ?_) (fun c7 => ?_)
    · replace hk := hk.f c7
      exact hE a2 h hk
    · replace hk := hk.t c7
      refine sx_iload_n dc_Re_readNot_12 rfl ?_
      refine sx_iload_n dc_Re_readNot_13 rfl ?_
      refine sx_iadd dc_Re_readNot_14 ?_
      refine sx_iconst (v := (5 : Int32)) dc_Re_readNot_15 (by decide) ?_
      refine sx_icmp_ge (tgt := 29) dc_Re_readNot_16 (by decide) (fun c8 => ?_) (fun c8 => ?_)
      · replace hk := hk.t c8
        exact hE a2 h hk
      · replace hk := hk.f c8
        refine sx_aload_n dc_Re_readNot_19 rfl ?_
        obtain ⟨q9, eq9, hk⟩ := hk.bind
        refine sx_callV (d2 := d - 1) (mc2 := 0) (ms2 := 0) (as := []) mk_Re_advance rfl (x_rk (ci := 1) g6 rfl rfl) wM_Re_47 mi_Re_advance me_Re_advance rfl (Nat.le_of_ble_eq_true rfl) (Nat.le_of_ble_eq_true rfl) dc_Re_readNot_20 (by omega) (Nat.zero_le _) (Nat.zero_le _) ?_
        refine t_Re_advance (by omega) ⟨q9, eq9, ?_⟩
        refine sx_eq0 (lc2 := [some (xR a0), some (xI a1), some (xI a2), none]) (st2 := []) rfl rfl ?_
        refine sx_iinc (v := (1 : Int32)) dc_Re_readNot_23 rfl (by decide) (by decide) (sx_eq (lc2 := [some (xR a0), some (xI a1), some (xI (a2 + (1 : Int32))), none]) rfl rfl ?_)
        refine sx_goto (tgt := 2) dc_Re_readNot_26 (by decide) ?_
        exact ih (a2 + (1 : Int32)) q9.2 _ hk hE
theorem t_Re_readNot_L43 {l : Launch} {z : xZ} {d mc ms : Nat} {Ph : Option xV → xH → Prop} {R0 : Nat → Int32 → xH → Option (Int32 × xH)} {a0 : Nat} {a1 : Int32} {a2 : Int32} {B : Nat} (hR0 : ∀ {d mc ms : Nat} {Ph : Option xV → xH → Prop} {a0 : Nat} {a1 : Int32} {h : xH}, B ≤ d → OK (R0 a0 a1 h) (fun q => Ph (some (xI q.1)) q.2) → Sx l z d mc ms M_Re_readEither 0 (x_en [xR a0, xI a1] 3) [] h Ph) (hd : B + 14 ≤ d) : ∀ (n : Nat) (a3 : Int32) (h : xH) (K : Int32 → xH → Option (Int32 × xH)), OK (f_Re_readNot_L43 R0 a0 a1 a2 n a3 h K) (fun q => Ph (some (xI q.1)) q.2) → (∀ (a3 : Int32) (h : xH), OK (K a3 h) (fun q => Ph (some (xI q.1)) q.2) → Sx l z d mc ms M_Re_readNot 60 [some (xR a0), some (xI a1), some (xI a2), some (xI a3)] [] h Ph) → Sx l z d mc ms M_Re_readNot 43 [some (xR a0), some (xI a1), some (xI a2), some (xI a3)] [] h Ph := by
  intro n
  induction n with
  | zero => intro a3 h K hk hE; exact hk.no
  | succ n ih =>
    intro a3 h K hk hE
    rw [f_Re_readNot_L43] at hk
    refine sx_iload_n dc_Re_readNot_43 rfl ?_
    refine sx_iload_n dc_Re_readNot_44 rfl ?_
    refine sx_icmp_ge (tgt := 60) dc_Re_readNot_45 (by decide) (fun c15 => ?_) (fun c15 => ?_)
    · replace hk := hk.t c15
      exact hE a3 h hk
    · replace hk := hk.f c15
      refine sx_aload_n dc_Re_readNot_48 rfl ?_
      refine sx_bipush (v := (-8 : Int32)) dc_Re_readNot_49 (by decide) ?_
      obtain ⟨g17, hk⟩ := hk.g
      obtain ⟨q16, eq16, hk⟩ := hk.bind
      refine sx_callV (d2 := d - 1) (mc2 := 0) (ms2 := 0) (as := [xI (-8 : Int32)]) mk_Re_write rfl (x_rk (ci := 1) g17 rfl rfl) wM_Re_66 mi_Re_write me_Re_write rfl (Nat.le_of_ble_eq_true rfl) (Nat.le_of_ble_eq_true rfl) dc_Re_readNot_51 (by omega) (Nat.zero_le _) (Nat.zero_le _) ?_
      refine t_Re_write (by omega) ⟨q16, eq16, ?_⟩
      refine sx_eq0 (lc2 := [some (xR a0), some (xI a1), some (xI a2), some (xI a3)]) (st2 := []) rfl rfl ?_
      refine sx_iinc (v := (1 : Int32)) dc_Re_readNot_54 rfl (by decide) (by decide) (sx_eq (lc2 := [some (xR a0), some (xI a1), some (xI a2), some (xI (a3 + (1 : Int32)))]) rfl rfl ?_)
      refine sx_goto (tgt := 43) dc_Re_readNot_57 (by decide) ?_
      exact ih (a3 + (1 : Int32)) q16.2 _ hk hE
theorem t_Re_readNot {l : Launch} {z : xZ} {d mc ms : Nat} {Ph : Option xV → xH → Prop} {R0 : Nat → Int32 → xH → Option (Int32 × xH)} {B : Nat} (hR0 : ∀ {d mc ms : Nat} {Ph : Option xV → xH → Prop} {a0 : Nat} {a1 : Int32} {h : xH}, B ≤ d → OK (R0 a0 a1 h) (fun q => Ph (some (xI q.1)) q.2) → Sx l z d mc ms M_Re_readEither 0 (x_en [xR a0, xI a1] 3) [] h Ph) {a0 : Nat} {a1 : Int32}  {h : xH} (hd : B + 14 ≤ d) (hk : OK (f_Re_readNot R0 a0 a1 h) (fun q => Ph (some (xI q.1)) q.2)) : Sx l z d mc ms M_Re_readNot 0 (x_en [xR a0, xI a1] 4) [] h Ph := by
  unfold f_Re_readNot at hk
  refine sx_eq (lc2 := [some (xR a0), some (xI a1), none, none]) rfl rfl ?_
  refine sx_iconst (v := (0 : Int32)) dc_Re_readNot_0 (by decide) ?_
  refine sx_istore_n dc_Re_readNot_1 (by decide) (sx_eq (lc2 := [some (xR a0), some (xI a1), some (xI (0 : Int32)), none]) rfl rfl ?_)
  refine t_Re_readNot_L2 hR0 (by omega) _ _ _ _ hk (fun v10 h11 hk => ?_)
  refine sx_aload_n dc_Re_readNot_29 rfl ?_
  refine sx_iload_n dc_Re_readNot_30 rfl ?_
  refine sx_iload_n dc_Re_readNot_31 rfl ?_
  refine sx_iadd dc_Re_readNot_32 ?_
  obtain ⟨g13, hk⟩ := hk.g
  obtain ⟨q12, eq12, hk⟩ := hk.bind
  refine sx_callV (d2 := d - 1) (mc2 := 0) (ms2 := 0) (as := [xI (a1 + v10)]) mk_Re_readCompared rfl (x_rk (ci := 1) g13 rfl rfl) wM_Re_73 mi_Re_readCompared me_Re_readCompared rfl (Nat.le_of_ble_eq_true rfl) (Nat.le_of_ble_eq_true rfl) dc_Re_readNot_33 (by omega) (Nat.zero_le _) (Nat.zero_le _) ?_
  refine t_Re_readCompared hR0 (by omega) ⟨q12, eq12, ?_⟩
  refine sx_eq0 (lc2 := [some (xR a0), some (xI a1), some (xI v10), none]) (st2 := [xI q12.1]) rfl rfl ?_
  refine sx_if_ne (tgt := 41) dc_Re_readNot_36 (by decide) (fun c14 => ?_) (fun c14 => ?_)
  · replace hk := hk.f c14
    refine sx_iconst (v := (0 : Int32)) dc_Re_readNot_41 (by decide) ?_
    refine sx_istore_n dc_Re_readNot_42 (by decide) (sx_eq (lc2 := [some (xR a0), some (xI a1), some (xI v10), some (xI (0 : Int32))]) rfl rfl ?_)
    refine t_Re_readNot_L43 hR0 (by omega) _ _ _ _ hk (fun v18 h19 hk => ?_)
    refine sx_iconst (v := (1 : Int32)) dc_Re_readNot_60 (by decide) ?_
    exact sx_retT (v := (1 : Int32)) dc_Re_readNot_61 (Or.inl ⟨rfl, rfl⟩) (by decide) hk.val
  · replace hk := hk.t c14
    refine sx_iconst (v := (0 : Int32)) dc_Re_readNot_39 (by decide) ?_
    exact sx_retT (v := (0 : Int32)) dc_Re_readNot_40 (Or.inl ⟨rfl, rfl⟩) (by decide) hk.val
theorem t_Re_readBoth_L12 {l : Launch} {z : xZ} {d mc ms : Nat} {Ph : Option xV → xH → Prop} {R0 : Nat → Int32 → xH → Option (Int32 × xH)} {a0 : Nat} {a1 : Int32} {B : Nat} (hR0 : ∀ {d mc ms : Nat} {Ph : Option xV → xH → Prop} {a0 : Nat} {a1 : Int32} {h : xH}, B ≤ d → OK (R0 a0 a1 h) (fun q => Ph (some (xI q.1)) q.2) → Sx l z d mc ms M_Re_readEither 0 (x_en [xR a0, xI a1] 3) [] h Ph) (hd : B + 15 ≤ d) : ∀ (n : Nat) (a2 : Int32) (h : xH) (K : Int32 → xH → Option (Int32 × xH)), OK (f_Re_readBoth_L12 R0 a0 a1 n a2 h K) (fun q => Ph (some (xI q.1)) q.2) → (∀ (a2 : Int32) (h : xH), OK (K a2 h) (fun q => Ph (some (xI q.1)) q.2) → Sx l z d mc ms M_Re_readBoth 55 [some (xR a0), some (xI a1), some (xI a2)] [] h Ph) → Sx l z d mc ms M_Re_readBoth 12 [some (xR a0), some (xI a1), some (xI a2)] [] h Ph := by
  intro n
  induction n with
  | zero => intro a2 h K hk hE; exact hk.no
  | succ n ih =>
    intro a2 h K hk hE
    rw [f_Re_readBoth_L12] at hk
    refine sx_iload_n dc_Re_readBoth_12 rfl ?_
    refine sx_sipush (v := (160 : Int32)) dc_Re_readBoth_13 (by decide) ?_
    refine sx_icmp_ge (tgt := 55) dc_Re_readBoth_16 (by decide) (fun c12 => ?_) (fun c12 => ?_)
    · replace hk := hk.t c12
      exact hE a2 h hk
    · replace hk := hk.f c12
      refine sx_aload_n dc_Re_readBoth_19 rfl ?_
      obtain ⟨g13, hk⟩ := hk.g
      refine sx_get (ci := 1) (k := 4) rfl (by decide) wF_Re_60 g13 dc_Re_readBoth_20 ?_
      refine sx_sipush (v := (266 : Int32)) dc_Re_readBoth_23 (by decide) ?_
      refine sx_icmp_ne (tgt := 55) dc_Re_readBoth_26 (by decide) (fun c14 => ?_) (fun c14 => ?_)
      · replace hk := hk.f c14
        exact hE a2 h hk
      · replace hk := hk.t c14
        refine sx_aload_n dc_Re_readBoth_29 rfl ?_
        obtain ⟨q15, eq15, hk⟩ := hk.bind
        refine sx_callV (d2 := d - 1) (mc2 := 0) (ms2 := 0) (as := []) mk_Re_advance rfl (x_rk (ci := 1) g13 rfl rfl) wM_Re_47 mi_Re_advance me_Re_advance rfl (Nat.le_of_ble_eq_true rfl) (Nat.le_of_ble_eq_true rfl) dc_Re_readBoth_30 (by omega) (Nat.zero_le _) (Nat.zero_le _) ?_
        refine t_Re_advance (by omega) ⟨q15, eq15, ?_⟩
        refine sx_eq0 (lc2 := [some (xR a0), some (xI a1), some (xI a2)]) (st2 := []) rfl rfl ?_
        refine sx_aload_n dc_Re_readBoth_33 rfl ?_
        refine sx_iload_n dc_Re_readBoth_34 rfl ?_
        obtain ⟨g17, hk⟩ := hk.g
        obtain ⟨q16, eq16, hk⟩ := hk.bind
        refine sx_callV (d2 := d - 1) (mc2 := 0) (ms2 := 0) (as := [xI a1]) mk_Re_readNot rfl (x_rk (ci := 1) g17 rfl rfl) wM_Re_70 mi_Re_readNot me_Re_readNot rfl (Nat.le_of_ble_eq_true rfl) (Nat.le_of_ble_eq_true rfl) dc_Re_readBoth_35 (by omega) (Nat.zero_le _) (Nat.zero_le _) ?_
        refine t_Re_readNot hR0 (by omega) ⟨q16, eq16, ?_⟩
        refine sx_eq0 (lc2 := [some (xR a0), some (xI a1), some (xI a2)]) (st2 := [xI q16.1]) rfl rfl ?_
        refine sx_if_ne (tgt := 43) dc_Re_readBoth_38 (by decide) (fun c18 => ?_) (fun c18 => ?_)
        · replace hk := hk.f c18
          refine sx_aload_n dc_Re_readBoth_43 rfl ?_
          refine sx_bipush (v := (-7 : Int32)) dc_Re_readBoth_44 (by decide) ?_
          obtain ⟨g20, hk⟩ := hk.g
          obtain ⟨q19, eq19, hk⟩ := hk.bind
          refine sx_callV (d2 := d - 1) (mc2 := 0) (ms2 := 0) (as := [xI (-7 : Int32)]) mk_Re_write rfl (x_rk (ci := 1) g20 rfl rfl) wM_Re_66 mi_Re_write me_Re_write rfl (Nat.le_of_ble_eq_true rfl) (Nat.le_of_ble_eq_true rfl) dc_Re_readBoth_46 (by omega) (Nat.zero_le _) (Nat.zero_le _) ?_
          refine t_Re_write (by omega) ⟨q19, eq19, ?_⟩
          refine sx_eq0 (lc2 := [some (xR a0), some (xI a1), some (xI a2)]) (st2 := []) rfl rfl ?_
          refine sx_iinc (v := (1 : Int32)) dc_Re_readBoth_49 rfl (by decide) (by decide) (sx_eq (lc2 := [some (xR a0), some (xI a1), some (xI (a2 + (1 : Int32)))]) rfl rfl ?_)
          refine sx_goto (tgt := 12) dc_Re_readBoth_52 (by decide) ?_
          exact ih (a2 + (1 : Int32)) q19.2 _ hk hE
        · replace hk := hk.t c18
          refine sx_iconst (v := (0 : Int32)) dc_Re_readBoth_41 (by decide) ?_
          exact sx_retT (v := (0 : Int32)) dc_Re_readBoth_42 (Or.inl ⟨rfl, rfl⟩) (by decide) hk.val
theorem t_Re_readBoth {l : Launch} {z : xZ} {d mc ms : Nat} {Ph : Option xV → xH → Prop} {R0 : Nat → Int32 → xH → Option (Int32 × xH)} {B : Nat} (hR0 : ∀ {d mc ms : Nat} {Ph : Option xV → xH → Prop} {a0 : Nat} {a1 : Int32} {h : xH}, B ≤ d → OK (R0 a0 a1 h) (fun q => Ph (some (xI q.1)) q.2) → Sx l z d mc ms M_Re_readEither 0 (x_en [xR a0, xI a1] 3) [] h Ph) {a0 : Nat} {a1 : Int32}  {h : xH} (hd : B + 15 ≤ d) (hk : OK (f_Re_readBoth R0 a0 a1 h) (fun q => Ph (some (xI q.1)) q.2)) : Sx l z d mc ms M_Re_readBoth 0 (x_en [xR a0, xI a1] 3) [] h Ph := by
  unfold f_Re_readBoth at hk
  refine sx_eq (lc2 := [some (xR a0), some (xI a1), none]) rfl rfl ?_
  refine sx_aload_n dc_Re_readBoth_0 rfl ?_
  refine sx_iload_n dc_Re_readBoth_1 rfl ?_
  obtain ⟨g10, hk⟩ := hk.g
  obtain ⟨q9, eq9, hk⟩ := hk.bind
  refine sx_callV (d2 := d - 1) (mc2 := 0) (ms2 := 0) (as := [xI a1]) mk_Re_readNot rfl (x_rk (ci := 1) g10 rfl rfl) wM_Re_70 mi_Re_readNot me_Re_readNot rfl (Nat.le_of_ble_eq_true rfl) (Nat.le_of_ble_eq_true rfl) dc_Re_readBoth_2 (by omega) (Nat.zero_le _) (Nat.zero_le _) ?_
  refine t_Re_readNot hR0 (by omega) ⟨q9, eq9, ?_⟩
  refine sx_eq0 (lc2 := [some (xR a0), some (xI a1), none]) (st2 := [xI q9.1]) rfl rfl ?_
  refine sx_if_ne (tgt := 10) dc_Re_readBoth_5 (by decide) (fun c11 => ?_) (fun c11 => ?_)
  · replace hk := hk.f c11
    refine sx_iconst (v := (0 : Int32)) dc_Re_readBoth_10 (by decide) ?_
    refine sx_istore_n dc_Re_readBoth_11 (by decide) (sx_eq (lc2 := [some (xR a0), some (xI a1), some (xI (0 : Int32))]) rfl rfl ?_)
    refine t_Re_readBoth_L12 hR0 (by omega) _ _ _ _ hk (fun v21 h22 hk => ?_)
    refine sx_iconst (v := (1 : Int32)) dc_Re_readBoth_55 (by decide) ?_
    exact sx_retT (v := (1 : Int32)) dc_Re_readBoth_56 (Or.inl ⟨rfl, rfl⟩) (by decide) hk.val
  · replace hk := hk.t c11
    refine sx_iconst (v := (0 : Int32)) dc_Re_readBoth_8 (by decide) ?_
    exact sx_retT (v := (0 : Int32)) dc_Re_readBoth_9 (Or.inl ⟨rfl, rfl⟩) (by decide) hk.val
theorem t_Re_readEither_L12 {l : Launch} {z : xZ} {d mc ms : Nat} {Ph : Option xV → xH → Prop} {R0 : Nat → Int32 → xH → Option (Int32 × xH)} {a0 : Nat} {a1 : Int32} {B : Nat} (hR0 : ∀ {d mc ms : Nat} {Ph : Option xV → xH → Prop} {a0 : Nat} {a1 : Int32} {h : xH}, B ≤ d → OK (R0 a0 a1 h) (fun q => Ph (some (xI q.1)) q.2) → Sx l z d mc ms M_Re_readEither 0 (x_en [xR a0, xI a1] 3) [] h Ph) (hd : B + 16 ≤ d) : ∀ (n : Nat) (a2 : Int32) (h : xH) (K : Int32 → xH → Option (Int32 × xH)), OK (f_Re_readEither_L12 R0 a0 a1 n a2 h K) (fun q => Ph (some (xI q.1)) q.2) → (∀ (a2 : Int32) (h : xH), OK (K a2 h) (fun q => Ph (some (xI q.1)) q.2) → Sx l z d mc ms M_Re_readEither 55 [some (xR a0), some (xI a1), some (xI a2)] [] h Ph) → Sx l z d mc ms M_Re_readEither 12 [some (xR a0), some (xI a1), some (xI a2)] [] h Ph := by
  intro n
  induction n with
  | zero => intro a2 h K hk hE; exact hk.no
  | succ n ih =>
    intro a2 h K hk hE
    rw [f_Re_readEither_L12] at hk
    refine sx_iload_n dc_Re_readEither_12 rfl ?_
    refine sx_sipush (v := (160 : Int32)) dc_Re_readEither_13 (by decide) ?_
    refine sx_icmp_ge (tgt := 55) dc_Re_readEither_16 (by decide) (fun c12 => ?_) (fun c12 => ?_)
    · replace hk := hk.t c12
      exact hE a2 h hk
    · replace hk := hk.f c12
      refine sx_aload_n dc_Re_readEither_19 rfl ?_
      obtain ⟨g13, hk⟩ := hk.g
      refine sx_get (ci := 1) (k := 4) rfl (by decide) wF_Re_60 g13 dc_Re_readEither_20 ?_
      refine sx_sipush (v := (265 : Int32)) dc_Re_readEither_23 (by decide) ?_
      refine sx_icmp_ne (tgt := 55) dc_Re_readEither_26 (by decide) (fun c14 => ?_) (fun c14 => ?_)
      · replace hk := hk.f c14
        exact hE a2 h hk
      · replace hk := hk.t c14
        refine sx_aload_n dc_Re_readEither_29 rfl ?_
        obtain ⟨q15, eq15, hk⟩ := hk.bind
        refine sx_callV (d2 := d - 1) (mc2 := 0) (ms2 := 0) (as := []) mk_Re_advance rfl (x_rk (ci := 1) g13 rfl rfl) wM_Re_47 mi_Re_advance me_Re_advance rfl (Nat.le_of_ble_eq_true rfl) (Nat.le_of_ble_eq_true rfl) dc_Re_readEither_30 (by omega) (Nat.zero_le _) (Nat.zero_le _) ?_
        refine t_Re_advance (by omega) ⟨q15, eq15, ?_⟩
        refine sx_eq0 (lc2 := [some (xR a0), some (xI a1), some (xI a2)]) (st2 := []) rfl rfl ?_
        refine sx_aload_n dc_Re_readEither_33 rfl ?_
        refine sx_iload_n dc_Re_readEither_34 rfl ?_
        obtain ⟨g17, hk⟩ := hk.g
        obtain ⟨q16, eq16, hk⟩ := hk.bind
        refine sx_callV (d2 := d - 1) (mc2 := 0) (ms2 := 0) (as := [xI a1]) mk_Re_readBoth rfl (x_rk (ci := 1) g17 rfl rfl) wM_Re_63 mi_Re_readBoth me_Re_readBoth rfl (Nat.le_of_ble_eq_true rfl) (Nat.le_of_ble_eq_true rfl) dc_Re_readEither_35 (by omega) (Nat.zero_le _) (Nat.zero_le _) ?_
        refine t_Re_readBoth hR0 (by omega) ⟨q16, eq16, ?_⟩
        refine sx_eq0 (lc2 := [some (xR a0), some (xI a1), some (xI a2)]) (st2 := [xI q16.1]) rfl rfl ?_
        refine sx_if_ne (tgt := 43) dc_Re_readEither_38 (by decide) (fun c18 => ?_) (fun c18 => ?_)
        · replace hk := hk.f c18
          refine sx_aload_n dc_Re_readEither_43 rfl ?_
          refine sx_bipush (v := (-6 : Int32)) dc_Re_readEither_44 (by decide) ?_
          obtain ⟨g20, hk⟩ := hk.g
          obtain ⟨q19, eq19, hk⟩ := hk.bind
          refine sx_callV (d2 := d - 1) (mc2 := 0) (ms2 := 0) (as := [xI (-6 : Int32)]) mk_Re_write rfl (x_rk (ci := 1) g20 rfl rfl) wM_Re_66 mi_Re_write me_Re_write rfl (Nat.le_of_ble_eq_true rfl) (Nat.le_of_ble_eq_true rfl) dc_Re_readEither_46 (by omega) (Nat.zero_le _) (Nat.zero_le _) ?_
          refine t_Re_write (by omega) ⟨q19, eq19, ?_⟩
          refine sx_eq0 (lc2 := [some (xR a0), some (xI a1), some (xI a2)]) (st2 := []) rfl rfl ?_
          refine sx_iinc (v := (1 : Int32)) dc_Re_readEither_49 rfl (by decide) (by decide) (sx_eq (lc2 := [some (xR a0), some (xI a1), some (xI (a2 + (1 : Int32)))]) rfl rfl ?_)
          refine sx_goto (tgt := 12) dc_Re_readEither_52 (by decide) ?_
          exact ih (a2 + (1 : Int32)) q19.2 _ hk hE
        · replace hk := hk.t c18
          refine sx_iconst (v := (0 : Int32)) dc_Re_readEither_41 (by decide) ?_
          exact sx_retT (v := (0 : Int32)) dc_Re_readEither_42 (Or.inl ⟨rfl, rfl⟩) (by decide) hk.val
theorem tb_Re_readEither {l : Launch} {z : xZ} {d mc ms : Nat} {Ph : Option xV → xH → Prop} {R0 : Nat → Int32 → xH → Option (Int32 × xH)} {B : Nat} (hR0 : ∀ {d mc ms : Nat} {Ph : Option xV → xH → Prop} {a0 : Nat} {a1 : Int32} {h : xH}, B ≤ d → OK (R0 a0 a1 h) (fun q => Ph (some (xI q.1)) q.2) → Sx l z d mc ms M_Re_readEither 0 (x_en [xR a0, xI a1] 3) [] h Ph) {a0 : Nat} {a1 : Int32}  {h : xH} (hd : B + 16 ≤ d) (hk : OK (fb_Re_readEither R0 a0 a1 h) (fun q => Ph (some (xI q.1)) q.2)) : Sx l z d mc ms M_Re_readEither 0 (x_en [xR a0, xI a1] 3) [] h Ph := by
  unfold fb_Re_readEither at hk
  refine sx_eq (lc2 := [some (xR a0), some (xI a1), none]) rfl rfl ?_
  refine sx_aload_n dc_Re_readEither_0 rfl ?_
  refine sx_iload_n dc_Re_readEither_1 rfl ?_
  obtain ⟨g10, hk⟩ := hk.g
  obtain ⟨q9, eq9, hk⟩ := hk.bind
  refine sx_callV (d2 := d - 1) (mc2 := 0) (ms2 := 0) (as := [xI a1]) mk_Re_readBoth rfl (x_rk (ci := 1) g10 rfl rfl) wM_Re_63 mi_Re_readBoth me_Re_readBoth rfl (Nat.le_of_ble_eq_true rfl) (Nat.le_of_ble_eq_true rfl) dc_Re_readEither_2 (by omega) (Nat.zero_le _) (Nat.zero_le _) ?_
  refine t_Re_readBoth hR0 (by omega) ⟨q9, eq9, ?_⟩
  refine sx_eq0 (lc2 := [some (xR a0), some (xI a1), none]) (st2 := [xI q9.1]) rfl rfl ?_
  refine sx_if_ne (tgt := 10) dc_Re_readEither_5 (by decide) (fun c11 => ?_) (fun c11 => ?_)
  · replace hk := hk.f c11
    refine sx_iconst (v := (0 : Int32)) dc_Re_readEither_10 (by decide) ?_
    refine sx_istore_n dc_Re_readEither_11 (by decide) (sx_eq (lc2 := [some (xR a0), some (xI a1), some (xI (0 : Int32))]) rfl rfl ?_)
    refine t_Re_readEither_L12 hR0 (by omega) _ _ _ _ hk (fun v21 h22 hk => ?_)
    refine sx_iconst (v := (1 : Int32)) dc_Re_readEither_55 (by decide) ?_
    exact sx_retT (v := (1 : Int32)) dc_Re_readEither_56 (Or.inl ⟨rfl, rfl⟩) (by decide) hk.val
  · replace hk := hk.t c11
    refine sx_iconst (v := (0 : Int32)) dc_Re_readEither_8 (by decide) ?_
    exact sx_retT (v := (0 : Int32)) dc_Re_readEither_9 (Or.inl ⟨rfl, rfl⟩) (by decide) hk.val
theorem tg_Re_readEither {l : Launch} {z : xZ} : ∀ (g : Nat) {d mc ms : Nat} {Ph : Option xV → xH → Prop} {a0 : Nat} {a1 : Int32} {h : xH}, 16 * g ≤ d → OK (G_Re g a0 a1 h) (fun q => Ph (some (xI q.1)) q.2) → Sx l z d mc ms M_Re_readEither 0 (x_en [xR a0, xI a1] 3) [] h Ph
  | 0 => fun _ hk => hk.no
  | g + 1 => fun hd hk => tb_Re_readEither (R0 := G_Re g) (B := 16 * g) (fun hd hk => tg_Re_readEither g hd hk) (by omega) hk
theorem t_Re_readEither {l : Launch} {z : xZ} {d mc ms : Nat} {Ph : Option xV → xH → Prop} {a0 : Nat} {a1 : Int32} {h : xH} (hd : 384 ≤ d) (hk : OK (f_Re_readEither a0 a1 h) (fun q => Ph (some (xI q.1)) q.2)) : Sx l z d mc ms M_Re_readEither 0 (x_en [xR a0, xI a1] 3) [] h Ph := tg_Re_readEither 24 (by omega) hk

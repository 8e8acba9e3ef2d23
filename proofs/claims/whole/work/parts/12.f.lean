theorem dc_Re_read_0 : decode M_Re_read.2.1 0 = .ok (.aload_n 0, 1) := by decide +kernel
theorem dc_Re_read_1 : decode M_Re_read.2.1 1 = .ok (.iconst 0, 1) := by decide +kernel
theorem dc_Re_read_2 : decode M_Re_read.2.1 2 = .ok (.putfield 44, 3) := by decide +kernel
theorem dc_Re_read_5 : decode M_Re_read.2.1 5 = .ok (.aload_n 0, 1) := by decide +kernel
theorem dc_Re_read_6 : decode M_Re_read.2.1 6 = .ok (.iconst 0, 1) := by decide +kernel
theorem dc_Re_read_7 : decode M_Re_read.2.1 7 = .ok (.putfield 27, 3) := by decide +kernel
theorem dc_Re_read_10 : decode M_Re_read.2.1 10 = .ok (.aload_n 0, 1) := by decide +kernel
theorem dc_Re_read_11 : decode M_Re_read.2.1 11 = .ok (.invokevirtual 47, 3) := by decide +kernel
theorem dc_Re_read_14 : decode M_Re_read.2.1 14 = .ok (.iconst 0, 1) := by decide +kernel
theorem dc_Re_read_15 : decode M_Re_read.2.1 15 = .ok (.istore_n 1, 1) := by decide +kernel
theorem dc_Re_read_16 : decode M_Re_read.2.1 16 = .ok (.iload_n 1, 1) := by decide +kernel
theorem dc_Re_read_17 : decode M_Re_read.2.1 17 = .ok (.iconst 3, 1) := by decide +kernel
theorem dc_Re_read_18 : decode M_Re_read.2.1 18 = .ok (.if_icmp .ge 53, 3) := by decide +kernel
theorem dc_Re_read_21 : decode M_Re_read.2.1 21 = .ok (.aload_n 0, 1) := by decide +kernel
theorem dc_Re_read_22 : decode M_Re_read.2.1 22 = .ok (.sipush 262, 3) := by decide +kernel
theorem dc_Re_read_25 : decode M_Re_read.2.1 25 = .ok (.iload_n 1, 1) := by decide +kernel
theorem dc_Re_read_26 : decode M_Re_read.2.1 26 = .ok (.iadd, 1) := by decide +kernel
theorem dc_Re_read_27 : decode M_Re_read.2.1 27 = .ok (.invokevirtual 50, 3) := by decide +kernel
theorem dc_Re_read_30 : decode M_Re_read.2.1 30 = .ok (.ifCond .eq 20, 3) := by decide +kernel
theorem dc_Re_read_33 : decode M_Re_read.2.1 33 = .ok (.aload_n 0, 1) := by decide +kernel
theorem dc_Re_read_34 : decode M_Re_read.2.1 34 = .ok (.iconst 0, 1) := by decide +kernel
theorem dc_Re_read_35 : decode M_Re_read.2.1 35 = .ok (.invokevirtual 54, 3) := by decide +kernel
theorem dc_Re_read_38 : decode M_Re_read.2.1 38 = .ok (.ifCond .eq 12, 3) := by decide +kernel
theorem dc_Re_read_41 : decode M_Re_read.2.1 41 = .ok (.aload_n 0, 1) := by decide +kernel
theorem dc_Re_read_42 : decode M_Re_read.2.1 42 = .ok (.bipush 59, 2) := by decide +kernel
theorem dc_Re_read_44 : decode M_Re_read.2.1 44 = .ok (.invokevirtual 50, 3) := by decide +kernel
theorem dc_Re_read_47 : decode M_Re_read.2.1 47 = .ok (.ifCond .ne 8, 3) := by decide +kernel
theorem dc_Re_read_50 : decode M_Re_read.2.1 50 = .ok (.aload_n 0, 1) := by decide +kernel
theorem dc_Re_read_51 : decode M_Re_read.2.1 51 = .ok (.getfield 57, 3) := by decide +kernel
theorem dc_Re_read_54 : decode M_Re_read.2.1 54 = .ok (.ireturn, 1) := by decide +kernel
theorem dc_Re_read_55 : decode M_Re_read.2.1 55 = .ok (.aload_n 0, 1) := by decide +kernel
theorem dc_Re_read_56 : decode M_Re_read.2.1 56 = .ok (.getfield 20, 3) := by decide +kernel
theorem dc_Re_read_59 : decode M_Re_read.2.1 59 = .ok (.iload_n 1, 1) := by decide +kernel
theorem dc_Re_read_60 : decode M_Re_read.2.1 60 = .ok (.aload_n 0, 1) := by decide +kernel
theorem dc_Re_read_61 : decode M_Re_read.2.1 61 = .ok (.getfield 27, 3) := by decide +kernel
theorem dc_Re_read_64 : decode M_Re_read.2.1 64 = .ok (.iastore, 1) := by decide +kernel
theorem dc_Re_read_65 : decode M_Re_read.2.1 65 = .ok (.iinc 1 1, 3) := by decide +kernel
theorem dc_Re_read_68 : decode M_Re_read.2.1 68 = .ok (.goto (-52), 3) := by decide +kernel
theorem dc_Re_read_71 : decode M_Re_read.2.1 71 = .ok (.aload_n 0, 1) := by decide +kernel
theorem dc_Re_read_72 : decode M_Re_read.2.1 72 = .ok (.getfield 60, 3) := by decide +kernel
theorem dc_Re_read_75 : decode M_Re_read.2.1 75 = .ok (.ifCond .ne 7, 3) := by decide +kernel
theorem dc_Re_read_78 : decode M_Re_read.2.1 78 = .ok (.iconst (-1), 1) := by decide +kernel
theorem dc_Re_read_79 : decode M_Re_read.2.1 79 = .ok (.goto 7, 3) := by decide +kernel
theorem dc_Re_read_82 : decode M_Re_read.2.1 82 = .ok (.aload_n 0, 1) := by decide +kernel
theorem dc_Re_read_83 : decode M_Re_read.2.1 83 = .ok (.getfield 57, 3) := by decide +kernel
theorem dc_Re_read_86 : decode M_Re_read.2.1 86 = .ok (.ireturn, 1) := by decide +kernel
def f_Re_read_L16 (a0 : Nat) : Nat → Int32 → xH → (Int32 → xH → Option (Int32 × xH)) → Option (Int32 × xH)
  | 0, _, _, _ => none
  | n + 1, a1, h, K => if (3 : Int32) ≤ a1 then K a1 h else gd (hK h a0 = 1) (Option.bind (f_Re_takes a0 ((262 : Int32) + a1) h) (fun q17 => jn (fun (x19 : xH) => gd (hK x19 a0 = 1) (some (hI x19 a0 2, x19))) (fun k20 => if q17.1 = 0 then k20 q17.2 else gd (hK q17.2 a0 = 1) (Option.bind (f_Re_readEither a0 (0 : Int32) q17.2) (fun q23 => if q23.1 = 0 then k20 q23.2 else gd (hK q23.2 a0 = 1) (Option.bind (f_Re_takes a0 (59 : Int32) q23.2) (fun q26 => if q26.1 = 0 then k20 q26.2 else gd (hK q26.2 a0 = 1) (gd (hK q26.2 (hR q26.2 a0 8) = 12) (gd (¬ (a1 < 0 ∨ hL q26.2 (hR q26.2 a0 8) ≤ a1.toNatClampNeg)) (f_Re_read_L16 a0 n (a1 + (1 : Int32)) (hIu q26.2 (hR q26.2 a0 8) a1.toNatClampNeg (hI q26.2 a0 7)) K))))))))))
def f_Re_read (a0 : Nat) (h : xH) : Option (Int32 × xH) := gd (hK h a0 = 1) (Option.bind (f_Re_advance a0 (hIu (hIu h a0 3 (0 : Int32)) a0 7 (0 : Int32))) (fun q15 => f_Re_read_L16 a0 fu (0 : Int32) q15.2 (fun v32 h33 => gd (hK h33 a0 = 1) (jn (fun (x35 : Int32) => some (x35, h33)) (fun k36 => if (hI h33 a0 4) = 0 then k36 (-1 : Int32) else k36 (hI h33 a0 2))))))
theorem t_Re_read_L16 {l : Launch} {z : xZ} {d mc ms : Nat} {Ph : Option xV → xH → Prop} {a0 : Nat}  (hd : 385 ≤ d) : ∀ (n : Nat) (a1 : Int32) (h : xH) (K : Int32 → xH → Option (Int32 × xH)), OK (f_Re_read_L16 a0 n a1 h K) (fun q => Ph (some (xI q.1)) q.2) → (∀ (a1 : Int32) (h : xH), OK (K a1 h) (fun q => Ph (some (xI q.1)) q.2) → Sx l z d mc ms M_Re_read 71 [some (xR a0), some (xI a1)] [] h Ph) → Sx l z d mc ms M_Re_read 16 [some (xR a0), some (xI a1)] [] h Ph := by
  intro n
  induction n with
  | zero => intro a1 h K hk hE; exact hk.no
  | succ n ih =>
    intro a1 h K hk hE
    rw [f_Re_read_L16] at hk
    refine sx_iload_n dc_Re_read_16 rfl ?_
    refine sx_iconst (v := (3 : Int32)) dc_Re_read_17 (by decide) ?_
    refine sx_icmp_ge (tgt := 71) dc_Re_read_18 (by decide) (fun c16 => ?_) (fun c16 => ?_)
    · replace hk := hk.t c16
      exact hE a1 h hk
    · replace hk := hk.f c16
      refine sx_aload_n dc_Re_read_21 rfl ?_
      refine sx_sipush (v := (262 : Int32)) dc_Re_read_22 (by decide) ?_
      refine sx_iload_n dc_Re_read_25 rfl ?_
      refine sx_iadd dc_Re_read_26 ?_
      obtain ⟨g18, hk⟩ := hk.g
      obtain ⟨q17, eq17, hk⟩ := hk.bind
      refine sx_callV (d2 := d - 1) (mc2 := 0) (ms2 := 0) (as := [xI ((262 : Int32) + a1)]) mk_Re_takes rfl (x_rk (ci := 1) g18 rfl rfl) wM_Re_50 mi_Re_takes me_Re_takes rfl (Nat.le_of_ble_eq_true rfl) (Nat.le_of_ble_eq_true rfl) dc_Re_read_27 (by omega) (Nat.zero_le _) (Nat.zero_le _) ?_
      refine t_Re_takes (by omega) ⟨q17, eq17, ?_⟩
      refine sx_eq0 (lc2 := [some (xR a0), some (xI a1)]) (st2 := [xI q17.1]) rfl rfl ?_
      refine hk.j (X := fun x19 => Sx l z d mc ms M_Re_read 50 [some (xR a0), some (xI a1)] [] x19 Ph) (fun x19 hk => ?_) (fun k20 jk20 hk => ?_)
      · refine sx_aload_n dc_Re_read_50 rfl ?_
        obtain ⟨g21, hk⟩ := hk.g
        refine sx_get (ci := 1) (k := 2) rfl (by decide) wF_Re_57 g21 dc_Re_read_51 ?_
        exact sx_retI dc_Re_read_54 rfl hk.val
      · refine sx_if_eq (tgt := 50) dc_Re_read_30 (by decide) (fun c22 => ?_) (fun c22 => ?_)
        · replace hk := hk.t c22
          exact jk20 q17.2 hk
        · replace hk := hk.f c22
          refine sx_aload_n dc_Re_read_33 rfl ?_
          refine sx_iconst (v := (0 : Int32)) dc_Re_read_34 (by decide) ?_
          obtain ⟨g24, hk⟩ := hk.g
          obtain ⟨q23, eq23, hk⟩ := hk.bind
          refine sx_callV (d2 := d - 1) (mc2 := 0) (ms2 := 0) (as := [xI (0 : Int32)]) mk_Re_readEither rfl (x_rk (ci := 1) g24 rfl rfl) wM_Re_54 mi_Re_readEither me_Re_readEither rfl (Nat.le_of_ble_eq_true rfl) (Nat.le_of_ble_eq_true rfl) dc_Re_read_35 (by omega) (Nat.zero_le _) (Nat.zero_le _) ?_
          refine t_Re_readEither (by omega) ⟨q23, eq23, ?_⟩
          refine sx_eq0 (lc2 := [some (xR a0), some (xI a1)]) (st2 := [xI q23.1]) rfl rfl ?_
          refine sx_if_eq (tgt := 50) dc_Re_read_38 (by decide) (fun c25 => ?_) (fun c25 => ?_)
          · replace hk := hk.t c25
            exact jk20 q23.2 hk
          · replace hk := hk.f c25
            refine sx_aload_n dc_Re_read_41 rfl ?_
            refine sx_bipush (v := (59 : Int32)) dc_Re_read_42 (by decide) ?_
            obtain ⟨g27, hk⟩ := hk.g
            obtain ⟨q26, eq26, hk⟩ := hk.bind
            refine sx_callV (d2 := d - 1) (mc2 := 0) (ms2 := 0) (as := [xI (59 : Int32)]) mk_Re_takes rfl (x_rk (ci := 1) g27 rfl rfl) wM_Re_50 mi_Re_takes me_Re_takes rfl (Nat.le_of_ble_eq_true rfl) (Nat.le_of_ble_eq_true rfl) dc_Re_read_44 (by omega) (Nat.zero_le _) (Nat.zero_le _) ?_
            refine t_Re_takes (by omega) ⟨q26, eq26, ?_⟩
            refine sx_eq0 (lc2 := [some (xR a0), some (xI a1)]) (st2 := [xI q26.1]) rfl rfl ?_
            refine sx_if_ne (tgt := 55) dc_Re_read_47 (by decide) (fun c28 => ?_) (fun c28 => ?_)
            · replace hk := hk.f c28
              refine sx_aload_n dc_Re_read_55 rfl ?_
              obtain ⟨g29, hk⟩ := hk.g
              refine sx_get (ci := 1) (k := 8) rfl (by decide) wF_Re_20 g29 dc_Re_read_56 ?_
              refine sx_iload_n dc_Re_read_59 rfl ?_
              refine sx_aload_n dc_Re_read_60 rfl ?_
              refine sx_get (ci := 1) (k := 7) rfl (by decide) wF_Re_27 g29 dc_Re_read_61 ?_
              obtain ⟨g30, hk⟩ := hk.g
              obtain ⟨g31, hk⟩ := hk.g
              refine sx_iast g30 g31 dc_Re_read_64 ?_
              refine sx_iinc (v := (1 : Int32)) dc_Re_read_65 rfl (by decide) (by decide) (sx_eq (lc2 := [some (xR a0), some (xI (a1 + (1 : Int32)))]) rfl rfl ?_)
              refine sx_goto (tgt := 16) dc_Re_read_68 (by decide) ?_
              exact ih (a1 + (1 : Int32)) (hIu q26.2 (hR q26.2 a0 8) a1.toNatClampNeg (hI q26.2 a0 7)) _ hk hE
            · replace hk := hk.t c28
              exact jk20 q26.2 hk
theorem t_Re_read {l : Launch} {z : xZ} {d mc ms : Nat} {Ph : Option xV → xH → Prop} {a0 : Nat}  {h : xH} (hd : 385 ≤ d) (hk : OK (f_Re_read a0 h) (fun q => Ph (some (xI q.1)) q.2)) : Sx l z d mc ms M_Re_read 0 (x_en [xR a0] 2) [] h Ph := by
  unfold f_Re_read at hk
  refine sx_eq (lc2 := [some (xR a0), none]) rfl rfl ?_
  refine sx_aload_n dc_Re_read_0 rfl ?_
  refine sx_iconst (v := (0 : Int32)) dc_Re_read_1 (by decide) ?_
  obtain ⟨g14, hk⟩ := hk.g
  refine sx_putI (ci := 1) (k := 3) rfl (by decide) wF_Re_44 rfl g14 (Or.inl rfl) dc_Re_read_2 ?_
  refine sx_aload_n dc_Re_read_5 rfl ?_
  refine sx_iconst (v := (0 : Int32)) dc_Re_read_6 (by decide) ?_
  refine sx_putI (ci := 1) (k := 7) rfl (by decide) wF_Re_27 rfl g14 (Or.inl rfl) dc_Re_read_7 ?_
  refine sx_aload_n dc_Re_read_10 rfl ?_
  obtain ⟨q15, eq15, hk⟩ := hk.bind
  refine sx_callV (d2 := d - 1) (mc2 := 0) (ms2 := 0) (as := []) mk_Re_advance rfl (x_rk (ci := 1) g14 rfl rfl) wM_Re_47 mi_Re_advance me_Re_advance rfl (Nat.le_of_ble_eq_true rfl) (Nat.le_of_ble_eq_true rfl) dc_Re_read_11 (by omega) (Nat.zero_le _) (Nat.zero_le _) ?_
  refine t_Re_advance (by omega) ⟨q15, eq15, ?_⟩
  refine sx_eq0 (lc2 := [some (xR a0), none]) (st2 := []) rfl rfl ?_
  refine sx_iconst (v := (0 : Int32)) dc_Re_read_14 (by decide) ?_
  refine sx_istore_n dc_Re_read_15 (by decide) (sx_eq (lc2 := [some (xR a0), some (xI (0 : Int32))]) rfl rfl ?_)
  refine t_Re_read_L16 (by omega) _ _ _ _ hk (fun v32 h33 hk => ?_)
  refine sx_aload_n dc_Re_read_71 rfl ?_
  obtain ⟨g34, hk⟩ := hk.g
  refine sx_get (ci := 1) (k := 4) rfl (by decide) wF_Re_60 g34 dc_Re_read_72 ?_
  refine hk.j (X := fun x35 => Sx l z d mc ms M_Re_read 86 [some (xR a0), some (xI v32)] [xI x35] h33 Ph) (fun x35 hk => ?_) (fun k36 jk36 hk => ?_)
  · exact sx_retI dc_Re_read_86 rfl hk.val
  · refine sx_if_ne (tgt := 82) dc_Re_read_75 (by decide) (fun c37 => ?_) (fun c37 => ?_)
    · replace hk := hk.f c37
      refine sx_aload_n dc_Re_read_82 rfl ?_
      refine sx_get (ci := 1) (k := 2) rfl (by decide) wF_Re_57 g34 dc_Re_read_83 ?_
      exact jk36 (hI h33 a0 2) hk
    · replace hk := hk.t c37
      refine sx_iconst (v := (-1 : Int32)) dc_Re_read_78 (by decide) ?_
      refine sx_goto (tgt := 86) dc_Re_read_79 (by decide) ?_
      exact jk36 (-1 : Int32) hk
theorem dc_Ru_init_0 : decode M_Ru_init.2.1 0 = .ok (.aload_n 0, 1) := by decide +kernel
theorem dc_Ru_init_1 : decode M_Ru_init.2.1 1 = .ok (.invokespecial 1, 3) := by decide +kernel
theorem dc_Ru_init_4 : decode M_Ru_init.2.1 4 = .ok (.aload_n 0, 1) := by decide +kernel
theorem dc_Ru_init_5 : decode M_Ru_init.2.1 5 = .ok (.bipush 6, 2) := by decide +kernel
theorem dc_Ru_init_7 : decode M_Ru_init.2.1 7 = .ok (.newarray .int, 2) := by decide +kernel
theorem dc_Ru_init_9 : decode M_Ru_init.2.1 9 = .ok (.putfield 9, 3) := by decide +kernel
theorem dc_Ru_init_12 : decode M_Ru_init.2.1 12 = .ok (.aload_n 0, 1) := by decide +kernel
theorem dc_Ru_init_13 : decode M_Ru_init.2.1 13 = .ok (.bipush 40, 2) := by decide +kernel
theorem dc_Ru_init_15 : decode M_Ru_init.2.1 15 = .ok (.newarray .int, 2) := by decide +kernel
theorem dc_Ru_init_17 : decode M_Ru_init.2.1 17 = .ok (.putfield 13, 3) := by decide +kernel
theorem dc_Ru_init_20 : decode M_Ru_init.2.1 20 = .ok (.aload_n 0, 1) := by decide +kernel
theorem dc_Ru_init_21 : decode M_Ru_init.2.1 21 = .ok (.aload_n 1, 1) := by decide +kernel
theorem dc_Ru_init_22 : decode M_Ru_init.2.1 22 = .ok (.putfield 16, 3) := by decide +kernel
theorem dc_Ru_init_25 : decode M_Ru_init.2.1 25 = .ok (.aload_n 0, 1) := by decide +kernel
theorem dc_Ru_init_26 : decode M_Ru_init.2.1 26 = .ok (.aload_n 2, 1) := by decide +kernel
theorem dc_Ru_init_27 : decode M_Ru_init.2.1 27 = .ok (.putfield 20, 3) := by decide +kernel
theorem dc_Ru_init_30 : decode M_Ru_init.2.1 30 = .ok (.return_, 1) := by decide +kernel
def f_Ru_init (a0 : Nat) (a1 : Nat) (a2 : Nat) (h : xH) : Option (Unit × xH) := gd (hK h a0 = 2) (hp (hNw h 12 6) (fun h5 => gd (hK h5 a0 = 2) (hp (hNw (hRu h5 a0 2 (hN h)) 12 40) (fun h8 => gd (hK h8 a0 = 2) (some ((), hRu (hRu (hRu h8 a0 3 (hN (hRu h5 a0 2 (hN h)))) a0 0 a1) a0 1 a2))))))
theorem t_Ru_init {l : Launch} {z : xZ} {d mc ms : Nat} {Ph : Option xV → xH → Prop} {a0 : Nat} {a1 : Nat} {a2 : Nat}  {h : xH} (hd : 2 ≤ d) (hmc : 2 ≤ mc) (hms : 46 ≤ ms) (hk : OK (f_Ru_init a0 a1 a2 h) (fun q => Ph (none) q.2)) : Sx l z d mc ms M_Ru_init 0 (x_en [xR a0, xR a1, xR a2] 3) [] h Ph := by
  unfold f_Ru_init at hk
  refine sx_eq (lc2 := [some (xR a0), some (xR a1), some (xR a2)]) rfl rfl ?_
  refine sx_aload_n dc_Ru_init_0 rfl ?_
  obtain ⟨g4, hk⟩ := hk.g
  refine sx_objInit g4 (by decide) wM_Ru_1 wO wP (Nat.le_of_ble_eq_true rfl) (by omega) dc_Ru_init_1 ?_
  refine sx_aload_n dc_Ru_init_4 rfl ?_
  refine sx_bipush (v := (6 : Int32)) dc_Ru_init_5 (by decide) ?_
  refine sx_newI (N := 6) (by decide) (by decide) (by decide) wA_int dc_Ru_init_7 (by omega) (by omega) ?_
  obtain ⟨h5, eh5, hk⟩ := hk.h
  refine sx_hp eh5 ?_
  have g6 : hK h5 (hN h) = 12 := by rw [eh5]; exact (show hK (hNw h 12 6) (hN h) = 12 from if_pos rfl)
  obtain ⟨g7, hk⟩ := hk.g
  refine sx_putRF (ci := 2) (k := 2) rfl (by decide) wF_Ru_9 rfl (by rfl) rfl g7 rfl dc_Ru_init_9 ?_
  refine sx_aload_n dc_Ru_init_12 rfl ?_
  refine sx_bipush (v := (40 : Int32)) dc_Ru_init_13 (by decide) ?_
  refine sx_newI (N := 40) (by decide) (by decide) (by decide) wA_int dc_Ru_init_15 (by omega) (by omega) ?_
  obtain ⟨h8, eh8, hk⟩ := hk.h
  refine sx_hp eh8 ?_
  have g9 : hK h8 (hN (hRu h5 a0 2 (hN h))) = 12 := by rw [eh8]; exact (show hK (hNw (hRu h5 a0 2 (hN h)) 12 40) (hN (hRu h5 a0 2 (hN h))) = 12 from if_pos rfl)
  obtain ⟨g10, hk⟩ := hk.g
  refine sx_putRF (ci := 2) (k := 3) rfl (by decide) wF_Ru_13 rfl (by rfl) rfl g10 rfl dc_Ru_init_17 ?_
  refine sx_aload_n dc_Ru_init_20 rfl ?_
  refine sx_aload_n dc_Ru_init_21 rfl ?_
  refine sx_putRF (ci := 2) (k := 0) rfl (by decide) wF_Ru_16 rfl (by rfl) rfl g10 rfl dc_Ru_init_22 ?_
  refine sx_aload_n dc_Ru_init_25 rfl ?_
  refine sx_aload_n dc_Ru_init_26 rfl ?_
  refine sx_putRF (ci := 2) (k := 1) rfl (by decide) wF_Ru_20 rfl (by rfl) rfl g10 rfl dc_Ru_init_27 ?_
  exact sx_retV dc_Ru_init_30 rfl hk.val
theorem dc_Ru_follow_0 : decode M_Ru_follow.2.1 0 = .ok (.aload_n 0, 1) := by decide +kernel
theorem dc_Ru_follow_1 : decode M_Ru_follow.2.1 1 = .ok (.aload_n 1, 1) := by decide +kernel
theorem dc_Ru_follow_2 : decode M_Ru_follow.2.1 2 = .ok (.putfield 24, 3) := by decide +kernel
theorem dc_Ru_follow_5 : decode M_Ru_follow.2.1 5 = .ok (.return_, 1) := by decide +kernel
def f_Ru_follow (a0 : Nat) (a1 : Nat) (h : xH) : Option (Unit × xH) := gd (hK h a0 = 2) (some ((), hRu h a0 5 a1))
theorem t_Ru_follow {l : Launch} {z : xZ} {d mc ms : Nat} {Ph : Option xV → xH → Prop} {a0 : Nat} {a1 : Nat}  {h : xH} (hd : 1 ≤ d) (hk : OK (f_Ru_follow a0 a1 h) (fun q => Ph (none) q.2)) : Sx l z d mc ms M_Ru_follow 0 (x_en [xR a0, xR a1] 2) [] h Ph := by
  unfold f_Ru_follow at hk
  refine sx_eq (lc2 := [some (xR a0), some (xR a1)]) rfl rfl ?_
  refine sx_aload_n dc_Ru_follow_0 rfl ?_
  refine sx_aload_n dc_Ru_follow_1 rfl ?_
  obtain ⟨g2, hk⟩ := hk.g
  refine sx_putR (ci := 2) (k := 5) rfl (by decide) wF_Ru_24 rfl g2 rfl dc_Ru_follow_2 ?_
  exact sx_retV dc_Ru_follow_5 rfl hk.val
theorem dc_Ru_counts_0 : decode M_Ru_counts.2.1 0 = .ok (.aload_n 0, 1) := by decide +kernel
theorem dc_Ru_counts_1 : decode M_Ru_counts.2.1 1 = .ok (.iload_n 1, 1) := by decide +kernel
theorem dc_Ru_counts_2 : decode M_Ru_counts.2.1 2 = .ok (.iload_n 2, 1) := by decide +kernel
theorem dc_Ru_counts_3 : decode M_Ru_counts.2.1 3 = .ok (.iload_n 3, 1) := by decide +kernel
theorem dc_Ru_counts_4 : decode M_Ru_counts.2.1 4 = .ok (.iload 4, 2) := by decide +kernel
theorem dc_Ru_counts_6 : decode M_Ru_counts.2.1 6 = .ok (.iconst 3, 1) := by decide +kernel
theorem dc_Ru_counts_7 : decode M_Ru_counts.2.1 7 = .ok (.invokevirtual 28, 3) := by decide +kernel
theorem dc_Ru_counts_10 : decode M_Ru_counts.2.1 10 = .ok (.aload_n 0, 1) := by decide +kernel
theorem dc_Ru_counts_11 : decode M_Ru_counts.2.1 11 = .ok (.iconst 0, 1) := by decide +kernel
theorem dc_Ru_counts_12 : decode M_Ru_counts.2.1 12 = .ok (.invokevirtual 34, 3) := by decide +kernel
theorem dc_Ru_counts_15 : decode M_Ru_counts.2.1 15 = .ok (.ifCond .eq 7, 3) := by decide +kernel
theorem dc_Ru_counts_18 : decode M_Ru_counts.2.1 18 = .ok (.iconst 1, 1) := by decide +kernel
theorem dc_Ru_counts_19 : decode M_Ru_counts.2.1 19 = .ok (.goto 4, 3) := by decide +kernel
theorem dc_Ru_counts_22 : decode M_Ru_counts.2.1 22 = .ok (.iconst 0, 1) := by decide +kernel
theorem dc_Ru_counts_23 : decode M_Ru_counts.2.1 23 = .ok (.ireturn, 1) := by decide +kernel
def f_Ru_counts (a0 : Nat) (a1 : Int32) (a2 : Int32) (a3 : Int32) (a4 : Int32) (h : xH) : Option (Int32 × xH) := gd (hK h a0 = 2) (Option.bind (f_Ru_name a0 a1 a2 a3 a4 (3 : Int32) h) (fun q5 => gd (hK q5.2 a0 = 2) (Option.bind (f_Ru_answer a0 (0 : Int32) q5.2) (fun q7 => some (nb (if q7.1 = 0 then (0 : Int32) else (1 : Int32)), q7.2)))))
theorem t_Ru_counts {l : Launch} {z : xZ} {d mc ms : Nat} {Ph : Option xV → xH → Prop} {a0 : Nat} {a1 : Int32} {a2 : Int32} {a3 : Int32} {a4 : Int32}  {h : xH} (hd : 4 ≤ d) (hk : OK (f_Ru_counts a0 a1 a2 a3 a4 h) (fun q => Ph (some (xI q.1)) q.2)) : Sx l z d mc ms M_Ru_counts 0 (x_en [xR a0, xI a1, xI a2, xI a3, xI a4] 5) [] h Ph := by
  unfold f_Ru_counts at hk
  refine sx_eq (lc2 := [some (xR a0), some (xI a1), some (xI a2), some (xI a3), some (xI a4)]) rfl rfl ?_
  refine sx_aload_n dc_Ru_counts_0 rfl ?_
  refine sx_iload_n dc_Ru_counts_1 rfl ?_
  refine sx_iload_n dc_Ru_counts_2 rfl ?_
  refine sx_iload_n dc_Ru_counts_3 rfl ?_
  refine sx_iload dc_Ru_counts_4 rfl ?_
  refine sx_iconst (v := (3 : Int32)) dc_Ru_counts_6 (by decide) ?_
  obtain ⟨g6, hk⟩ := hk.g
  obtain ⟨q5, eq5, hk⟩ := hk.bind
  refine sx_callV (d2 := d - 1) (mc2 := 0) (ms2 := 0) (as := [xI a1, xI a2, xI a3, xI a4, xI (3 : Int32)]) mk_Ru_name rfl (x_rk (ci := 2) g6 rfl rfl) wM_Ru_28 mi_Ru_name me_Ru_name rfl (Nat.le_of_ble_eq_true rfl) (Nat.le_of_ble_eq_true rfl) dc_Ru_counts_7 (by omega) (Nat.zero_le _) (Nat.zero_le _) ?_
  refine t_Ru_name (by omega) ⟨q5, eq5, ?_⟩
  refine sx_eq0 (lc2 := [some (xR a0), some (xI a1), some (xI a2), some (xI a3), some (xI a4)]) (st2 := []) rfl rfl ?_
  refine sx_aload_n dc_Ru_counts_10 rfl ?_
  refine sx_iconst (v := (0 : Int32)) dc_Ru_counts_11 (by decide) ?_
  obtain ⟨g8, hk⟩ := hk.g
  obtain ⟨q7, eq7, hk⟩ := hk.bind
  refine sx_callV (d2 := d - 1) (mc2 := 0) (ms2 := 0) (as := [xI (0 : Int32)]) mk_Ru_answer rfl (x_rk (ci := 2) g8 rfl rfl) wM_Ru_34 mi_Ru_answer me_Ru_answer rfl (Nat.le_of_ble_eq_true rfl) (Nat.le_of_ble_eq_true rfl) dc_Ru_counts_12 (by omega) (Nat.zero_le _) (Nat.zero_le _) ?_
  refine t_Ru_answer (by omega) ⟨q7, eq7, ?_⟩
  refine sx_eq0 (lc2 := [some (xR a0), some (xI a1), some (xI a2), some (xI a3), some (xI a4)]) (st2 := [xI q7.1]) rfl rfl ?_
  refine sx_mg (pc2 := 23) (lc2 := [some (xR a0), some (xI a1), some (xI a2), some (xI a3), some (xI a4)]) (st2 := [xI (if q7.1 = 0 then (0 : Int32) else (1 : Int32))]) (h2 := q7.2) ?_ (fun J9 => ?_)
  · exact sx_retT dc_Ru_counts_23 (Or.inl ⟨rfl, rfl⟩) rfl hk.val
  · refine sx_if_eq (tgt := 22) dc_Ru_counts_15 (by decide) (fun c10 => ?_) (fun c10 => ?_)
    · try simp only [if_pos c10] at J9
      refine sx_iconst (v := (0 : Int32)) dc_Ru_counts_22 (by decide) ?_
      exact J9
    · try simp only [if_neg c10] at J9
      refine sx_iconst (v := (1 : Int32)) dc_Ru_counts_18 (by decide) ?_
      refine sx_goto (tgt := 23) dc_Ru_counts_19 (by decide) ?_
      exact J9
theorem dc_Se_pairsAmong_0 : decode M_Se_pairsAmong.2.1 0 = .ok (.iload_n 0, 1) := by decide +kernel
theorem dc_Se_pairsAmong_1 : decode M_Se_pairsAmong.2.1 1 = .ok (.iload_n 0, 1) := by decide +kernel
theorem dc_Se_pairsAmong_2 : decode M_Se_pairsAmong.2.1 2 = .ok (.iconst 1, 1) := by decide +kernel
theorem dc_Se_pairsAmong_3 : decode M_Se_pairsAmong.2.1 3 = .ok (.isub, 1) := by decide +kernel
theorem dc_Se_pairsAmong_4 : decode M_Se_pairsAmong.2.1 4 = .ok (.imul, 1) := by decide +kernel
theorem dc_Se_pairsAmong_5 : decode M_Se_pairsAmong.2.1 5 = .ok (.iconst 2, 1) := by decide +kernel
theorem dc_Se_pairsAmong_6 : decode M_Se_pairsAmong.2.1 6 = .ok (.idiv, 1) := by decide +kernel
theorem dc_Se_pairsAmong_7 : decode M_Se_pairsAmong.2.1 7 = .ok (.ireturn, 1) := by decide +kernel
def f_Se_pairsAmong (a0 : Int32) (h : xH) : Option (Int32 × xH) := some ((a0 * (a0 - (1 : Int32))) / (2 : Int32), h)
theorem t_Se_pairsAmong {l : Launch} {z : xZ} {d mc ms : Nat} {Ph : Option xV → xH → Prop} {a0 : Int32}  {h : xH} (hd : 1 ≤ d) (hk : OK (f_Se_pairsAmong a0 h) (fun q => Ph (some (xI q.1)) q.2)) : Sx l z d mc ms M_Se_pairsAmong 0 (x_en [xI a0] 1) [] h Ph := by
  unfold f_Se_pairsAmong at hk
  refine sx_eq (lc2 := [some (xI a0)]) rfl rfl ?_
  refine sx_iload_n dc_Se_pairsAmong_0 rfl ?_
  refine sx_iload_n dc_Se_pairsAmong_1 rfl ?_
  refine sx_iconst (v := (1 : Int32)) dc_Se_pairsAmong_2 (by decide) ?_
  refine sx_isub dc_Se_pairsAmong_3 ?_
  refine sx_imul dc_Se_pairsAmong_4 ?_
  refine sx_iconst (v := (2 : Int32)) dc_Se_pairsAmong_5 (by decide) ?_
  refine sx_idiv dc_Se_pairsAmong_6 (by decide) ?_
  exact sx_retI dc_Se_pairsAmong_7 rfl hk.val
theorem dc_Se_pairOf_0 : decode M_Se_pairOf.2.1 0 = .ok (.iload_n 0, 1) := by decide +kernel
theorem dc_Se_pairOf_1 : decode M_Se_pairOf.2.1 1 = .ok (.iload_n 1, 1) := by decide +kernel
theorem dc_Se_pairOf_2 : decode M_Se_pairOf.2.1 2 = .ok (.invokestatic 35, 3) := by decide +kernel
theorem dc_Se_pairOf_5 : decode M_Se_pairOf.2.1 5 = .ok (.invokestatic 22, 3) := by decide +kernel
theorem dc_Se_pairOf_8 : decode M_Se_pairOf.2.1 8 = .ok (.iload_n 0, 1) := by decide +kernel
theorem dc_Se_pairOf_9 : decode M_Se_pairOf.2.1 9 = .ok (.iload_n 1, 1) := by decide +kernel
theorem dc_Se_pairOf_10 : decode M_Se_pairOf.2.1 10 = .ok (.invokestatic 40, 3) := by decide +kernel
theorem dc_Se_pairOf_13 : decode M_Se_pairOf.2.1 13 = .ok (.iadd, 1) := by decide +kernel
theorem dc_Se_pairOf_14 : decode M_Se_pairOf.2.1 14 = .ok (.ireturn, 1) := by decide +kernel
def f_Se_pairOf (a0 : Int32) (a1 : Int32) (h : xH) : Option (Int32 × xH) := Option.bind (f_Se_pairsAmong (jMax a0 a1) h) (fun q2 => some (q2.1 + (jMin a0 a1), q2.2))
theorem t_Se_pairOf {l : Launch} {z : xZ} {d mc ms : Nat} {Ph : Option xV → xH → Prop} {a0 : Int32} {a1 : Int32}  {h : xH} (hd : 2 ≤ d) (hk : OK (f_Se_pairOf a0 a1 h) (fun q => Ph (some (xI q.1)) q.2)) : Sx l z d mc ms M_Se_pairOf 0 (x_en [xI a0, xI a1] 2) [] h Ph := by
  unfold f_Se_pairOf at hk
  refine sx_eq (lc2 := [some (xI a0), some (xI a1)]) rfl rfl ?_
  refine sx_iload_n dc_Se_pairOf_0 rfl ?_
  refine sx_iload_n dc_Se_pairOf_1 rfl ?_
  refine sx_max wM_Se_35 mt_Mt_max wT_Mt wV_max (Nat.le_of_ble_eq_true rfl) (by omega) dc_Se_pairOf_2 ?_
  obtain ⟨q2, eq2, hk⟩ := hk.bind
  refine sx_callS (d2 := d - 1) (mc2 := 0) (ms2 := 0) (as := [xI (jMax a0 a1)]) mk_Se_pairsAmong rfl wM_Se_22 mt_Se_pairsAmong rfl (Nat.le_of_ble_eq_true rfl) (Nat.le_of_ble_eq_true rfl) dc_Se_pairOf_5 (by omega) (Nat.zero_le _) (Nat.zero_le _) ?_
  refine t_Se_pairsAmong (by omega) ⟨q2, eq2, ?_⟩
  refine sx_eq0 (lc2 := [some (xI a0), some (xI a1)]) (st2 := [xI q2.1]) rfl rfl ?_
  refine sx_iload_n dc_Se_pairOf_8 rfl ?_
  refine sx_iload_n dc_Se_pairOf_9 rfl ?_
  refine sx_min wM_Se_40 mt_Mt_min wT_Mt wV_min (Nat.le_of_ble_eq_true rfl) (by omega) dc_Se_pairOf_10 ?_
  refine sx_iadd dc_Se_pairOf_13 ?_
  exact sx_retI dc_Se_pairOf_14 rfl hk.val
theorem dc_Ta_knownBy_0 : decode M_Ta_knownBy.2.1 0 = .ok (.iconst 0, 1) := by decide +kernel
theorem dc_Ta_knownBy_1 : decode M_Ta_knownBy.2.1 1 = .ok (.istore_n 2, 1) := by decide +kernel
theorem dc_Ta_knownBy_2 : decode M_Ta_knownBy.2.1 2 = .ok (.iconst 0, 1) := by decide +kernel
theorem dc_Ta_knownBy_3 : decode M_Ta_knownBy.2.1 3 = .ok (.istore_n 3, 1) := by decide +kernel
theorem dc_Ta_knownBy_4 : decode M_Ta_knownBy.2.1 4 = .ok (.iload_n 3, 1) := by decide +kernel
theorem dc_Ta_knownBy_5 : decode M_Ta_knownBy.2.1 5 = .ok (.aload_n 0, 1) := by decide +kernel
theorem dc_Ta_knownBy_6 : decode M_Ta_knownBy.2.1 6 = .ok (.getfield 13, 3) := by decide +kernel
theorem dc_Ta_knownBy_9 : decode M_Ta_knownBy.2.1 9 = .ok (.if_icmp .ge 36, 3) := by decide +kernel
theorem dc_Ta_knownBy_12 : decode M_Ta_knownBy.2.1 12 = .ok (.iload_n 3, 1) := by decide +kernel
theorem dc_Ta_knownBy_13 : decode M_Ta_knownBy.2.1 13 = .ok (.iload_n 1, 1) := by decide +kernel
theorem dc_Ta_knownBy_14 : decode M_Ta_knownBy.2.1 14 = .ok (.if_icmp .eq 25, 3) := by decide +kernel
theorem dc_Ta_knownBy_17 : decode M_Ta_knownBy.2.1 17 = .ok (.aload_n 0, 1) := by decide +kernel
theorem dc_Ta_knownBy_18 : decode M_Ta_knownBy.2.1 18 = .ok (.getfield 25, 3) := by decide +kernel
theorem dc_Ta_knownBy_21 : decode M_Ta_knownBy.2.1 21 = .ok (.iload_n 1, 1) := by decide +kernel
theorem dc_Ta_knownBy_22 : decode M_Ta_knownBy.2.1 22 = .ok (.iload_n 3, 1) := by decide +kernel
theorem dc_Ta_knownBy_23 : decode M_Ta_knownBy.2.1 23 = .ok (.invokestatic 40, 3) := by decide +kernel
theorem dc_Ta_knownBy_26 : decode M_Ta_knownBy.2.1 26 = .ok (.ishr, 1) := by decide +kernel
theorem dc_Ta_knownBy_27 : decode M_Ta_knownBy.2.1 27 = .ok (.iconst 1, 1) := by decide +kernel
theorem dc_Ta_knownBy_28 : decode M_Ta_knownBy.2.1 28 = .ok (.iand, 1) := by decide +kernel
theorem dc_Ta_knownBy_29 : decode M_Ta_knownBy.2.1 29 = .ok (.iconst 1, 1) := by decide +kernel
theorem dc_Ta_knownBy_30 : decode M_Ta_knownBy.2.1 30 = .ok (.if_icmp .ne 9, 3) := by decide +kernel
theorem dc_Ta_knownBy_33 : decode M_Ta_knownBy.2.1 33 = .ok (.iload_n 2, 1) := by decide +kernel
theorem dc_Ta_knownBy_34 : decode M_Ta_knownBy.2.1 34 = .ok (.iconst 1, 1) := by decide +kernel
theorem dc_Ta_knownBy_35 : decode M_Ta_knownBy.2.1 35 = .ok (.iload_n 3, 1) := by decide +kernel
theorem dc_Ta_knownBy_36 : decode M_Ta_knownBy.2.1 36 = .ok (.ishl, 1) := by decide +kernel
theorem dc_Ta_knownBy_37 : decode M_Ta_knownBy.2.1 37 = .ok (.ior, 1) := by decide +kernel
theorem dc_Ta_knownBy_38 : decode M_Ta_knownBy.2.1 38 = .ok (.istore_n 2, 1) := by decide +kernel
theorem dc_Ta_knownBy_39 : decode M_Ta_knownBy.2.1 39 = .ok (.iinc 3 1, 3) := by decide +kernel
theorem dc_Ta_knownBy_42 : decode M_Ta_knownBy.2.1 42 = .ok (.goto (-38), 3) := by decide +kernel
theorem dc_Ta_knownBy_45 : decode M_Ta_knownBy.2.1 45 = .ok (.iload_n 2, 1) := by decide +kernel
theorem dc_Ta_knownBy_46 : decode M_Ta_knownBy.2.1 46 = .ok (.ireturn, 1) := by decide +kernel
def f_Ta_knownBy_L4 (a0 : Nat) (a1 : Int32) : Nat → Int32 → Int32 → xH → (Int32 → Int32 → xH → Option (Int32 × xH)) → Option (Int32 × xH)
  | 0, _, _, _, _ => none
  | n + 1, a2, a3, h, K => gd (hK h a0 = 6) (if (hI h a0 1) ≤ a3 then K a2 a3 h else jn (fun (x5 : Int32 × xH) => f_Ta_knownBy_L4 a0 a1 n x5.1 (a3 + (1 : Int32)) x5.2 K) (fun k6 => if a3 = a1 then k6 (a2, h) else Option.bind (f_Se_pairOf a1 a3 h) (fun q8 => if ((jShr (hI h a0 2) q8.1) &&& (1 : Int32)) = (1 : Int32) then k6 ((a2 ||| (jShl (1 : Int32) a3)), q8.2) else k6 (a2, q8.2))))
def f_Ta_knownBy (a0 : Nat) (a1 : Int32) (h : xH) : Option (Int32 × xH) := f_Ta_knownBy_L4 a0 a1 fu (0 : Int32) (0 : Int32) h (fun v10 v11 h12 => some (v10, h12))
theorem t_Ta_knownBy_L4 {l : Launch} {z : xZ} {d mc ms : Nat} {Ph : Option xV → xH → Prop} {a0 : Nat} {a1 : Int32}  (hd : 3 ≤ d) : ∀ (n : Nat) (a2 : Int32) (a3 : Int32) (h : xH) (K : Int32 → Int32 → xH → Option (Int32 × xH)), OK (f_Ta_knownBy_L4 a0 a1 n a2 a3 h K) (fun q => Ph (some (xI q.1)) q.2) → (∀ (a2 : Int32) (a3 : Int32) (h : xH), OK (K a2 a3 h) (fun q => Ph (some (xI q.1)) q.2) → Sx l z d mc ms M_Ta_knownBy 45 [some (xR a0), some (xI a1), some (xI a2), some (xI a3)] [] h Ph) → Sx l z d mc ms M_Ta_knownBy 4 [some (xR a0), some (xI a1), some (xI a2), some (xI a3)] [] h Ph := by
  intro n
  induction n with
  | zero => intro a2 a3 h K hk hE; exact hk.no
  | succ n ih =>
    intro a2 a3 h K hk hE
    rw [f_Ta_knownBy_L4] at hk
    refine sx_iload_n dc_Ta_knownBy_4 rfl ?_
    refine sx_aload_n dc_Ta_knownBy_5 rfl ?_
    obtain ⟨g3, hk⟩ := hk.g
    refine sx_get (ci := 6) (k := 1) rfl (by decide) wF_Ta_13 g3 dc_Ta_knownBy_6 ?_
    refine sx_icmp_ge (tgt := 45) dc_Ta_knownBy_9 (by decide) (fun c4 => ?_) (fun c4 => ?_)
    · replace hk := hk.t c4
      exact hE a2 a3 h hk
    · replace hk := hk.f c4
      refine sx_iload_n dc_Ta_knownBy_12 rfl ?_
      refine sx_iload_n dc_Ta_knownBy_13 rfl ?_
      refine hk.j (X := fun x5 => Sx l z d mc ms M_Ta_knownBy 39 [some (xR a0), some (xI a1), some (xI x5.1), some (xI a3)] [] x5.2 Ph) (fun x5 hk => ?_) (fun k6 jk6 hk => ?_)
      · refine sx_iinc (v := (1 : Int32)) dc_Ta_knownBy_39 rfl (by decide) (by decide) (sx_eq (lc2 := [some (xR a0), some (xI a1), some (xI x5.1), some (xI (a3 + (1 : Int32)))]) rfl rfl ?_)
        refine sx_goto (tgt := 4) dc_Ta_knownBy_42 (by decide) ?_
        exact ih x5.1 (a3 + (1 : Int32)) x5.2 _ hk hE
      · refine sx_icmp_eq (tgt := 39) dc_Ta_knownBy_14 (by decide) (fun c7 => ?_) (fun c7 => ?_)
        · replace hk := hk.t c7
          exact jk6 (a2, h) hk
        · replace hk := hk.f c7
          refine sx_aload_n dc_Ta_knownBy_17 rfl ?_
          refine sx_get (ci := 6) (k := 2) rfl (by decide) wF_Ta_25 g3 dc_Ta_knownBy_18 ?_
          refine sx_iload_n dc_Ta_knownBy_21 rfl ?_
          refine sx_iload_n dc_Ta_knownBy_22 rfl ?_
          obtain ⟨q8, eq8, hk⟩ := hk.bind
          refine sx_callS (d2 := d - 1) (mc2 := 0) (ms2 := 0) (as := [xI a1, xI a3]) mk_Se_pairOf rfl wM_Ta_40 mt_Se_pairOf rfl (Nat.le_of_ble_eq_true rfl) (Nat.le_of_ble_eq_true rfl) dc_Ta_knownBy_23 (by omega) (Nat.zero_le _) (Nat.zero_le _) ?_
          refine t_Se_pairOf (by omega) ⟨q8, eq8, ?_⟩
          refine sx_eq0 (lc2 := [some (xR a0), some (xI a1), some (xI a2), some (xI a3)]) (st2 := [xI q8.1, xI (hI h a0 2)]) rfl rfl ?_
          refine sx_ishr dc_Ta_knownBy_26 ?_
          refine sx_iconst (v := (1 : Int32)) dc_Ta_knownBy_27 (by decide) ?_
          refine sx_iand dc_Ta_knownBy_28 ?_
          refine sx_iconst (v := (1 : Int32)) dc_Ta_knownBy_29 (by decide) ?_
          refine sx_icmp_ne (tgt := 39) dc_Ta_knownBy_30 (by decide) (fun c9 => ?_) (fun c9 => ?_)
          · replace hk := hk.f c9
            exact jk6 (a2, q8.2) hk
          · replace hk := hk.t c9
            refine sx_iload_n dc_Ta_knownBy_33 rfl ?_
            refine sx_iconst (v := (1 : Int32)) dc_Ta_knownBy_34 (by decide) ?_
            refine sx_iload_n dc_Ta_knownBy_35 rfl ?_
            refine sx_ishl dc_Ta_knownBy_36 ?_
            refine sx_ior dc_Ta_knownBy_37 ?_
            refine sx_istore_n dc_Ta_knownBy_38 (by decide) (sx_eq (lc2 := [some (xR a0), some (xI a1), some (xI (a2 ||| (jShl (1 : Int32) a3))), some (xI a3)]) rfl rfl ?_)
            exact jk6 ((a2 ||| (jShl (1 : Int32) a3)), q8.2) hk
theorem t_Ta_knownBy {l : Launch} {z : xZ} {d mc ms : Nat} {Ph : Option xV → xH → Prop} {a0 : Nat} {a1 : Int32}  {h : xH} (hd : 3 ≤ d) (hk : OK (f_Ta_knownBy a0 a1 h) (fun q => Ph (some (xI q.1)) q.2)) : Sx l z d mc ms M_Ta_knownBy 0 (x_en [xR a0, xI a1] 4) [] h Ph := by
  unfold f_Ta_knownBy at hk
  refine sx_eq (lc2 := [some (xR a0), some (xI a1), none, none]) rfl rfl ?_
  refine sx_iconst (v := (0 : Int32)) dc_Ta_knownBy_0 (by decide) ?_
  refine sx_istore_n dc_Ta_knownBy_1 (by decide) (sx_eq (lc2 := [some (xR a0), some (xI a1), some (xI (0 : Int32)), none]) rfl rfl ?_)
  refine sx_iconst (v := (0 : Int32)) dc_Ta_knownBy_2 (by decide) ?_
  refine sx_istore_n dc_Ta_knownBy_3 (by decide) (sx_eq (lc2 := [some (xR a0), some (xI a1), some (xI (0 : Int32)), some (xI (0 : Int32))]) rfl rfl ?_)
  refine t_Ta_knownBy_L4 (by omega) _ _ _ _ _ hk (fun v10 v11 h12 hk => ?_)
  refine sx_iload_n dc_Ta_knownBy_45 rfl ?_
  exact sx_retI dc_Ta_knownBy_46 rfl hk.val
theorem dc_In_bitCount_0 : decode M_In_bitCount.2.1 0 = .ok (.iload_n 0, 1) := by decide +kernel
theorem dc_In_bitCount_1 : decode M_In_bitCount.2.1 1 = .ok (.iload_n 0, 1) := by decide +kernel
theorem dc_In_bitCount_2 : decode M_In_bitCount.2.1 2 = .ok (.iconst 1, 1) := by decide +kernel
theorem dc_In_bitCount_3 : decode M_In_bitCount.2.1 3 = .ok (.iushr, 1) := by decide +kernel
theorem dc_In_bitCount_4 : decode M_In_bitCount.2.1 4 = .ok (.ldc_w 265, 3) := by decide +kernel
theorem dc_In_bitCount_7 : decode M_In_bitCount.2.1 7 = .ok (.iand, 1) := by decide +kernel
theorem dc_In_bitCount_8 : decode M_In_bitCount.2.1 8 = .ok (.isub, 1) := by decide +kernel
theorem dc_In_bitCount_9 : decode M_In_bitCount.2.1 9 = .ok (.istore_n 0, 1) := by decide +kernel
theorem dc_In_bitCount_10 : decode M_In_bitCount.2.1 10 = .ok (.iload_n 0, 1) := by decide +kernel
theorem dc_In_bitCount_11 : decode M_In_bitCount.2.1 11 = .ok (.ldc_w 266, 3) := by decide +kernel
theorem dc_In_bitCount_14 : decode M_In_bitCount.2.1 14 = .ok (.iand, 1) := by decide +kernel
theorem dc_In_bitCount_15 : decode M_In_bitCount.2.1 15 = .ok (.iload_n 0, 1) := by decide +kernel
theorem dc_In_bitCount_16 : decode M_In_bitCount.2.1 16 = .ok (.iconst 2, 1) := by decide +kernel
theorem dc_In_bitCount_17 : decode M_In_bitCount.2.1 17 = .ok (.iushr, 1) := by decide +kernel
theorem dc_In_bitCount_18 : decode M_In_bitCount.2.1 18 = .ok (.ldc_w 266, 3) := by decide +kernel
theorem dc_In_bitCount_21 : decode M_In_bitCount.2.1 21 = .ok (.iand, 1) := by decide +kernel
theorem dc_In_bitCount_22 : decode M_In_bitCount.2.1 22 = .ok (.iadd, 1) := by decide +kernel
theorem dc_In_bitCount_23 : decode M_In_bitCount.2.1 23 = .ok (.istore_n 0, 1) := by decide +kernel
theorem dc_In_bitCount_24 : decode M_In_bitCount.2.1 24 = .ok (.iload_n 0, 1) := by decide +kernel
theorem dc_In_bitCount_25 : decode M_In_bitCount.2.1 25 = .ok (.iload_n 0, 1) := by decide +kernel
theorem dc_In_bitCount_26 : decode M_In_bitCount.2.1 26 = .ok (.iconst 4, 1) := by decide +kernel
theorem dc_In_bitCount_27 : decode M_In_bitCount.2.1 27 = .ok (.iushr, 1) := by decide +kernel
theorem dc_In_bitCount_28 : decode M_In_bitCount.2.1 28 = .ok (.iadd, 1) := by decide +kernel
theorem dc_In_bitCount_29 : decode M_In_bitCount.2.1 29 = .ok (.ldc_w 267, 3) := by decide +kernel
theorem dc_In_bitCount_32 : decode M_In_bitCount.2.1 32 = .ok (.iand, 1) := by decide +kernel
theorem dc_In_bitCount_33 : decode M_In_bitCount.2.1 33 = .ok (.istore_n 0, 1) := by decide +kernel
theorem dc_In_bitCount_34 : decode M_In_bitCount.2.1 34 = .ok (.iload_n 0, 1) := by decide +kernel
theorem dc_In_bitCount_35 : decode M_In_bitCount.2.1 35 = .ok (.iload_n 0, 1) := by decide +kernel
theorem dc_In_bitCount_36 : decode M_In_bitCount.2.1 36 = .ok (.bipush 8, 2) := by decide +kernel
theorem dc_In_bitCount_38 : decode M_In_bitCount.2.1 38 = .ok (.iushr, 1) := by decide +kernel
theorem dc_In_bitCount_39 : decode M_In_bitCount.2.1 39 = .ok (.iadd, 1) := by decide +kernel
theorem dc_In_bitCount_40 : decode M_In_bitCount.2.1 40 = .ok (.istore_n 0, 1) := by decide +kernel
theorem dc_In_bitCount_41 : decode M_In_bitCount.2.1 41 = .ok (.iload_n 0, 1) := by decide +kernel
theorem dc_In_bitCount_42 : decode M_In_bitCount.2.1 42 = .ok (.iload_n 0, 1) := by decide +kernel
theorem dc_In_bitCount_43 : decode M_In_bitCount.2.1 43 = .ok (.bipush 16, 2) := by decide +kernel
theorem dc_In_bitCount_45 : decode M_In_bitCount.2.1 45 = .ok (.iushr, 1) := by decide +kernel
theorem dc_In_bitCount_46 : decode M_In_bitCount.2.1 46 = .ok (.iadd, 1) := by decide +kernel
theorem dc_In_bitCount_47 : decode M_In_bitCount.2.1 47 = .ok (.istore_n 0, 1) := by decide +kernel
theorem dc_In_bitCount_48 : decode M_In_bitCount.2.1 48 = .ok (.iload_n 0, 1) := by decide +kernel
theorem dc_In_bitCount_49 : decode M_In_bitCount.2.1 49 = .ok (.bipush 63, 2) := by decide +kernel
theorem dc_In_bitCount_51 : decode M_In_bitCount.2.1 51 = .ok (.iand, 1) := by decide +kernel
theorem dc_In_bitCount_52 : decode M_In_bitCount.2.1 52 = .ok (.ireturn, 1) := by decide +kernel
def f_In_bitCount (a0 : Int32) (h : xH) : Option (Int32 × xH) := some ((((((((a0 - ((jUshr a0 (1 : Int32)) &&& (1431655765 : Int32))) &&& (858993459 : Int32)) + ((jUshr (a0 - ((jUshr a0 (1 : Int32)) &&& (1431655765 : Int32))) (2 : Int32)) &&& (858993459 : Int32))) + (jUshr (((a0 - ((jUshr a0 (1 : Int32)) &&& (1431655765 : Int32))) &&& (858993459 : Int32)) + ((jUshr (a0 - ((jUshr a0 (1 : Int32)) &&& (1431655765 : Int32))) (2 : Int32)) &&& (858993459 : Int32))) (4 : Int32))) &&& (252645135 : Int32)) + (jUshr (((((a0 - ((jUshr a0 (1 : Int32)) &&& (1431655765 : Int32))) &&& (858993459 : Int32)) + ((jUshr (a0 - ((jUshr a0 (1 : Int32)) &&& (1431655765 : Int32))) (2 : Int32)) &&& (858993459 : Int32))) + (jUshr (((a0 - ((jUshr a0 (1 : Int32)) &&& (1431655765 : Int32))) &&& (858993459 : Int32)) + ((jUshr (a0 - ((jUshr a0 (1 : Int32)) &&& (1431655765 : Int32))) (2 : Int32)) &&& (858993459 : Int32))) (4 : Int32))) &&& (252645135 : Int32)) (8 : Int32))) + (jUshr ((((((a0 - ((jUshr a0 (1 : Int32)) &&& (1431655765 : Int32))) &&& (858993459 : Int32)) + ((jUshr (a0 - ((jUshr a0 (1 : Int32)) &&& (1431655765 : Int32))) (2 : Int32)) &&& (858993459 : Int32))) + (jUshr (((a0 - ((jUshr a0 (1 : Int32)) &&& (1431655765 : Int32))) &&& (858993459 : Int32)) + ((jUshr (a0 - ((jUshr a0 (1 : Int32)) &&& (1431655765 : Int32))) (2 : Int32)) &&& (858993459 : Int32))) (4 : Int32))) &&& (252645135 : Int32)) + (jUshr (((((a0 - ((jUshr a0 (1 : Int32)) &&& (1431655765 : Int32))) &&& (858993459 : Int32)) + ((jUshr (a0 - ((jUshr a0 (1 : Int32)) &&& (1431655765 : Int32))) (2 : Int32)) &&& (858993459 : Int32))) + (jUshr (((a0 - ((jUshr a0 (1 : Int32)) &&& (1431655765 : Int32))) &&& (858993459 : Int32)) + ((jUshr (a0 - ((jUshr a0 (1 : Int32)) &&& (1431655765 : Int32))) (2 : Int32)) &&& (858993459 : Int32))) (4 : Int32))) &&& (252645135 : Int32)) (8 : Int32))) (16 : Int32))) &&& (63 : Int32), h)
theorem t_In_bitCount {l : Launch} {z : xZ} {d mc ms : Nat} {Ph : Option xV → xH → Prop} {a0 : Int32}  {h : xH} (hd : 1 ≤ d) (hk : OK (f_In_bitCount a0 h) (fun q => Ph (some (xI q.1)) q.2)) : Sx l z d mc ms M_In_bitCount 0 (x_en [xI a0] 1) [] h Ph := by
  unfold f_In_bitCount at hk
  refine sx_eq (lc2 := [some (xI a0)]) rfl rfl ?_
  refine sx_iload_n dc_In_bitCount_0 rfl ?_
  refine sx_iload_n dc_In_bitCount_1 rfl ?_
  refine sx_iconst (v := (1 : Int32)) dc_In_bitCount_2 (by decide) ?_
  refine sx_iushr dc_In_bitCount_3 ?_
  refine sx_ldcw (v := (1431655765 : Int32)) wK_In_265 dc_In_bitCount_4 ?_
  refine sx_iand dc_In_bitCount_7 ?_
  refine sx_isub dc_In_bitCount_8 ?_
  refine sx_istore_n dc_In_bitCount_9 (by decide) (sx_eq (lc2 := [some (xI (a0 - ((jUshr a0 (1 : Int32)) &&& (1431655765 : Int32))))]) rfl rfl ?_)
  refine sx_iload_n dc_In_bitCount_10 rfl ?_
  refine sx_ldcw (v := (858993459 : Int32)) wK_In_266 dc_In_bitCount_11 ?_
  refine sx_iand dc_In_bitCount_14 ?_
  refine sx_iload_n dc_In_bitCount_15 rfl ?_
  refine sx_iconst (v := (2 : Int32)) dc_In_bitCount_16 (by decide) ?_
  refine sx_iushr dc_In_bitCount_17 ?_
  refine sx_ldcw (v := (858993459 : Int32)) wK_In_266 dc_In_bitCount_18 ?_
  refine sx_iand dc_In_bitCount_21 ?_
  refine sx_iadd dc_In_bitCount_22 ?_
  refine sx_istore_n dc_In_bitCount_23 (by decide) (sx_eq (lc2 := [some (xI (((a0 - ((jUshr a0 (1 : Int32)) &&& (1431655765 : Int32))) &&& (858993459 : Int32)) + ((jUshr (a0 - ((jUshr a0 (1 : Int32)) &&& (1431655765 : Int32))) (2 : Int32)) &&& (858993459 : Int32))))]) rfl rfl ?_)
  refine sx_iload_n dc_In_bitCount_24 rfl ?_
  refine sx_iload_n dc_In_bitCount_25 rfl ?_
  refine sx_iconst (v := (4 : Int32)) dc_In_bitCount_26 (by decide) ?_
  refine sx_iushr dc_In_bitCount_27 ?_
  refine sx_iadd dc_In_bitCount_28 ?_
  refine sx_ldcw (v := (252645135 : Int32)) wK_In_267 dc_In_bitCount_29 ?_
  refine sx_iand dc_In_bitCount_32 ?_
  refine sx_istore_n dc_In_bitCount_33 (by decide) (sx_eq (lc2 := [some (xI (((((a0 - ((jUshr a0 (1 : Int32)) &&& (1431655765 : Int32))) &&& (858993459 : Int32)) + ((jUshr (a0 - ((jUshr a0 (1 : Int32)) &&& (1431655765 : Int32))) (2 : Int32)) &&& (858993459 : Int32))) + (jUshr (((a0 - ((jUshr a0 (1 : Int32)) &&& (1431655765 : Int32))) &&& (858993459 : Int32)) + ((jUshr (a0 - ((jUshr a0 (1 : Int32)) &&& (1431655765 : Int32))) (2 : Int32)) &&& (858993459 : Int32))) (4 : Int32))) &&& (252645135 : Int32)))]) rfl rfl ?_)
  refine sx_iload_n dc_In_bitCount_34 rfl ?_
  refine sx_iload_n dc_In_bitCount_35 rfl ?_
  refine sx_bipush (v := (8 : Int32)) dc_In_bitCount_36 (by decide) ?_
  refine sx_iushr dc_In_bitCount_38 ?_
  refine sx_iadd dc_In_bitCount_39 ?_
  refine sx_istore_n dc_In_bitCount_40 (by decide) (sx_eq (lc2 := [some (xI ((((((a0 - ((jUshr a0 (1 : Int32)) &&& (1431655765 : Int32))) &&& (858993459 : Int32)) + ((jUshr (a0 - ((jUshr a0 (1 : Int32)) &&& (1431655765 : Int32))) (2 : Int32)) &&& (858993459 : Int32))) + (jUshr (((a0 - ((jUshr a0 (1 : Int32)) &&& (1431655765 : Int32))) &&& (858993459 : Int32)) + ((jUshr (a0 - ((jUshr a0 (1 : Int32)) &&& (1431655765 : Int32))) (2 : Int32)) &&& (858993459 : Int32))) (4 : Int32))) &&& (252645135 : Int32)) + (jUshr (((((a0 - ((jUshr a0 (1 : Int32)) &&& (1431655765 : Int32))) &&& (858993459 : Int32)) + ((jUshr (a0 - ((jUshr a0 (1 : Int32)) &&& (1431655765 : Int32))) (2 : Int32)) &&& (858993459 : Int32))) + (jUshr (((a0 - ((jUshr a0 (1 : Int32)) &&& (1431655765 : Int32))) &&& (858993459 : Int32)) + ((jUshr (a0 - ((jUshr a0 (1 : Int32)) &&& (1431655765 : Int32))) (2 : Int32)) &&& (858993459 : Int32))) (4 : Int32))) &&& (252645135 : Int32)) (8 : Int32))))]) rfl rfl ?_)
  refine sx_iload_n dc_In_bitCount_41 rfl ?_
  refine sx_iload_n dc_In_bitCount_42 rfl ?_
  refine sx_bipush (v := (16 : Int32)) dc_In_bitCount_43 (by decide) ?_
  refine sx_iushr dc_In_bitCount_45 ?_
  refine sx_iadd dc_In_bitCount_46 ?_
  refine sx_istore_n dc_In_bitCount_47 (by decide) (sx_eq (lc2 := [some (xI (((((((a0 - ((jUshr a0 (1 : Int32)) &&& (1431655765 : Int32))) &&& (858993459 : Int32)) + ((jUshr (a0 - ((jUshr a0 (1 : Int32)) &&& (1431655765 : Int32))) (2 : Int32)) &&& (858993459 : Int32))) + (jUshr (((a0 - ((jUshr a0 (1 : Int32)) &&& (1431655765 : Int32))) &&& (858993459 : Int32)) + ((jUshr (a0 - ((jUshr a0 (1 : Int32)) &&& (1431655765 : Int32))) (2 : Int32)) &&& (858993459 : Int32))) (4 : Int32))) &&& (252645135 : Int32)) + (jUshr (((((a0 - ((jUshr a0 (1 : Int32)) &&& (1431655765 : Int32))) &&& (858993459 : Int32)) + ((jUshr (a0 - ((jUshr a0 (1 : Int32)) &&& (1431655765 : Int32))) (2 : Int32)) &&& (858993459 : Int32))) + (jUshr (((a0 - ((jUshr a0 (1 : Int32)) &&& (1431655765 : Int32))) &&& (858993459 : Int32)) + ((jUshr (a0 - ((jUshr a0 (1 : Int32)) &&& (1431655765 : Int32))) (2 : Int32)) &&& (858993459 : Int32))) (4 : Int32))) &&& (252645135 : Int32)) (8 : Int32))) + (jUshr ((((((a0 - ((jUshr a0 (1 : Int32)) &&& (1431655765 : Int32))) &&& (858993459 : Int32)) + ((jUshr (a0 - ((jUshr a0 (1 : Int32)) &&& (1431655765 : Int32))) (2 : Int32)) &&& (858993459 : Int32))) + (jUshr (((a0 - ((jUshr a0 (1 : Int32)) &&& (1431655765 : Int32))) &&& (858993459 : Int32)) + ((jUshr (a0 - ((jUshr a0 (1 : Int32)) &&& (1431655765 : Int32))) (2 : Int32)) &&& (858993459 : Int32))) (4 : Int32))) &&& (252645135 : Int32)) + (jUshr (((((a0 - ((jUshr a0 (1 : Int32)) &&& (1431655765 : Int32))) &&& (858993459 : Int32)) + ((jUshr (a0 - ((jUshr a0 (1 : Int32)) &&& (1431655765 : Int32))) (2 : Int32)) &&& (858993459 : Int32))) + (jUshr (((a0 - ((jUshr a0 (1 : Int32)) &&& (1431655765 : Int32))) &&& (858993459 : Int32)) + ((jUshr (a0 - ((jUshr a0 (1 : Int32)) &&& (1431655765 : Int32))) (2 : Int32)) &&& (858993459 : Int32))) (4 : Int32))) &&& (252645135 : Int32)) (8 : Int32))) (16 : Int32))))]) rfl rfl ?_)
  refine sx_iload_n dc_In_bitCount_48 rfl ?_
  refine sx_bipush (v := (63 : Int32)) dc_In_bitCount_49 (by decide) ?_
  refine sx_iand dc_In_bitCount_51 ?_
  exact sx_retI dc_In_bitCount_52 rfl hk.val
theorem dc_Ru_joy_0 : decode M_Ru_joy.2.1 0 = .ok (.aload_n 0, 1) := by decide +kernel
theorem dc_Ru_joy_1 : decode M_Ru_joy.2.1 1 = .ok (.iload_n 1, 1) := by decide +kernel
theorem dc_Ru_joy_2 : decode M_Ru_joy.2.1 2 = .ok (.iconst 0, 1) := by decide +kernel
theorem dc_Ru_joy_3 : decode M_Ru_joy.2.1 3 = .ok (.iconst 0, 1) := by decide +kernel
theorem dc_Ru_joy_4 : decode M_Ru_joy.2.1 4 = .ok (.aload_n 0, 1) := by decide +kernel
theorem dc_Ru_joy_5 : decode M_Ru_joy.2.1 5 = .ok (.getfield 20, 3) := by decide +kernel
theorem dc_Ru_joy_8 : decode M_Ru_joy.2.1 8 = .ok (.iload_n 1, 1) := by decide +kernel
theorem dc_Ru_joy_9 : decode M_Ru_joy.2.1 9 = .ok (.invokevirtual 54, 3) := by decide +kernel
theorem dc_Ru_joy_12 : decode M_Ru_joy.2.1 12 = .ok (.invokestatic 57, 3) := by decide +kernel
theorem dc_Ru_joy_15 : decode M_Ru_joy.2.1 15 = .ok (.iconst 0, 1) := by decide +kernel
theorem dc_Ru_joy_16 : decode M_Ru_joy.2.1 16 = .ok (.invokevirtual 28, 3) := by decide +kernel
theorem dc_Ru_joy_19 : decode M_Ru_joy.2.1 19 = .ok (.aload_n 0, 1) := by decide +kernel
theorem dc_Ru_joy_20 : decode M_Ru_joy.2.1 20 = .ok (.iconst 2, 1) := by decide +kernel
theorem dc_Ru_joy_21 : decode M_Ru_joy.2.1 21 = .ok (.invokevirtual 34, 3) := by decide +kernel
theorem dc_Ru_joy_24 : decode M_Ru_joy.2.1 24 = .ok (.invokestatic 51, 3) := by decide +kernel
theorem dc_Ru_joy_27 : decode M_Ru_joy.2.1 27 = .ok (.ireturn, 1) := by decide +kernel
def f_Ru_joy (a0 : Nat) (a1 : Int32) (h : xH) : Option (Int32 × xH) := gd (hK h a0 = 2) (gd (hK h (hR h a0 1) = 6) (Option.bind (f_Ta_knownBy (hR h a0 1) a1 h) (fun q11 => Option.bind (f_In_bitCount q11.1 q11.2) (fun q13 => gd (hK q13.2 a0 = 2) (Option.bind (f_Ru_name a0 a1 (0 : Int32) (0 : Int32) q13.1 (0 : Int32) q13.2) (fun q14 => gd (hK q14.2 a0 = 2) (Option.bind (f_Ru_answer a0 (2 : Int32) q14.2) (fun q16 => Option.bind (f_Ru_bounded q16.1 q16.2) (fun q18 => some (q18.1, q18.2))))))))))
theorem t_Ru_joy {l : Launch} {z : xZ} {d mc ms : Nat} {Ph : Option xV → xH → Prop} {a0 : Nat} {a1 : Int32}  {h : xH} (hd : 4 ≤ d) (hk : OK (f_Ru_joy a0 a1 h) (fun q => Ph (some (xI q.1)) q.2)) : Sx l z d mc ms M_Ru_joy 0 (x_en [xR a0, xI a1] 2) [] h Ph := by
  unfold f_Ru_joy at hk
  refine sx_eq (lc2 := [some (xR a0), some (xI a1)]) rfl rfl ?_
  refine sx_aload_n dc_Ru_joy_0 rfl ?_
  refine sx_iload_n dc_Ru_joy_1 rfl ?_
  refine sx_iconst (v := (0 : Int32)) dc_Ru_joy_2 (by decide) ?_
  refine sx_iconst (v := (0 : Int32)) dc_Ru_joy_3 (by decide) ?_
  refine sx_aload_n dc_Ru_joy_4 rfl ?_
  obtain ⟨g10, hk⟩ := hk.g
  refine sx_get (ci := 2) (k := 1) rfl (by decide) wF_Ru_20 g10 dc_Ru_joy_5 ?_
  refine sx_iload_n dc_Ru_joy_8 rfl ?_
  obtain ⟨g12, hk⟩ := hk.g
  obtain ⟨q11, eq11, hk⟩ := hk.bind
  refine sx_callV (d2 := d - 1) (mc2 := 0) (ms2 := 0) (as := [xI a1]) mk_Ta_knownBy rfl (x_rk (ci := 6) g12 rfl rfl) wM_Ru_54 mi_Ta_knownBy me_Ta_knownBy rfl (Nat.le_of_ble_eq_true rfl) (Nat.le_of_ble_eq_true rfl) dc_Ru_joy_9 (by omega) (Nat.zero_le _) (Nat.zero_le _) ?_
  refine t_Ta_knownBy (by omega) ⟨q11, eq11, ?_⟩
  refine sx_eq0 (lc2 := [some (xR a0), some (xI a1)]) (st2 := [xI q11.1, xI (0 : Int32), xI (0 : Int32), xI a1, xR a0]) rfl rfl ?_
  obtain ⟨q13, eq13, hk⟩ := hk.bind
  refine sx_callS (d2 := d - 1) (mc2 := 0) (ms2 := 0) (as := [xI q11.1]) mk_In_bitCount rfl wM_Ru_57 mt_In_bitCount rfl (Nat.le_of_ble_eq_true rfl) (Nat.le_of_ble_eq_true rfl) dc_Ru_joy_12 (by omega) (Nat.zero_le _) (Nat.zero_le _) ?_
  refine t_In_bitCount (by omega) ⟨q13, eq13, ?_⟩
  refine sx_eq0 (lc2 := [some (xR a0), some (xI a1)]) (st2 := [xI q13.1, xI (0 : Int32), xI (0 : Int32), xI a1, xR a0]) rfl rfl ?_
  refine sx_iconst (v := (0 : Int32)) dc_Ru_joy_15 (by decide) ?_
  obtain ⟨g15, hk⟩ := hk.g
  obtain ⟨q14, eq14, hk⟩ := hk.bind
  refine sx_callV (d2 := d - 1) (mc2 := 0) (ms2 := 0) (as := [xI a1, xI (0 : Int32), xI (0 : Int32), xI q13.1, xI (0 : Int32)]) mk_Ru_name rfl (x_rk (ci := 2) g15 rfl rfl) wM_Ru_28 mi_Ru_name me_Ru_name rfl (Nat.le_of_ble_eq_true rfl) (Nat.le_of_ble_eq_true rfl) dc_Ru_joy_16 (by omega) (Nat.zero_le _) (Nat.zero_le _) ?_
  refine t_Ru_name (by omega) ⟨q14, eq14, ?_⟩
  refine sx_eq0 (lc2 := [some (xR a0), some (xI a1)]) (st2 := []) rfl rfl ?_
  refine sx_aload_n dc_Ru_joy_19 rfl ?_
  refine sx_iconst (v := (2 : Int32)) dc_Ru_joy_20 (by decide) ?_
  obtain ⟨g17, hk⟩ := hk.g
  obtain ⟨q16, eq16, hk⟩ := hk.bind
  refine sx_callV (d2 := d - 1) (mc2 := 0) (ms2 := 0) (as := [xI (2 : Int32)]) mk_Ru_answer rfl (x_rk (ci := 2) g17 rfl rfl) wM_Ru_34 mi_Ru_answer me_Ru_answer rfl (Nat.le_of_ble_eq_true rfl) (Nat.le_of_ble_eq_true rfl) dc_Ru_joy_21 (by omega) (Nat.zero_le _) (Nat.zero_le _) ?_
  refine t_Ru_answer (by omega) ⟨q16, eq16, ?_⟩
  refine sx_eq0 (lc2 := [some (xR a0), some (xI a1)]) (st2 := [xI q16.1]) rfl rfl ?_
  obtain ⟨q18, eq18, hk⟩ := hk.bind
  refine sx_callS (d2 := d - 1) (mc2 := 0) (ms2 := 0) (as := [xI q16.1]) mk_Ru_bounded rfl wM_Ru_51 mt_Ru_bounded rfl (Nat.le_of_ble_eq_true rfl) (Nat.le_of_ble_eq_true rfl) dc_Ru_joy_24 (by omega) (Nat.zero_le _) (Nat.zero_le _) ?_
  refine t_Ru_bounded (by omega) ⟨q18, eq18, ?_⟩
  refine sx_eq0 (lc2 := [some (xR a0), some (xI a1)]) (st2 := [xI q18.1]) rfl rfl ?_
  exact sx_retI dc_Ru_joy_27 rfl hk.val
theorem dc_Se_init_0 : decode M_Se_init.2.1 0 = .ok (.aload_n 0, 1) := by decide +kernel
theorem dc_Se_init_1 : decode M_Se_init.2.1 1 = .ok (.invokespecial 1, 3) := by decide +kernel
theorem dc_Se_init_4 : decode M_Se_init.2.1 4 = .ok (.aload_n 0, 1) := by decide +kernel
theorem dc_Se_init_5 : decode M_Se_init.2.1 5 = .ok (.sipush 128, 3) := by decide +kernel
theorem dc_Se_init_8 : decode M_Se_init.2.1 8 = .ok (.newarray .int, 2) := by decide +kernel
theorem dc_Se_init_10 : decode M_Se_init.2.1 10 = .ok (.putfield 9, 3) := by decide +kernel
theorem dc_Se_init_13 : decode M_Se_init.2.1 13 = .ok (.aload_n 0, 1) := by decide +kernel
theorem dc_Se_init_14 : decode M_Se_init.2.1 14 = .ok (.bipush 21, 2) := by decide +kernel
theorem dc_Se_init_16 : decode M_Se_init.2.1 16 = .ok (.newarray .int, 2) := by decide +kernel
theorem dc_Se_init_18 : decode M_Se_init.2.1 18 = .ok (.putfield 13, 3) := by decide +kernel
theorem dc_Se_init_21 : decode M_Se_init.2.1 21 = .ok (.aload_n 0, 1) := by decide +kernel
theorem dc_Se_init_22 : decode M_Se_init.2.1 22 = .ok (.bipush 21, 2) := by decide +kernel
theorem dc_Se_init_24 : decode M_Se_init.2.1 24 = .ok (.newarray .int, 2) := by decide +kernel
theorem dc_Se_init_26 : decode M_Se_init.2.1 26 = .ok (.putfield 16, 3) := by decide +kernel
theorem dc_Se_init_29 : decode M_Se_init.2.1 29 = .ok (.aload_n 0, 1) := by decide +kernel
theorem dc_Se_init_30 : decode M_Se_init.2.1 30 = .ok (.bipush 35, 2) := by decide +kernel
theorem dc_Se_init_32 : decode M_Se_init.2.1 32 = .ok (.newarray .int, 2) := by decide +kernel
theorem dc_Se_init_34 : decode M_Se_init.2.1 34 = .ok (.putfield 19, 3) := by decide +kernel
theorem dc_Se_init_37 : decode M_Se_init.2.1 37 = .ok (.iconst 0, 1) := by decide +kernel
theorem dc_Se_init_38 : decode M_Se_init.2.1 38 = .ok (.istore_n 1, 1) := by decide +kernel
theorem dc_Se_init_39 : decode M_Se_init.2.1 39 = .ok (.iconst 0, 1) := by decide +kernel
theorem dc_Se_init_40 : decode M_Se_init.2.1 40 = .ok (.istore_n 2, 1) := by decide +kernel
theorem dc_Se_init_41 : decode M_Se_init.2.1 41 = .ok (.iload_n 2, 1) := by decide +kernel
theorem dc_Se_init_42 : decode M_Se_init.2.1 42 = .ok (.bipush 7, 2) := by decide +kernel
theorem dc_Se_init_44 : decode M_Se_init.2.1 44 = .ok (.if_icmp .ge 111, 3) := by decide +kernel
theorem dc_Se_init_47 : decode M_Se_init.2.1 47 = .ok (.iconst 0, 1) := by decide +kernel
theorem dc_Se_init_48 : decode M_Se_init.2.1 48 = .ok (.istore_n 3, 1) := by decide +kernel
theorem dc_Se_init_49 : decode M_Se_init.2.1 49 = .ok (.iload_n 3, 1) := by decide +kernel
theorem dc_Se_init_50 : decode M_Se_init.2.1 50 = .ok (.iconst 1, 1) := by decide +kernel
theorem dc_Se_init_51 : decode M_Se_init.2.1 51 = .ok (.iload_n 2, 1) := by decide +kernel
theorem dc_Se_init_52 : decode M_Se_init.2.1 52 = .ok (.ishl, 1) := by decide +kernel
theorem dc_Se_init_53 : decode M_Se_init.2.1 53 = .ok (.if_icmp .ge 61, 3) := by decide +kernel
theorem dc_Se_init_56 : decode M_Se_init.2.1 56 = .ok (.iload_n 3, 1) := by decide +kernel
theorem dc_Se_init_57 : decode M_Se_init.2.1 57 = .ok (.iconst 1, 1) := by decide +kernel
theorem dc_Se_init_58 : decode M_Se_init.2.1 58 = .ok (.iload_n 2, 1) := by decide +kernel
theorem dc_Se_init_59 : decode M_Se_init.2.1 59 = .ok (.ishl, 1) := by decide +kernel
theorem dc_Se_init_60 : decode M_Se_init.2.1 60 = .ok (.ior, 1) := by decide +kernel
theorem dc_Se_init_61 : decode M_Se_init.2.1 61 = .ok (.istore 4, 2) := by decide +kernel
theorem dc_Se_init_63 : decode M_Se_init.2.1 63 = .ok (.aload_n 0, 1) := by decide +kernel
theorem dc_Se_init_64 : decode M_Se_init.2.1 64 = .ok (.getfield 9, 3) := by decide +kernel
theorem dc_Se_init_67 : decode M_Se_init.2.1 67 = .ok (.iload 4, 2) := by decide +kernel
theorem dc_Se_init_69 : decode M_Se_init.2.1 69 = .ok (.aload_n 0, 1) := by decide +kernel
theorem dc_Se_init_70 : decode M_Se_init.2.1 70 = .ok (.getfield 9, 3) := by decide +kernel
theorem dc_Se_init_73 : decode M_Se_init.2.1 73 = .ok (.iload_n 3, 1) := by decide +kernel
theorem dc_Se_init_74 : decode M_Se_init.2.1 74 = .ok (.iaload, 1) := by decide +kernel
theorem dc_Se_init_75 : decode M_Se_init.2.1 75 = .ok (.iload_n 3, 1) := by decide +kernel
theorem dc_Se_init_76 : decode M_Se_init.2.1 76 = .ok (.iload_n 2, 1) := by decide +kernel
theorem dc_Se_init_77 : decode M_Se_init.2.1 77 = .ok (.invokestatic 22, 3) := by decide +kernel
theorem dc_Se_init_80 : decode M_Se_init.2.1 80 = .ok (.ishl, 1) := by decide +kernel
theorem dc_Se_init_81 : decode M_Se_init.2.1 81 = .ok (.ior, 1) := by decide +kernel
theorem dc_Se_init_82 : decode M_Se_init.2.1 82 = .ok (.iastore, 1) := by decide +kernel
theorem dc_Se_init_83 : decode M_Se_init.2.1 83 = .ok (.iload_n 3, 1) := by decide +kernel
theorem dc_Se_init_84 : decode M_Se_init.2.1 84 = .ok (.invokestatic 26, 3) := by decide +kernel
theorem dc_Se_init_87 : decode M_Se_init.2.1 87 = .ok (.iconst 2, 1) := by decide +kernel
theorem dc_Se_init_88 : decode M_Se_init.2.1 88 = .ok (.if_icmp .ne 20, 3) := by decide +kernel
theorem dc_Se_init_91 : decode M_Se_init.2.1 91 = .ok (.iload_n 1, 1) := by decide +kernel
theorem dc_Se_init_92 : decode M_Se_init.2.1 92 = .ok (.bipush 35, 2) := by decide +kernel
theorem dc_Se_init_94 : decode M_Se_init.2.1 94 = .ok (.if_icmp .ge 14, 3) := by decide +kernel
theorem dc_Se_init_97 : decode M_Se_init.2.1 97 = .ok (.aload_n 0, 1) := by decide +kernel
theorem dc_Se_init_98 : decode M_Se_init.2.1 98 = .ok (.getfield 19, 3) := by decide +kernel
theorem dc_Se_init_101 : decode M_Se_init.2.1 101 = .ok (.iload_n 1, 1) := by decide +kernel
theorem dc_Se_init_102 : decode M_Se_init.2.1 102 = .ok (.iinc 1 1, 3) := by decide +kernel
theorem dc_Se_init_105 : decode M_Se_init.2.1 105 = .ok (.iload 4, 2) := by decide +kernel
theorem dc_Se_init_107 : decode M_Se_init.2.1 107 = .ok (.iastore, 1) := by decide +kernel
theorem dc_Se_init_108 : decode M_Se_init.2.1 108 = .ok (.iinc 3 1, 3) := by decide +kernel
theorem dc_Se_init_111 : decode M_Se_init.2.1 111 = .ok (.goto (-62), 3) := by decide +kernel
theorem dc_Se_init_114 : decode M_Se_init.2.1 114 = .ok (.iconst 0, 1) := by decide +kernel
theorem dc_Se_init_115 : decode M_Se_init.2.1 115 = .ok (.istore_n 3, 1) := by decide +kernel
theorem dc_Se_init_116 : decode M_Se_init.2.1 116 = .ok (.iload_n 3, 1) := by decide +kernel
theorem dc_Se_init_117 : decode M_Se_init.2.1 117 = .ok (.iload_n 2, 1) := by decide +kernel
theorem dc_Se_init_118 : decode M_Se_init.2.1 118 = .ok (.if_icmp .ge 31, 3) := by decide +kernel
theorem dc_Se_init_121 : decode M_Se_init.2.1 121 = .ok (.aload_n 0, 1) := by decide +kernel
theorem dc_Se_init_122 : decode M_Se_init.2.1 122 = .ok (.getfield 13, 3) := by decide +kernel
theorem dc_Se_init_125 : decode M_Se_init.2.1 125 = .ok (.iload_n 3, 1) := by decide +kernel
theorem dc_Se_init_126 : decode M_Se_init.2.1 126 = .ok (.iload_n 2, 1) := by decide +kernel
theorem dc_Se_init_127 : decode M_Se_init.2.1 127 = .ok (.invokestatic 31, 3) := by decide +kernel
theorem dc_Se_init_130 : decode M_Se_init.2.1 130 = .ok (.iload_n 3, 1) := by decide +kernel
theorem dc_Se_init_131 : decode M_Se_init.2.1 131 = .ok (.iastore, 1) := by decide +kernel
theorem dc_Se_init_132 : decode M_Se_init.2.1 132 = .ok (.aload_n 0, 1) := by decide +kernel
theorem dc_Se_init_133 : decode M_Se_init.2.1 133 = .ok (.getfield 16, 3) := by decide +kernel
theorem dc_Se_init_136 : decode M_Se_init.2.1 136 = .ok (.iload_n 3, 1) := by decide +kernel
theorem dc_Se_init_137 : decode M_Se_init.2.1 137 = .ok (.iload_n 2, 1) := by decide +kernel
theorem dc_Se_init_138 : decode M_Se_init.2.1 138 = .ok (.invokestatic 31, 3) := by decide +kernel
theorem dc_Se_init_141 : decode M_Se_init.2.1 141 = .ok (.iload_n 2, 1) := by decide +kernel
theorem dc_Se_init_142 : decode M_Se_init.2.1 142 = .ok (.iastore, 1) := by decide +kernel
theorem dc_Se_init_143 : decode M_Se_init.2.1 143 = .ok (.iinc 3 1, 3) := by decide +kernel
theorem dc_Se_init_146 : decode M_Se_init.2.1 146 = .ok (.goto (-30), 3) := by decide +kernel
theorem dc_Se_init_149 : decode M_Se_init.2.1 149 = .ok (.iinc 2 1, 3) := by decide +kernel
theorem dc_Se_init_152 : decode M_Se_init.2.1 152 = .ok (.goto (-111), 3) := by decide +kernel
theorem dc_Se_init_155 : decode M_Se_init.2.1 155 = .ok (.return_, 1) := by decide +kernel
def f_Se_init_L49 (a0 : Nat) (a2 : Int32) : Nat → Int32 → Int32 → xH → (Int32 → Int32 → xH → Option (Unit × xH)) → Option (Unit × xH)
  | 0, _, _, _, _ => none
  | n + 1, a1, a3, h, K => if (jShl (1 : Int32) a2) ≤ a3 then K a1 a3 h else gd (hK h a0 = 3) (gd (hK h (hR h a0 0) = 12) (gd (¬ (a3 < 0 ∨ hL h (hR h a0 0) ≤ a3.toNatClampNeg)) (Option.bind (f_Se_pairsAmong a2 h) (fun q40 => gd (hK q40.2 (hR h a0 0) = 12) (gd (¬ ((a3 ||| (jShl (1 : Int32) a2)) < 0 ∨ hL q40.2 (hR h a0 0) ≤ (a3 ||| (jShl (1 : Int32) a2)).toNatClampNeg)) (Option.bind (f_In_bitCount a3 (hIu q40.2 (hR h a0 0) (a3 ||| (jShl (1 : Int32) a2)).toNatClampNeg ((hI h (hR h a0 0) a3.toNatClampNeg) ||| (jShl a3 q40.1)))) (fun q43 => jn (fun (x44 : Int32 × xH) => f_Se_init_L49 a0 a2 n x44.1 (a3 + (1 : Int32)) x44.2 K) (fun k45 => if q43.1 = (2 : Int32) then if (35 : Int32) ≤ a1 then k45 (a1, q43.2) else gd (hK q43.2 a0 = 3) (gd (hK q43.2 (hR q43.2 a0 3) = 12) (gd (¬ (a1 < 0 ∨ hL q43.2 (hR q43.2 a0 3) ≤ a1.toNatClampNeg)) (k45 ((a1 + (1 : Int32)), (hIu q43.2 (hR q43.2 a0 3) a1.toNatClampNeg (a3 ||| (jShl (1 : Int32) a2))))))) else k45 (a1, q43.2)))))))))
def f_Se_init_L116 (a0 : Nat) (a1 : Int32) (a2 : Int32) : Nat → Int32 → xH → (Int32 → xH → Option (Unit × xH)) → Option (Unit × xH)
  | 0, _, _, _ => none
  | n + 1, a3, h, K => if a2 ≤ a3 then K a3 h else gd (hK h a0 = 3) (Option.bind (f_Se_pairOf a3 a2 h) (fun q56 => gd (hK q56.2 (hR h a0 1) = 12) (gd (¬ (q56.1 < 0 ∨ hL q56.2 (hR h a0 1) ≤ q56.1.toNatClampNeg)) (gd (hK q56.2 a0 = 3) (Option.bind (f_Se_pairOf a3 a2 (hIu q56.2 (hR h a0 1) q56.1.toNatClampNeg a3)) (fun q60 => gd (hK q60.2 (hR q56.2 a0 2) = 12) (gd (¬ (q60.1 < 0 ∨ hL q60.2 (hR q56.2 a0 2) ≤ q60.1.toNatClampNeg)) (f_Se_init_L116 a0 a1 a2 n (a3 + (1 : Int32)) (hIu q60.2 (hR q56.2 a0 2) q60.1.toNatClampNeg a2) K))))))))
def f_Se_init_L41 (a0 : Nat) : Nat → Int32 → Int32 → xH → (Int32 → Int32 → xH → Option (Unit × xH)) → Option (Unit × xH)
  | 0, _, _, _, _ => none
  | n + 1, a1, a2, h, K => if (7 : Int32) ≤ a2 then K a1 a2 h else f_Se_init_L49 a0 a2 fu a1 (0 : Int32) h (fun v51 v52 h53 => f_Se_init_L116 a0 v51 a2 fu (0 : Int32) h53 (fun v63 h64 => f_Se_init_L41 a0 n v51 (a2 + (1 : Int32)) h64 K))
def f_Se_init (a0 : Nat) (h : xH) : Option (Unit × xH) := gd (hK h a0 = 3) (hp (hNw h 12 128) (fun h23 => gd (hK h23 a0 = 3) (hp (hNw (hRu h23 a0 0 (hN h)) 12 21) (fun h26 => gd (hK h26 a0 = 3) (hp (hNw (hRu h26 a0 1 (hN (hRu h23 a0 0 (hN h)))) 12 21) (fun h29 => gd (hK h29 a0 = 3) (hp (hNw (hRu h29 a0 2 (hN (hRu h26 a0 1 (hN (hRu h23 a0 0 (hN h)))))) 12 35) (fun h32 => gd (hK h32 a0 = 3) (f_Se_init_L41 a0 fu (0 : Int32) (0 : Int32) (hRu h32 a0 3 (hN (hRu h29 a0 2 (hN (hRu h26 a0 1 (hN (hRu h23 a0 0 (hN h)))))))) (fun v65 v66 h67 => some ((), h67)))))))))))
theorem t_Se_init_L49 {l : Launch} {z : xZ} {d mc ms : Nat} {Ph : Option xV → xH → Prop} {a0 : Nat} {a2 : Int32}  (hd : 2 ≤ d) : ∀ (n : Nat) (a1 : Int32) (a3 : Int32) (h : xH) (K : Int32 → Int32 → xH → Option (Unit × xH)), OK (f_Se_init_L49 a0 a2 n a1 a3 h K) (fun q => Ph (none) q.2) → (∀ (a1 : Int32) (a3 : Int32) (h : xH), OK (K a1 a3 h) (fun q => Ph (none) q.2) → Sx l z d mc ms M_Se_init 114 [some (xR a0), some (xI a1), some (xI a2), some (xI a3), none] [] h Ph) → Sx l z d mc ms M_Se_init 49 [some (xR a0), some (xI a1), some (xI a2), some (xI a3), none] [] h Ph := by
  intro n
  induction n with
  | zero => intro a1 a3 h K hk hE; exact hk.no
  | succ n ih =>
    intro a1 a3 h K hk hE
    rw [f_Se_init_L49] at hk
    refine sx_iload_n dc_Se_init_49 rfl ?_
    refine sx_iconst (v := (1 : Int32)) dc_Se_init_50 (by decide) ?_
    refine sx_iload_n dc_Se_init_51 rfl ?_
    refine sx_ishl dc_Se_init_52 ?_
    refine sx_icmp_ge (tgt := 114) dc_Se_init_53 (by decide) (fun c36 => ?_) (fun c36 => ?_)
    · replace hk := hk.t c36
      exact hE a1 a3 h hk
    · replace hk := hk.f c36
      refine sx_iload_n dc_Se_init_56 rfl ?_
      refine sx_iconst (v := (1 : Int32)) dc_Se_init_57 (by decide) ?_
      refine sx_iload_n dc_Se_init_58 rfl ?_
      refine sx_ishl dc_Se_init_59 ?_
      refine sx_ior dc_Se_init_60 ?_
      refine sx_istore dc_Se_init_61 (by decide) (sx_eq (lc2 := [some (xR a0), some (xI a1), some (xI a2), some (xI a3), some (xI (a3 ||| (jShl (1 : Int32) a2)))]) rfl rfl ?_)
      refine sx_aload_n dc_Se_init_63 rfl ?_
      obtain ⟨g37, hk⟩ := hk.g
      refine sx_get (ci := 3) (k := 0) rfl (by decide) wF_Se_9 g37 dc_Se_init_64 ?_
      refine sx_iload dc_Se_init_67 rfl ?_
      refine sx_aload_n dc_Se_init_69 rfl ?_
      refine sx_get (ci := 3) (k := 0) rfl (by decide) wF_Se_9 g37 dc_Se_init_70 ?_
      refine sx_iload_n dc_Se_init_73 rfl ?_
      obtain ⟨g38, hk⟩ := hk.g
      obtain ⟨g39, hk⟩ := hk.g
      refine sx_iald g38 g39 dc_Se_init_74 ?_
      refine sx_iload_n dc_Se_init_75 rfl ?_
      refine sx_iload_n dc_Se_init_76 rfl ?_
      obtain ⟨q40, eq40, hk⟩ := hk.bind
      refine sx_callS (d2 := d - 1) (mc2 := 0) (ms2 := 0) (as := [xI a2]) mk_Se_pairsAmong rfl wM_Se_22 mt_Se_pairsAmong rfl (Nat.le_of_ble_eq_true rfl) (Nat.le_of_ble_eq_true rfl) dc_Se_init_77 (by omega) (Nat.zero_le _) (Nat.zero_le _) ?_
      refine t_Se_pairsAmong (by omega) ⟨q40, eq40, ?_⟩
      refine sx_eq0 (lc2 := [some (xR a0), some (xI a1), some (xI a2), some (xI a3), some (xI (a3 ||| (jShl (1 : Int32) a2)))]) (st2 := [xI q40.1, xI a3, xI (hI h (hR h a0 0) a3.toNatClampNeg), xI (a3 ||| (jShl (1 : Int32) a2)), xR (hR h a0 0)]) rfl rfl ?_
      refine sx_ishl dc_Se_init_80 ?_
      refine sx_ior dc_Se_init_81 ?_
      obtain ⟨g41, hk⟩ := hk.g
      obtain ⟨g42, hk⟩ := hk.g
      refine sx_iast g41 g42 dc_Se_init_82 ?_
      refine sx_iload_n dc_Se_init_83 rfl ?_
      obtain ⟨q43, eq43, hk⟩ := hk.bind
      refine sx_callS (d2 := d - 1) (mc2 := 0) (ms2 := 0) (as := [xI a3]) mk_In_bitCount rfl wM_Se_26 mt_In_bitCount rfl (Nat.le_of_ble_eq_true rfl) (Nat.le_of_ble_eq_true rfl) dc_Se_init_84 (by omega) (Nat.zero_le _) (Nat.zero_le _) ?_
      refine t_In_bitCount (by omega) ⟨q43, eq43, ?_⟩
      refine sx_eq0 (lc2 := [some (xR a0), some (xI a1), some (xI a2), some (xI a3), some (xI (a3 ||| (jShl (1 : Int32) a2)))]) (st2 := [xI q43.1]) rfl rfl ?_
      refine sx_iconst (v := (2 : Int32)) dc_Se_init_87 (by decide) ?_
      refine hk.j (X := fun x44 => Sx l z d mc ms M_Se_init 108 [some (xR a0), some (xI x44.1), some (xI a2), some (xI a3), some (xI (a3 ||| (jShl (1 : Int32) a2)))] [] x44.2 Ph) (fun x44 hk => ?_) (fun k45 jk45 hk => ?_)
      · refine sx_iinc (v := (1 : Int32)) dc_Se_init_108 rfl (by decide) (by decide) (sx_eq (lc2 := [some (xR a0), some (xI x44.1), some (xI a2), some (xI (a3 + (1 : Int32))), some (xI (a3 ||| (jShl (1 : Int32) a2)))]) rfl rfl ?_)
        refine sx_goto (tgt := 49) dc_Se_init_111 (by decide) ?_
        exact sx_less (by simp [x_le]) (ih x44.1 (a3 + (1 : Int32)) x44.2 _ hk hE)
      · refine sx_icmp_ne (tgt := 108) dc_Se_init_88 (by decide) (fun c46 => ?_) (fun c46 => ?_)
        · replace hk := hk.f c46
          exact jk45 (a1, q43.2) hk
        · replace hk := hk.t c46
          refine sx_iload_n dc_Se_init_91 rfl ?_
          refine sx_bipush (v := (35 : Int32)) dc_Se_init_92 (by decide) ?_
          refine sx_icmp_ge (tgt := 108) dc_Se_init_94 (by decide) (fun c47 => ?_) (fun c47 => ?_)
          · replace hk := hk.t c47
            exact jk45 (a1, q43.2) hk
          · replace hk := hk.f c47
            refine sx_aload_n dc_Se_init_97 rfl ?_
            obtain ⟨g48, hk⟩ := hk.g
            refine sx_get (ci := 3) (k := 3) rfl (by decide) wF_Se_19 g48 dc_Se_init_98 ?_
            refine sx_iload_n dc_Se_init_101 rfl ?_
            refine sx_iinc (v := (1 : Int32)) dc_Se_init_102 rfl (by decide) (by decide) (sx_eq (lc2 := [some (xR a0), some (xI (a1 + (1 : Int32))), some (xI a2), some (xI a3), some (xI (a3 ||| (jShl (1 : Int32) a2)))]) rfl rfl ?_)
            refine sx_iload dc_Se_init_105 rfl ?_
            obtain ⟨g49, hk⟩ := hk.g
            obtain ⟨g50, hk⟩ := hk.g
            refine sx_iast g49 g50 dc_Se_init_107 ?_
            exact jk45 ((a1 + (1 : Int32)), (hIu q43.2 (hR q43.2 a0 3) a1.toNatClampNeg (a3 ||| (jShl (1 : Int32) a2)))) hk
theorem t_Se_init_L116 {l : Launch} {z : xZ} {d mc ms : Nat} {Ph : Option xV → xH → Prop} {a0 : Nat} {a1 : Int32} {a2 : Int32}  (hd : 3 ≤ d) : ∀ (n : Nat) (a3 : Int32) (h : xH) (K : Int32 → xH → Option (Unit × xH)), OK (f_Se_init_L116 a0 a1 a2 n a3 h K) (fun q => Ph (none) q.2) → (∀ (a3 : Int32) (h : xH), OK (K a3 h) (fun q => Ph (none) q.2) → Sx l z d mc ms M_Se_init 149 [some (xR a0), some (xI a1), some (xI a2), some (xI a3), none] [] h Ph) → Sx l z d mc ms M_Se_init 116 [some (xR a0), some (xI a1), some (xI a2), some (xI a3), none] [] h Ph := by
  intro n
  induction n with
  | zero => intro a3 h K hk hE; exact hk.no
  | succ n ih =>
    intro a3 h K hk hE
    rw [f_Se_init_L116] at hk
    refine sx_iload_n dc_Se_init_116 rfl ?_
    refine sx_iload_n dc_Se_init_117 rfl ?_
    refine sx_icmp_ge (tgt := 149) dc_Se_init_118 (by decide) (fun c54 => ?_) (fun c54 => ?_)
    · replace hk := hk.t c54
      exact hE a3 h hk
    · replace hk := hk.f c54
      refine sx_aload_n dc_Se_init_121 rfl ?_
      obtain ⟨g55, hk⟩ := hk.g
      refine sx_get (ci := 3) (k := 1) rfl (by decide) wF_Se_13 g55 dc_Se_init_122 ?_
      refine sx_iload_n dc_Se_init_125 rfl ?_
      refine sx_iload_n dc_Se_init_126 rfl ?_
      obtain ⟨q56, eq56, hk⟩ := hk.bind
      refine sx_callS (d2 := d - 1) (mc2 := 0) (ms2 := 0) (as := [xI a3, xI a2]) mk_Se_pairOf rfl wM_Se_31 mt_Se_pairOf rfl (Nat.le_of_ble_eq_true rfl) (Nat.le_of_ble_eq_true rfl) dc_Se_init_127 (by omega) (Nat.zero_le _) (Nat.zero_le _) ?_
      refine t_Se_pairOf (by omega) ⟨q56, eq56, ?_⟩
      refine sx_eq0 (lc2 := [some (xR a0), some (xI a1), some (xI a2), some (xI a3), none]) (st2 := [xI q56.1, xR (hR h a0 1)]) rfl rfl ?_
      refine sx_iload_n dc_Se_init_130 rfl ?_
      obtain ⟨g57, hk⟩ := hk.g
      obtain ⟨g58, hk⟩ := hk.g
      refine sx_iast g57 g58 dc_Se_init_131 ?_
      refine sx_aload_n dc_Se_init_132 rfl ?_
      obtain ⟨g59, hk⟩ := hk.g
      refine sx_get (ci := 3) (k := 2) rfl (by decide) wF_Se_16 g59 dc_Se_init_133 ?_
      refine sx_iload_n dc_Se_init_136 rfl ?_
      refine sx_iload_n dc_Se_init_137 rfl ?_
      obtain ⟨q60, eq60, hk⟩ := hk.bind
      refine sx_callS (d2 := d - 1) (mc2 := 0) (ms2 := 0) (as := [xI a3, xI a2]) mk_Se_pairOf rfl wM_Se_31 mt_Se_pairOf rfl (Nat.le_of_ble_eq_true rfl) (Nat.le_of_ble_eq_true rfl) dc_Se_init_138 (by omega) (Nat.zero_le _) (Nat.zero_le _) ?_
      refine t_Se_pairOf (by omega) ⟨q60, eq60, ?_⟩
      refine sx_eq0 (lc2 := [some (xR a0), some (xI a1), some (xI a2), some (xI a3), none]) (st2 := [xI q60.1, xR (hR q56.2 a0 2)]) rfl rfl ?_
      refine sx_iload_n dc_Se_init_141 rfl ?_
      obtain ⟨g61, hk⟩ := hk.g
      obtain ⟨g62, hk⟩ := hk.g
      refine sx_iast g61 g62 dc_Se_init_142 ?_
      refine sx_iinc (v := (1 : Int32)) dc_Se_init_143 rfl (by decide) (by decide) (sx_eq (lc2 := [some (xR a0), some (xI a1), some (xI a2), some (xI (a3 + (1 : Int32))), none]) rfl rfl ?_)
      refine sx_goto (tgt := 116) dc_Se_init_146 (by decide) ?_
      exact ih (a3 + (1 : Int32)) (hIu q60.2 (hR q56.2 a0 2) q60.1.toNatClampNeg a2) _ hk hE
theorem t_Se_init_L41 {l : Launch} {z : xZ} {d mc ms : Nat} {Ph : Option xV → xH → Prop} {a0 : Nat}  (hd : 3 ≤ d) : ∀ (n : Nat) (a1 : Int32) (a2 : Int32) (h : xH) (K : Int32 → Int32 → xH → Option (Unit × xH)), OK (f_Se_init_L41 a0 n a1 a2 h K) (fun q => Ph (none) q.2) → (∀ (a1 : Int32) (a2 : Int32) (h : xH), OK (K a1 a2 h) (fun q => Ph (none) q.2) → Sx l z d mc ms M_Se_init 155 [some (xR a0), some (xI a1), some (xI a2), none, none] [] h Ph) → Sx l z d mc ms M_Se_init 41 [some (xR a0), some (xI a1), some (xI a2), none, none] [] h Ph := by
  intro n
  induction n with
  | zero => intro a1 a2 h K hk hE; exact hk.no
  | succ n ih =>
    intro a1 a2 h K hk hE
    rw [f_Se_init_L41] at hk
    refine sx_iload_n dc_Se_init_41 rfl ?_
    refine sx_bipush (v := (7 : Int32)) dc_Se_init_42 (by decide) ?_
    refine sx_icmp_ge (tgt := 155) dc_Se_init_44 (by decide) (fun c35 => ?_) (fun c35 => ?_)
    · replace hk := hk.t c35
      exact hE a1 a2 h hk
    · replace hk := hk.f c35
      refine sx_iconst (v := (0 : Int32)) dc_Se_init_47 (by decide) ?_
      refine sx_istore_n dc_Se_init_48 (by decide) (sx_eq (lc2 := [some (xR a0), some (xI a1), some (xI a2), some (xI (0 : Int32)), none]) rfl rfl ?_)
      refine t_Se_init_L49 (by omega) _ _ _ _ _ hk (fun v51 v52 h53 hk => ?_)
      refine sx_iconst (v := (0 : Int32)) dc_Se_init_114 (by decide) ?_
      refine sx_istore_n dc_Se_init_115 (by decide) (sx_eq (lc2 := [some (xR a0), some (xI v51), some (xI a2), some (xI (0 : Int32)), none]) rfl rfl ?_)
      refine t_Se_init_L116 (by omega) _ _ _ _ hk (fun v63 h64 hk => ?_)
      refine sx_iinc (v := (1 : Int32)) dc_Se_init_149 rfl (by decide) (by decide) (sx_eq (lc2 := [some (xR a0), some (xI v51), some (xI (a2 + (1 : Int32))), some (xI v63), none]) rfl rfl ?_)
      refine sx_goto (tgt := 41) dc_Se_init_152 (by decide) ?_
      exact sx_less (by simp [x_le]) (ih v51 (a2 + (1 : Int32)) h64 _ hk hE)
theorem t_Se_init {l : Launch} {z : xZ} {d mc ms : Nat} {Ph : Option xV → xH → Prop} {a0 : Nat}  {h : xH} (hd : 3 ≤ d) (hmc : 4 ≤ mc) (hms : 205 ≤ ms) (hk : OK (f_Se_init a0 h) (fun q => Ph (none) q.2)) : Sx l z d mc ms M_Se_init 0 (x_en [xR a0] 5) [] h Ph := by
  unfold f_Se_init at hk
  refine sx_eq (lc2 := [some (xR a0), none, none, none, none]) rfl rfl ?_
  refine sx_aload_n dc_Se_init_0 rfl ?_
  obtain ⟨g22, hk⟩ := hk.g
  refine sx_objInit g22 (by decide) wM_Se_1 wO wP (Nat.le_of_ble_eq_true rfl) (by omega) dc_Se_init_1 ?_
  refine sx_aload_n dc_Se_init_4 rfl ?_
  refine sx_sipush (v := (128 : Int32)) dc_Se_init_5 (by decide) ?_
  refine sx_newI (N := 128) (by decide) (by decide) (by decide) wA_int dc_Se_init_8 (by omega) (by omega) ?_
  obtain ⟨h23, eh23, hk⟩ := hk.h
  refine sx_hp eh23 ?_
  have g24 : hK h23 (hN h) = 12 := by rw [eh23]; exact (show hK (hNw h 12 128) (hN h) = 12 from if_pos rfl)
  obtain ⟨g25, hk⟩ := hk.g
  refine sx_putRF (ci := 3) (k := 0) rfl (by decide) wF_Se_9 rfl (by rfl) rfl g25 rfl dc_Se_init_10 ?_
  refine sx_aload_n dc_Se_init_13 rfl ?_
  refine sx_bipush (v := (21 : Int32)) dc_Se_init_14 (by decide) ?_
  refine sx_newI (N := 21) (by decide) (by decide) (by decide) wA_int dc_Se_init_16 (by omega) (by omega) ?_
  obtain ⟨h26, eh26, hk⟩ := hk.h
  refine sx_hp eh26 ?_
  have g27 : hK h26 (hN (hRu h23 a0 0 (hN h))) = 12 := by rw [eh26]; exact (show hK (hNw (hRu h23 a0 0 (hN h)) 12 21) (hN (hRu h23 a0 0 (hN h))) = 12 from if_pos rfl)
  obtain ⟨g28, hk⟩ := hk.g
  refine sx_putRF (ci := 3) (k := 1) rfl (by decide) wF_Se_13 rfl (by rfl) rfl g28 rfl dc_Se_init_18 ?_
  refine sx_aload_n dc_Se_init_21 rfl ?_
  refine sx_bipush (v := (21 : Int32)) dc_Se_init_22 (by decide) ?_
  refine sx_newI (N := 21) (by decide) (by decide) (by decide) wA_int dc_Se_init_24 (by omega) (by omega) ?_
  obtain ⟨h29, eh29, hk⟩ := hk.h
  refine sx_hp eh29 ?_
  have g30 : hK h29 (hN (hRu h26 a0 1 (hN (hRu h23 a0 0 (hN h))))) = 12 := by rw [eh29]; exact (show hK (hNw (hRu h26 a0 1 (hN (hRu h23 a0 0 (hN h)))) 12 21) (hN (hRu h26 a0 1 (hN (hRu h23 a0 0 (hN h))))) = 12 from if_pos rfl)
  obtain ⟨g31, hk⟩ := hk.g
  refine sx_putRF (ci := 3) (k := 2) rfl (by decide) wF_Se_16 rfl (by rfl) rfl g31 rfl dc_Se_init_26 ?_
  refine sx_aload_n dc_Se_init_29 rfl ?_
  refine sx_bipush (v := (35 : Int32)) dc_Se_init_30 (by decide) ?_
  refine sx_newI (N := 35) (by decide) (by decide) (by decide) wA_int dc_Se_init_32 (by omega) (by omega) ?_
  obtain ⟨h32, eh32, hk⟩ := hk.h
  refine sx_hp eh32 ?_
  have g33 : hK h32 (hN (hRu h29 a0 2 (hN (hRu h26 a0 1 (hN (hRu h23 a0 0 (hN h))))))) = 12 := by rw [eh32]; exact (show hK (hNw (hRu h29 a0 2 (hN (hRu h26 a0 1 (hN (hRu h23 a0 0 (hN h)))))) 12 35) (hN (hRu h29 a0 2 (hN (hRu h26 a0 1 (hN (hRu h23 a0 0 (hN h))))))) = 12 from if_pos rfl)
  obtain ⟨g34, hk⟩ := hk.g
  refine sx_putRF (ci := 3) (k := 3) rfl (by decide) wF_Se_19 rfl (by rfl) rfl g34 rfl dc_Se_init_34 ?_
  refine sx_iconst (v := (0 : Int32)) dc_Se_init_37 (by decide) ?_
  refine sx_istore_n dc_Se_init_38 (by decide) (sx_eq (lc2 := [some (xR a0), some (xI (0 : Int32)), none, none, none]) rfl rfl ?_)
  refine sx_iconst (v := (0 : Int32)) dc_Se_init_39 (by decide) ?_
  refine sx_istore_n dc_Se_init_40 (by decide) (sx_eq (lc2 := [some (xR a0), some (xI (0 : Int32)), some (xI (0 : Int32)), none, none]) rfl rfl ?_)
  refine t_Se_init_L41 (by omega) _ _ _ _ _ hk (fun v65 v66 h67 hk => ?_)
  exact sx_retV dc_Se_init_155 rfl hk.val
theorem dc_Se_threesAmong_0 : decode M_Se_threesAmong.2.1 0 = .ok (.iload_n 0, 1) := by decide +kernel
theorem dc_Se_threesAmong_1 : decode M_Se_threesAmong.2.1 1 = .ok (.iload_n 0, 1) := by decide +kernel
theorem dc_Se_threesAmong_2 : decode M_Se_threesAmong.2.1 2 = .ok (.iconst 1, 1) := by decide +kernel
theorem dc_Se_threesAmong_3 : decode M_Se_threesAmong.2.1 3 = .ok (.isub, 1) := by decide +kernel
theorem dc_Se_threesAmong_4 : decode M_Se_threesAmong.2.1 4 = .ok (.imul, 1) := by decide +kernel
theorem dc_Se_threesAmong_5 : decode M_Se_threesAmong.2.1 5 = .ok (.iload_n 0, 1) := by decide +kernel
theorem dc_Se_threesAmong_6 : decode M_Se_threesAmong.2.1 6 = .ok (.iconst 2, 1) := by decide +kernel
theorem dc_Se_threesAmong_7 : decode M_Se_threesAmong.2.1 7 = .ok (.isub, 1) := by decide +kernel
theorem dc_Se_threesAmong_8 : decode M_Se_threesAmong.2.1 8 = .ok (.imul, 1) := by decide +kernel
theorem dc_Se_threesAmong_9 : decode M_Se_threesAmong.2.1 9 = .ok (.bipush 6, 2) := by decide +kernel
theorem dc_Se_threesAmong_11 : decode M_Se_threesAmong.2.1 11 = .ok (.idiv, 1) := by decide +kernel
theorem dc_Se_threesAmong_12 : decode M_Se_threesAmong.2.1 12 = .ok (.ireturn, 1) := by decide +kernel
def f_Se_threesAmong (a0 : Int32) (h : xH) : Option (Int32 × xH) := some (((a0 * (a0 - (1 : Int32))) * (a0 - (2 : Int32))) / (6 : Int32), h)
theorem t_Se_threesAmong {l : Launch} {z : xZ} {d mc ms : Nat} {Ph : Option xV → xH → Prop} {a0 : Int32}  {h : xH} (hd : 1 ≤ d) (hk : OK (f_Se_threesAmong a0 h) (fun q => Ph (some (xI q.1)) q.2)) : Sx l z d mc ms M_Se_threesAmong 0 (x_en [xI a0] 1) [] h Ph := by
  unfold f_Se_threesAmong at hk
  refine sx_eq (lc2 := [some (xI a0)]) rfl rfl ?_
  refine sx_iload_n dc_Se_threesAmong_0 rfl ?_
  refine sx_iload_n dc_Se_threesAmong_1 rfl ?_
  refine sx_iconst (v := (1 : Int32)) dc_Se_threesAmong_2 (by decide) ?_
  refine sx_isub dc_Se_threesAmong_3 ?_
  refine sx_imul dc_Se_threesAmong_4 ?_
  refine sx_iload_n dc_Se_threesAmong_5 rfl ?_
  refine sx_iconst (v := (2 : Int32)) dc_Se_threesAmong_6 (by decide) ?_
  refine sx_isub dc_Se_threesAmong_7 ?_
  refine sx_imul dc_Se_threesAmong_8 ?_
  refine sx_bipush (v := (6 : Int32)) dc_Se_threesAmong_9 (by decide) ?_
  refine sx_idiv dc_Se_threesAmong_11 (by decide) ?_
  exact sx_retI dc_Se_threesAmong_12 rfl hk.val
theorem dc_Sh_init_0 : decode M_Sh_init.2.1 0 = .ok (.aload_n 0, 1) := by decide +kernel
theorem dc_Sh_init_1 : decode M_Sh_init.2.1 1 = .ok (.invokespecial 1, 3) := by decide +kernel
theorem dc_Sh_init_4 : decode M_Sh_init.2.1 4 = .ok (.aload_n 0, 1) := by decide +kernel
theorem dc_Sh_init_5 : decode M_Sh_init.2.1 5 = .ok (.iconst (-1), 1) := by decide +kernel
theorem dc_Sh_init_6 : decode M_Sh_init.2.1 6 = .ok (.putfield 9, 3) := by decide +kernel
theorem dc_Sh_init_9 : decode M_Sh_init.2.1 9 = .ok (.aload_n 0, 1) := by decide +kernel
theorem dc_Sh_init_10 : decode M_Sh_init.2.1 10 = .ok (.bipush 40, 2) := by decide +kernel
theorem dc_Sh_init_12 : decode M_Sh_init.2.1 12 = .ok (.newarray .int, 2) := by decide +kernel
theorem dc_Sh_init_14 : decode M_Sh_init.2.1 14 = .ok (.putfield 13, 3) := by decide +kernel
theorem dc_Sh_init_17 : decode M_Sh_init.2.1 17 = .ok (.return_, 1) := by decide +kernel
def f_Sh_init (a0 : Nat) (h : xH) : Option (Unit × xH) := gd (hK h a0 = 4) (hp (hNw (hIu h a0 0 (-1 : Int32)) 12 40) (fun h4 => gd (hK h4 a0 = 4) (some ((), hRu h4 a0 2 (hN (hIu h a0 0 (-1 : Int32)))))))
theorem t_Sh_init {l : Launch} {z : xZ} {d mc ms : Nat} {Ph : Option xV → xH → Prop} {a0 : Nat}  {h : xH} (hd : 2 ≤ d) (hmc : 1 ≤ mc) (hms : 40 ≤ ms) (hk : OK (f_Sh_init a0 h) (fun q => Ph (none) q.2)) : Sx l z d mc ms M_Sh_init 0 (x_en [xR a0] 1) [] h Ph := by
  unfold f_Sh_init at hk
  refine sx_eq (lc2 := [some (xR a0)]) rfl rfl ?_
  refine sx_aload_n dc_Sh_init_0 rfl ?_
  obtain ⟨g3, hk⟩ := hk.g
  refine sx_objInit g3 (by decide) wM_Sh_1 wO wP (Nat.le_of_ble_eq_true rfl) (by omega) dc_Sh_init_1 ?_
  refine sx_aload_n dc_Sh_init_4 rfl ?_
  refine sx_iconst (v := (-1 : Int32)) dc_Sh_init_5 (by decide) ?_
  refine sx_putI (ci := 4) (k := 0) rfl (by decide) wF_Sh_9 rfl g3 (Or.inl rfl) dc_Sh_init_6 ?_
  refine sx_aload_n dc_Sh_init_9 rfl ?_
  refine sx_bipush (v := (40 : Int32)) dc_Sh_init_10 (by decide) ?_
  refine sx_newI (N := 40) (by decide) (by decide) (by decide) wA_int dc_Sh_init_12 (by omega) (by omega) ?_
  obtain ⟨h4, eh4, hk⟩ := hk.h
  refine sx_hp eh4 ?_
  have g5 : hK h4 (hN (hIu h a0 0 (-1 : Int32))) = 12 := by rw [eh4]; exact (show hK (hNw (hIu h a0 0 (-1 : Int32)) 12 40) (hN (hIu h a0 0 (-1 : Int32))) = 12 from if_pos rfl)
  obtain ⟨g6, hk⟩ := hk.g
  refine sx_putRF (ci := 4) (k := 2) rfl (by decide) wF_Sh_13 rfl (by rfl) rfl g6 rfl dc_Sh_init_14 ?_
  exact sx_retV dc_Sh_init_17 rfl hk.val
theorem dc_Sh_isMissing_0 : decode M_Sh_isMissing.2.1 0 = .ok (.aload_n 0, 1) := by decide +kernel
theorem dc_Sh_isMissing_1 : decode M_Sh_isMissing.2.1 1 = .ok (.getfield 9, 3) := by decide +kernel
theorem dc_Sh_isMissing_4 : decode M_Sh_isMissing.2.1 4 = .ok (.iconst (-1), 1) := by decide +kernel
theorem dc_Sh_isMissing_5 : decode M_Sh_isMissing.2.1 5 = .ok (.if_icmp .ne 7, 3) := by decide +kernel
theorem dc_Sh_isMissing_8 : decode M_Sh_isMissing.2.1 8 = .ok (.iconst 1, 1) := by decide +kernel
theorem dc_Sh_isMissing_9 : decode M_Sh_isMissing.2.1 9 = .ok (.goto 4, 3) := by decide +kernel
theorem dc_Sh_isMissing_12 : decode M_Sh_isMissing.2.1 12 = .ok (.iconst 0, 1) := by decide +kernel
theorem dc_Sh_isMissing_13 : decode M_Sh_isMissing.2.1 13 = .ok (.ireturn, 1) := by decide +kernel
def f_Sh_isMissing (a0 : Nat) (h : xH) : Option (Int32 × xH) := gd (hK h a0 = 4) (some (nb (if (hI h a0 0) = (-1 : Int32) then (1 : Int32) else (0 : Int32)), h))
theorem t_Sh_isMissing {l : Launch} {z : xZ} {d mc ms : Nat} {Ph : Option xV → xH → Prop} {a0 : Nat}  {h : xH} (hd : 1 ≤ d) (hk : OK (f_Sh_isMissing a0 h) (fun q => Ph (some (xI q.1)) q.2)) : Sx l z d mc ms M_Sh_isMissing 0 (x_en [xR a0] 1) [] h Ph := by
  unfold f_Sh_isMissing at hk
  refine sx_eq (lc2 := [some (xR a0)]) rfl rfl ?_
  refine sx_aload_n dc_Sh_isMissing_0 rfl ?_
  obtain ⟨g2, hk⟩ := hk.g
  refine sx_get (ci := 4) (k := 0) rfl (by decide) wF_Sh_9 g2 dc_Sh_isMissing_1 ?_
  refine sx_iconst (v := (-1 : Int32)) dc_Sh_isMissing_4 (by decide) ?_
  refine sx_mg (pc2 := 13) (lc2 := [some (xR a0)]) (st2 := [xI (if (hI h a0 0) = (-1 : Int32) then (1 : Int32) else (0 : Int32))]) (h2 := h) ?_ (fun J3 => ?_)
  · exact sx_retT dc_Sh_isMissing_13 (Or.inl ⟨rfl, rfl⟩) rfl hk.val
  · refine sx_icmp_ne (tgt := 12) dc_Sh_isMissing_5 (by decide) (fun c4 => ?_) (fun c4 => ?_)
    · try simp only [if_neg c4] at J3
      refine sx_iconst (v := (0 : Int32)) dc_Sh_isMissing_12 (by decide) ?_
      exact J3
    · try simp only [if_pos c4] at J3
      refine sx_iconst (v := (1 : Int32)) dc_Sh_isMissing_8 (by decide) ?_
      refine sx_goto (tgt := 13) dc_Sh_isMissing_9 (by decide) ?_
      exact J3
theorem dc_Ar_fill_0 : decode M_Ar_fill.2.1 0 = .ok (.iconst 0, 1) := by decide +kernel
theorem dc_Ar_fill_1 : decode M_Ar_fill.2.1 1 = .ok (.istore_n 2, 1) := by decide +kernel
theorem dc_Ar_fill_2 : decode M_Ar_fill.2.1 2 = .ok (.aload_n 0, 1) := by decide +kernel
theorem dc_Ar_fill_3 : decode M_Ar_fill.2.1 3 = .ok (.arraylength, 1) := by decide +kernel
theorem dc_Ar_fill_4 : decode M_Ar_fill.2.1 4 = .ok (.istore_n 3, 1) := by decide +kernel
theorem dc_Ar_fill_5 : decode M_Ar_fill.2.1 5 = .ok (.iload_n 2, 1) := by decide +kernel
theorem dc_Ar_fill_6 : decode M_Ar_fill.2.1 6 = .ok (.iload_n 3, 1) := by decide +kernel
theorem dc_Ar_fill_7 : decode M_Ar_fill.2.1 7 = .ok (.if_icmp .ge 13, 3) := by decide +kernel
theorem dc_Ar_fill_10 : decode M_Ar_fill.2.1 10 = .ok (.aload_n 0, 1) := by decide +kernel
theorem dc_Ar_fill_11 : decode M_Ar_fill.2.1 11 = .ok (.iload_n 2, 1) := by decide +kernel
theorem dc_Ar_fill_12 : decode M_Ar_fill.2.1 12 = .ok (.iload_n 1, 1) := by decide +kernel
theorem dc_Ar_fill_13 : decode M_Ar_fill.2.1 13 = .ok (.iastore, 1) := by decide +kernel
theorem dc_Ar_fill_14 : decode M_Ar_fill.2.1 14 = .ok (.iinc 2 1, 3) := by decide +kernel
theorem dc_Ar_fill_17 : decode M_Ar_fill.2.1 17 = .ok (.goto (-12), 3) := by decide +kernel
theorem dc_Ar_fill_20 : decode M_Ar_fill.2.1 20 = .ok (.return_, 1) := by decide +kernel
def f_Ar_fill_L5 (a0 : Nat) (a1 : Int32) (a3 : Int32) : Nat → Int32 → xH → (Int32 → xH → Option (Unit × xH)) → Option (Unit × xH)
  | 0, _, _, _ => none
  | n + 1, a2, h, K => if a3 ≤ a2 then K a2 h else gd (hK h a0 = 12) (gd (¬ (a2 < 0 ∨ hL h a0 ≤ a2.toNatClampNeg)) (f_Ar_fill_L5 a0 a1 a3 n (a2 + (1 : Int32)) (hIu h a0 a2.toNatClampNeg a1) K))
def f_Ar_fill (a0 : Nat) (a1 : Int32) (h : xH) : Option (Unit × xH) := gd (hK h a0 = 12) (f_Ar_fill_L5 a0 a1 (Int32.ofNat (hL h a0)) fu (0 : Int32) h (fun v7 h8 => some ((), h8)))
theorem t_Ar_fill_L5 {l : Launch} {z : xZ} {d mc ms : Nat} {Ph : Option xV → xH → Prop} {a0 : Nat} {a1 : Int32} {a3 : Int32}  (hd : 1 ≤ d) : ∀ (n : Nat) (a2 : Int32) (h : xH) (K : Int32 → xH → Option (Unit × xH)), OK (f_Ar_fill_L5 a0 a1 a3 n a2 h K) (fun q => Ph (none) q.2) → (∀ (a2 : Int32) (h : xH), OK (K a2 h) (fun q => Ph (none) q.2) → Sx l z d mc ms M_Ar_fill 20 [some (xR a0), some (xI a1), some (xI a2), some (xI a3)] [] h Ph) → Sx l z d mc ms M_Ar_fill 5 [some (xR a0), some (xI a1), some (xI a2), some (xI a3)] [] h Ph := by
  intro n
  induction n with
  | zero => intro a2 h K hk hE; exact hk.no
  | succ n ih =>
    intro a2 h K hk hE
    rw [f_Ar_fill_L5] at hk
    refine sx_iload_n dc_Ar_fill_5 rfl ?_
    refine sx_iload_n dc_Ar_fill_6 rfl ?_
    refine sx_icmp_ge (tgt := 20) dc_Ar_fill_7 (by decide) (fun c4 => ?_) (fun c4 => ?_)
    · replace hk := hk.t c4
      exact hE a2 h hk
    · replace hk := hk.f c4
      refine sx_aload_n dc_Ar_fill_10 rfl ?_
      refine sx_iload_n dc_Ar_fill_11 rfl ?_
      refine sx_iload_n dc_Ar_fill_12 rfl ?_
      obtain ⟨g5, hk⟩ := hk.g
      obtain ⟨g6, hk⟩ := hk.g
      refine sx_iast g5 g6 dc_Ar_fill_13 ?_
      refine sx_iinc (v := (1 : Int32)) dc_Ar_fill_14 rfl (by decide) (by decide) (sx_eq (lc2 := [some (xR a0), some (xI a1), some (xI (a2 + (1 : Int32))), some (xI a3)]) rfl rfl ?_)
      refine sx_goto (tgt := 5) dc_Ar_fill_17 (by decide) ?_
      exact ih (a2 + (1 : Int32)) (hIu h a0 a2.toNatClampNeg a1) _ hk hE
theorem t_Ar_fill {l : Launch} {z : xZ} {d mc ms : Nat} {Ph : Option xV → xH → Prop} {a0 : Nat} {a1 : Int32}  {h : xH} (hd : 1 ≤ d) (hk : OK (f_Ar_fill a0 a1 h) (fun q => Ph (none) q.2)) : Sx l z d mc ms M_Ar_fill 0 (x_en [xR a0, xI a1] 4) [] h Ph := by
  unfold f_Ar_fill at hk
  refine sx_eq (lc2 := [some (xR a0), some (xI a1), none, none]) rfl rfl ?_
  refine sx_iconst (v := (0 : Int32)) dc_Ar_fill_0 (by decide) ?_
  refine sx_istore_n dc_Ar_fill_1 (by decide) (sx_eq (lc2 := [some (xR a0), some (xI a1), some (xI (0 : Int32)), none]) rfl rfl ?_)
  refine sx_aload_n dc_Ar_fill_2 rfl ?_
  obtain ⟨g3, hk⟩ := hk.g
  refine sx_alen g3 (by decide) dc_Ar_fill_3 ?_
  refine sx_istore_n dc_Ar_fill_4 (by decide) (sx_eq (lc2 := [some (xR a0), some (xI a1), some (xI (0 : Int32)), some (xI (Int32.ofNat (hL h a0)))]) rfl rfl ?_)
  refine t_Ar_fill_L5 (by omega) _ _ _ _ hk (fun v7 h8 hk => ?_)
  exact sx_retV dc_Ar_fill_20 rfl hk.val
theorem dc_Sh_become_0 : decode M_Sh_become.2.1 0 = .ok (.aload_n 0, 1) := by decide +kernel
theorem dc_Sh_become_1 : decode M_Sh_become.2.1 1 = .ok (.iload_n 1, 1) := by decide +kernel
theorem dc_Sh_become_2 : decode M_Sh_become.2.1 2 = .ok (.putfield 9, 3) := by decide +kernel
theorem dc_Sh_become_5 : decode M_Sh_become.2.1 5 = .ok (.aload_n 0, 1) := by decide +kernel
theorem dc_Sh_become_6 : decode M_Sh_become.2.1 6 = .ok (.iload_n 2, 1) := by decide +kernel
theorem dc_Sh_become_7 : decode M_Sh_become.2.1 7 = .ok (.putfield 17, 3) := by decide +kernel
theorem dc_Sh_become_10 : decode M_Sh_become.2.1 10 = .ok (.aload_n 0, 1) := by decide +kernel
theorem dc_Sh_become_11 : decode M_Sh_become.2.1 11 = .ok (.getfield 13, 3) := by decide +kernel
theorem dc_Sh_become_14 : decode M_Sh_become.2.1 14 = .ok (.iconst 0, 1) := by decide +kernel
theorem dc_Sh_become_15 : decode M_Sh_become.2.1 15 = .ok (.invokestatic 20, 3) := by decide +kernel
theorem dc_Sh_become_18 : decode M_Sh_become.2.1 18 = .ok (.return_, 1) := by decide +kernel
def f_Sh_become (a0 : Nat) (a1 : Int32) (a2 : Int32) (h : xH) : Option (Unit × xH) := gd (hK h a0 = 4) (Option.bind (f_Ar_fill (hR h a0 2) (0 : Int32) (hIu (hIu h a0 0 a1) a0 1 a2)) (fun q4 => some ((), q4.2)))
theorem t_Sh_become {l : Launch} {z : xZ} {d mc ms : Nat} {Ph : Option xV → xH → Prop} {a0 : Nat} {a1 : Int32} {a2 : Int32}  {h : xH} (hd : 2 ≤ d) (hk : OK (f_Sh_become a0 a1 a2 h) (fun q => Ph (none) q.2)) : Sx l z d mc ms M_Sh_become 0 (x_en [xR a0, xI a1, xI a2] 3) [] h Ph := by
  unfold f_Sh_become at hk
  refine sx_eq (lc2 := [some (xR a0), some (xI a1), some (xI a2)]) rfl rfl ?_
  refine sx_aload_n dc_Sh_become_0 rfl ?_
  refine sx_iload_n dc_Sh_become_1 rfl ?_
  obtain ⟨g3, hk⟩ := hk.g
  refine sx_putI (ci := 4) (k := 0) rfl (by decide) wF_Sh_9 rfl g3 (Or.inl rfl) dc_Sh_become_2 ?_
  refine sx_aload_n dc_Sh_become_5 rfl ?_
  refine sx_iload_n dc_Sh_become_6 rfl ?_
  refine sx_putI (ci := 4) (k := 1) rfl (by decide) wF_Sh_17 rfl g3 (Or.inl rfl) dc_Sh_become_7 ?_
  refine sx_aload_n dc_Sh_become_10 rfl ?_
  refine sx_get (ci := 4) (k := 2) rfl (by decide) wF_Sh_13 g3 dc_Sh_become_11 ?_
  refine sx_iconst (v := (0 : Int32)) dc_Sh_become_14 (by decide) ?_
  obtain ⟨q4, eq4, hk⟩ := hk.bind
  refine sx_callS (d2 := d - 1) (mc2 := 0) (ms2 := 0) (as := [xR (hR h a0 2), xI (0 : Int32)]) mk_Ar_fill rfl wM_Sh_20 mt_Ar_fill rfl (Nat.le_of_ble_eq_true rfl) (Nat.le_of_ble_eq_true rfl) dc_Sh_become_15 (by omega) (Nat.zero_le _) (Nat.zero_le _) ?_
  refine t_Ar_fill (by omega) ⟨q4, eq4, ?_⟩
  refine sx_eq0 (lc2 := [some (xR a0), some (xI a1), some (xI a2)]) (st2 := []) rfl rfl ?_
  exact sx_retV dc_Sh_become_18 rfl hk.val
theorem dc_Sh_hasRun_0 : decode M_Sh_hasRun.2.1 0 = .ok (.iload_n 1, 1) := by decide +kernel
theorem dc_Sh_hasRun_1 : decode M_Sh_hasRun.2.1 1 = .ok (.ifCond .lt 21, 3) := by decide +kernel
theorem dc_Sh_hasRun_4 : decode M_Sh_hasRun.2.1 4 = .ok (.iload_n 2, 1) := by decide +kernel
theorem dc_Sh_hasRun_5 : decode M_Sh_hasRun.2.1 5 = .ok (.ifCond .lt 17, 3) := by decide +kernel
theorem dc_Sh_hasRun_8 : decode M_Sh_hasRun.2.1 8 = .ok (.iload_n 1, 1) := by decide +kernel
theorem dc_Sh_hasRun_9 : decode M_Sh_hasRun.2.1 9 = .ok (.aload_n 0, 1) := by decide +kernel
theorem dc_Sh_hasRun_10 : decode M_Sh_hasRun.2.1 10 = .ok (.getfield 17, 3) := by decide +kernel
theorem dc_Sh_hasRun_13 : decode M_Sh_hasRun.2.1 13 = .ok (.iload_n 2, 1) := by decide +kernel
theorem dc_Sh_hasRun_14 : decode M_Sh_hasRun.2.1 14 = .ok (.isub, 1) := by decide +kernel
theorem dc_Sh_hasRun_15 : decode M_Sh_hasRun.2.1 15 = .ok (.if_icmp .gt 7, 3) := by decide +kernel
theorem dc_Sh_hasRun_18 : decode M_Sh_hasRun.2.1 18 = .ok (.iconst 1, 1) := by decide +kernel
theorem dc_Sh_hasRun_19 : decode M_Sh_hasRun.2.1 19 = .ok (.goto 4, 3) := by decide +kernel
theorem dc_Sh_hasRun_22 : decode M_Sh_hasRun.2.1 22 = .ok (.iconst 0, 1) := by decide +kernel
theorem dc_Sh_hasRun_23 : decode M_Sh_hasRun.2.1 23 = .ok (.ireturn, 1) := by decide +kernel
def f_Sh_hasRun (a0 : Nat) (a1 : Int32) (a2 : Int32) (h : xH) : Option (Int32 × xH) := jn (fun (x2 : Int32) => some (nb x2, h)) (fun k3 => jn (fun (x4 : Unit) => k3 (0 : Int32)) (fun k5 => if a1 < 0 then k5 () else if a2 < 0 then k5 () else gd (hK h a0 = 4) (if ((hI h a0 1) - a2) < a1 then k5 () else k3 (1 : Int32))))
theorem t_Sh_hasRun {l : Launch} {z : xZ} {d mc ms : Nat} {Ph : Option xV → xH → Prop} {a0 : Nat} {a1 : Int32} {a2 : Int32}  {h : xH} (hd : 1 ≤ d) (hk : OK (f_Sh_hasRun a0 a1 a2 h) (fun q => Ph (some (xI q.1)) q.2)) : Sx l z d mc ms M_Sh_hasRun 0 (x_en [xR a0, xI a1, xI a2] 3) [] h Ph := by
  unfold f_Sh_hasRun at hk
  refine sx_eq (lc2 := [some (xR a0), some (xI a1), some (xI a2)]) rfl rfl ?_
  refine sx_iload_n dc_Sh_hasRun_0 rfl ?_
  refine hk.j (X := fun x2 => Sx l z d mc ms M_Sh_hasRun 23 [some (xR a0), some (xI a1), some (xI a2)] [xI x2] h Ph) (fun x2 hk => ?_) (fun k3 jk3 hk => ?_)
  · exact sx_retT dc_Sh_hasRun_23 (Or.inl ⟨rfl, rfl⟩) rfl hk.val
  · refine hk.j (X := fun x4 => Sx l z d mc ms M_Sh_hasRun 22 [some (xR a0), some (xI a1), some (xI a2)] [] h Ph) (fun x4 hk => ?_) (fun k5 jk5 hk => ?_)
    · refine sx_iconst (v := (0 : Int32)) dc_Sh_hasRun_22 (by decide) ?_
      exact jk3 (0 : Int32) hk
    · refine sx_if_lt (tgt := 22) dc_Sh_hasRun_1 (by decide) (fun c6 => ?_) (fun c6 => ?_)
      · replace hk := hk.t c6
        exact jk5 () hk
      · replace hk := hk.f c6
        refine sx_iload_n dc_Sh_hasRun_4 rfl ?_
        refine sx_if_lt (tgt := 22) dc_Sh_hasRun_5 (by decide) (fun c7 => ?_) (fun c7 => ?_)
        · replace hk := hk.t c7
          exact jk5 () hk
        · replace hk := hk.f c7
          refine sx_iload_n dc_Sh_hasRun_8 rfl ?_
          refine sx_aload_n dc_Sh_hasRun_9 rfl ?_
          obtain ⟨g8, hk⟩ := hk.g
          refine sx_get (ci := 4) (k := 1) rfl (by decide) wF_Sh_17 g8 dc_Sh_hasRun_10 ?_
          refine sx_iload_n dc_Sh_hasRun_13 rfl ?_
          refine sx_isub dc_Sh_hasRun_14 ?_
          refine sx_icmp_gt (tgt := 22) dc_Sh_hasRun_15 (by decide) (fun c9 => ?_) (fun c9 => ?_)
          · replace hk := hk.t c9
            exact jk5 () hk
          · replace hk := hk.f c9
            refine sx_iconst (v := (1 : Int32)) dc_Sh_hasRun_18 (by decide) ?_
            refine sx_goto (tgt := 23) dc_Sh_hasRun_19 (by decide) ?_
            exact jk3 (1 : Int32) hk
theorem dc_Sh_item_0 : decode M_Sh_item.2.1 0 = .ok (.iload_n 1, 1) := by decide +kernel
theorem dc_Sh_item_1 : decode M_Sh_item.2.1 1 = .ok (.ifCond .lt 20, 3) := by decide +kernel
theorem dc_Sh_item_4 : decode M_Sh_item.2.1 4 = .ok (.iload_n 1, 1) := by decide +kernel
theorem dc_Sh_item_5 : decode M_Sh_item.2.1 5 = .ok (.aload_n 0, 1) := by decide +kernel
theorem dc_Sh_item_6 : decode M_Sh_item.2.1 6 = .ok (.getfield 17, 3) := by decide +kernel
theorem dc_Sh_item_9 : decode M_Sh_item.2.1 9 = .ok (.if_icmp .ge 12, 3) := by decide +kernel
theorem dc_Sh_item_12 : decode M_Sh_item.2.1 12 = .ok (.aload_n 0, 1) := by decide +kernel
theorem dc_Sh_item_13 : decode M_Sh_item.2.1 13 = .ok (.getfield 13, 3) := by decide +kernel
theorem dc_Sh_item_16 : decode M_Sh_item.2.1 16 = .ok (.iload_n 1, 1) := by decide +kernel
theorem dc_Sh_item_17 : decode M_Sh_item.2.1 17 = .ok (.iaload, 1) := by decide +kernel
theorem dc_Sh_item_18 : decode M_Sh_item.2.1 18 = .ok (.goto 4, 3) := by decide +kernel
theorem dc_Sh_item_21 : decode M_Sh_item.2.1 21 = .ok (.iconst 0, 1) := by decide +kernel
theorem dc_Sh_item_22 : decode M_Sh_item.2.1 22 = .ok (.ireturn, 1) := by decide +kernel
def f_Sh_item (a0 : Nat) (a1 : Int32) (h : xH) : Option (Int32 × xH) := jn (fun (x4 : Int32) => some (x4, h)) (fun k5 => jn (fun (x6 : Unit) => k5 (0 : Int32)) (fun k7 => if a1 < 0 then k7 () else gd (hK h a0 = 4) (if (hI h a0 1) ≤ a1 then k7 () else gd (hK h (hR h a0 2) = 12) (gd (¬ (a1 < 0 ∨ hL h (hR h a0 2) ≤ a1.toNatClampNeg)) (k5 (hI h (hR h a0 2) a1.toNatClampNeg))))))
theorem t_Sh_item {l : Launch} {z : xZ} {d mc ms : Nat} {Ph : Option xV → xH → Prop} {a0 : Nat} {a1 : Int32}  {h : xH} (hd : 1 ≤ d) (hk : OK (f_Sh_item a0 a1 h) (fun q => Ph (some (xI q.1)) q.2)) : Sx l z d mc ms M_Sh_item 0 (x_en [xR a0, xI a1] 2) [] h Ph := by
  unfold f_Sh_item at hk
  refine sx_eq (lc2 := [some (xR a0), some (xI a1)]) rfl rfl ?_
  refine sx_iload_n dc_Sh_item_0 rfl ?_
  refine hk.j (X := fun x4 => Sx l z d mc ms M_Sh_item 22 [some (xR a0), some (xI a1)] [xI x4] h Ph) (fun x4 hk => ?_) (fun k5 jk5 hk => ?_)
  · exact sx_retI dc_Sh_item_22 rfl hk.val
  · refine hk.j (X := fun x6 => Sx l z d mc ms M_Sh_item 21 [some (xR a0), some (xI a1)] [] h Ph) (fun x6 hk => ?_) (fun k7 jk7 hk => ?_)
    · refine sx_iconst (v := (0 : Int32)) dc_Sh_item_21 (by decide) ?_
      exact jk5 (0 : Int32) hk
    · refine sx_if_lt (tgt := 21) dc_Sh_item_1 (by decide) (fun c8 => ?_) (fun c8 => ?_)
      · replace hk := hk.t c8
        exact jk7 () hk
      · replace hk := hk.f c8
        refine sx_iload_n dc_Sh_item_4 rfl ?_
        refine sx_aload_n dc_Sh_item_5 rfl ?_
        obtain ⟨g9, hk⟩ := hk.g
        refine sx_get (ci := 4) (k := 1) rfl (by decide) wF_Sh_17 g9 dc_Sh_item_6 ?_
        refine sx_icmp_ge (tgt := 21) dc_Sh_item_9 (by decide) (fun c10 => ?_) (fun c10 => ?_)
        · replace hk := hk.t c10
          exact jk7 () hk
        · replace hk := hk.f c10
          refine sx_aload_n dc_Sh_item_12 rfl ?_
          refine sx_get (ci := 4) (k := 2) rfl (by decide) wF_Sh_13 g9 dc_Sh_item_13 ?_
          refine sx_iload_n dc_Sh_item_16 rfl ?_
          obtain ⟨g11, hk⟩ := hk.g
          obtain ⟨g12, hk⟩ := hk.g
          refine sx_iald g11 g12 dc_Sh_item_17 ?_
          refine sx_goto (tgt := 22) dc_Sh_item_18 (by decide) ?_
          exact jk5 (hI h (hR h a0 2) a1.toNatClampNeg) hk
theorem dc_Sh_write_0 : decode M_Sh_write.2.1 0 = .ok (.iload_n 1, 1) := by decide +kernel
theorem dc_Sh_write_1 : decode M_Sh_write.2.1 1 = .ok (.ifCond .lt 11, 3) := by decide +kernel
theorem dc_Sh_write_4 : decode M_Sh_write.2.1 4 = .ok (.iload_n 1, 1) := by decide +kernel
theorem dc_Sh_write_5 : decode M_Sh_write.2.1 5 = .ok (.aload_n 0, 1) := by decide +kernel
theorem dc_Sh_write_6 : decode M_Sh_write.2.1 6 = .ok (.getfield 17, 3) := by decide +kernel
theorem dc_Sh_write_9 : decode M_Sh_write.2.1 9 = .ok (.if_icmp .lt 5, 3) := by decide +kernel
theorem dc_Sh_write_12 : decode M_Sh_write.2.1 12 = .ok (.iconst 0, 1) := by decide +kernel
theorem dc_Sh_write_13 : decode M_Sh_write.2.1 13 = .ok (.ireturn, 1) := by decide +kernel
theorem dc_Sh_write_14 : decode M_Sh_write.2.1 14 = .ok (.aload_n 0, 1) := by decide +kernel
theorem dc_Sh_write_15 : decode M_Sh_write.2.1 15 = .ok (.getfield 13, 3) := by decide +kernel
theorem dc_Sh_write_18 : decode M_Sh_write.2.1 18 = .ok (.iload_n 1, 1) := by decide +kernel
theorem dc_Sh_write_19 : decode M_Sh_write.2.1 19 = .ok (.aload_n 0, 1) := by decide +kernel
theorem dc_Sh_write_20 : decode M_Sh_write.2.1 20 = .ok (.getfield 9, 3) := by decide +kernel
theorem dc_Sh_write_23 : decode M_Sh_write.2.1 23 = .ok (.ifCond .ne 8, 3) := by decide +kernel
theorem dc_Sh_write_26 : decode M_Sh_write.2.1 26 = .ok (.iload_n 2, 1) := by decide +kernel
theorem dc_Sh_write_27 : decode M_Sh_write.2.1 27 = .ok (.i2b, 1) := by decide +kernel
theorem dc_Sh_write_28 : decode M_Sh_write.2.1 28 = .ok (.goto 17, 3) := by decide +kernel
theorem dc_Sh_write_31 : decode M_Sh_write.2.1 31 = .ok (.aload_n 0, 1) := by decide +kernel
theorem dc_Sh_write_32 : decode M_Sh_write.2.1 32 = .ok (.getfield 9, 3) := by decide +kernel
theorem dc_Sh_write_35 : decode M_Sh_write.2.1 35 = .ok (.iconst 1, 1) := by decide +kernel
theorem dc_Sh_write_36 : decode M_Sh_write.2.1 36 = .ok (.if_icmp .ne 8, 3) := by decide +kernel
theorem dc_Sh_write_39 : decode M_Sh_write.2.1 39 = .ok (.iload_n 2, 1) := by decide +kernel
theorem dc_Sh_write_40 : decode M_Sh_write.2.1 40 = .ok (.i2s, 1) := by decide +kernel
theorem dc_Sh_write_41 : decode M_Sh_write.2.1 41 = .ok (.goto 4, 3) := by decide +kernel
theorem dc_Sh_write_44 : decode M_Sh_write.2.1 44 = .ok (.iload_n 2, 1) := by decide +kernel
theorem dc_Sh_write_45 : decode M_Sh_write.2.1 45 = .ok (.iastore, 1) := by decide +kernel
theorem dc_Sh_write_46 : decode M_Sh_write.2.1 46 = .ok (.iconst 1, 1) := by decide +kernel
theorem dc_Sh_write_47 : decode M_Sh_write.2.1 47 = .ok (.ireturn, 1) := by decide +kernel
def f_Sh_write (a0 : Nat) (a1 : Int32) (a2 : Int32) (h : xH) : Option (Int32 × xH) := jn (fun (x4 : Unit) => some ((0 : Int32), h)) (fun k5 => if a1 < 0 then k5 () else gd (hK h a0 = 4) (if a1 < (hI h a0 1) then jn (fun (x9 : Int32) => gd (hK h (hR h a0 2) = 12) (gd (¬ (a1 < 0 ∨ hL h (hR h a0 2) ≤ a1.toNatClampNeg)) (some ((1 : Int32), hIu h (hR h a0 2) a1.toNatClampNeg x9)))) (fun k10 => if (hI h a0 0) = 0 then k10 (jB a2) else if (hI h a0 0) = (1 : Int32) then k10 (jS a2) else k10 a2) else k5 ()))
theorem t_Sh_write {l : Launch} {z : xZ} {d mc ms : Nat} {Ph : Option xV → xH → Prop} {a0 : Nat} {a1 : Int32} {a2 : Int32}  {h : xH} (hd : 1 ≤ d) (hk : OK (f_Sh_write a0 a1 a2 h) (fun q => Ph (some (xI q.1)) q.2)) : Sx l z d mc ms M_Sh_write 0 (x_en [xR a0, xI a1, xI a2] 3) [] h Ph := by
  unfold f_Sh_write at hk
  refine sx_eq (lc2 := [some (xR a0), some (xI a1), some (xI a2)]) rfl rfl ?_
  refine sx_iload_n dc_Sh_write_0 rfl ?_
  refine hk.j (X := fun x4 => Sx l z d mc ms M_Sh_write 12 [some (xR a0), some (xI a1), some (xI a2)] [] h Ph) (fun x4 hk => ?_) (fun k5 jk5 hk => ?_)
  · refine sx_iconst (v := (0 : Int32)) dc_Sh_write_12 (by decide) ?_
    exact sx_retT (v := (0 : Int32)) dc_Sh_write_13 (Or.inl ⟨rfl, rfl⟩) (by decide) hk.val
  · refine sx_if_lt (tgt := 12) dc_Sh_write_1 (by decide) (fun c6 => ?_) (fun c6 => ?_)
    · replace hk := hk.t c6
      exact jk5 () hk
    · replace hk := hk.f c6
      refine sx_iload_n dc_Sh_write_4 rfl ?_
      refine sx_aload_n dc_Sh_write_5 rfl ?_
      obtain ⟨g7, hk⟩ := hk.g
      refine sx_get (ci := 4) (k := 1) rfl (by decide) wF_Sh_17 g7 dc_Sh_write_6 ?_
      refine sx_icmp_lt (tgt := 14) dc_Sh_write_9 (by decide) (fun c8 => ?_) (fun c8 => ?_)
      · replace hk := hk.t c8
        refine sx_aload_n dc_Sh_write_14 rfl ?_
        refine sx_get (ci := 4) (k := 2) rfl (by decide) wF_Sh_13 g7 dc_Sh_write_15 ?_
        refine sx_iload_n dc_Sh_write_18 rfl ?_
        refine sx_aload_n dc_Sh_write_19 rfl ?_
        refine sx_get (ci := 4) (k := 0) rfl (by decide) wF_Sh_9 g7 dc_Sh_write_20 ?_
        refine hk.j (X := fun x9 => Sx l z d mc ms M_Sh_write 45 [some (xR a0), some (xI a1), some (xI a2)] [xI x9, xI a1, xR (hR h a0 2)] h Ph) (fun x9 hk => ?_) (fun k10 jk10 hk => ?_)
        · obtain ⟨g11, hk⟩ := hk.g
          obtain ⟨g12, hk⟩ := hk.g
          refine sx_iast g11 g12 dc_Sh_write_45 ?_
          refine sx_iconst (v := (1 : Int32)) dc_Sh_write_46 (by decide) ?_
          exact sx_retT (v := (1 : Int32)) dc_Sh_write_47 (Or.inl ⟨rfl, rfl⟩) (by decide) hk.val
        · refine sx_if_ne (tgt := 31) dc_Sh_write_23 (by decide) (fun c13 => ?_) (fun c13 => ?_)
          · replace hk := hk.f c13
            refine sx_aload_n dc_Sh_write_31 rfl ?_
            refine sx_get (ci := 4) (k := 0) rfl (by decide) wF_Sh_9 g7 dc_Sh_write_32 ?_
            refine sx_iconst (v := (1 : Int32)) dc_Sh_write_35 (by decide) ?_
            refine sx_icmp_ne (tgt := 44) dc_Sh_write_36 (by decide) (fun c14 => ?_) (fun c14 => ?_)
            · replace hk := hk.f c14
              refine sx_iload_n dc_Sh_write_44 rfl ?_
              exact jk10 a2 hk
            · replace hk := hk.t c14
              refine sx_iload_n dc_Sh_write_39 rfl ?_
              refine sx_i2s dc_Sh_write_40 ?_
              refine sx_goto (tgt := 45) dc_Sh_write_41 (by decide) ?_
              exact jk10 (jS a2) hk
          · replace hk := hk.t c13
            refine sx_iload_n dc_Sh_write_26 rfl ?_
            refine sx_i2b dc_Sh_write_27 ?_
            refine sx_goto (tgt := 45) dc_Sh_write_28 (by decide) ?_
            exact jk10 (jB a2) hk
      · replace hk := hk.f c8
        exact jk5 () hk
theorem dc_St_init_0 : decode M_St_init.2.1 0 = .ok (.aload_n 0, 1) := by decide +kernel
theorem dc_St_init_1 : decode M_St_init.2.1 1 = .ok (.invokespecial 1, 3) := by decide +kernel
theorem dc_St_init_4 : decode M_St_init.2.1 4 = .ok (.aload_n 0, 1) := by decide +kernel
theorem dc_St_init_5 : decode M_St_init.2.1 5 = .ok (.sipush 128, 3) := by decide +kernel
theorem dc_St_init_8 : decode M_St_init.2.1 8 = .ok (.newarray .boolean, 2) := by decide +kernel
theorem dc_St_init_10 : decode M_St_init.2.1 10 = .ok (.putfield 9, 3) := by decide +kernel
theorem dc_St_init_13 : decode M_St_init.2.1 13 = .ok (.aload_n 0, 1) := by decide +kernel
theorem dc_St_init_14 : decode M_St_init.2.1 14 = .ok (.sipush 128, 3) := by decide +kernel
theorem dc_St_init_17 : decode M_St_init.2.1 17 = .ok (.newarray .boolean, 2) := by decide +kernel
theorem dc_St_init_19 : decode M_St_init.2.1 19 = .ok (.putfield 15, 3) := by decide +kernel
theorem dc_St_init_22 : decode M_St_init.2.1 22 = .ok (.aload_n 0, 1) := by decide +kernel
theorem dc_St_init_23 : decode M_St_init.2.1 23 = .ok (.aload_n 1, 1) := by decide +kernel
theorem dc_St_init_24 : decode M_St_init.2.1 24 = .ok (.putfield 18, 3) := by decide +kernel
theorem dc_St_init_27 : decode M_St_init.2.1 27 = .ok (.return_, 1) := by decide +kernel
def f_St_init (a0 : Nat) (a1 : Nat) (h : xH) : Option (Unit × xH) := gd (hK h a0 = 5) (hp (hNw h 13 128) (fun h5 => gd (hK h5 a0 = 5) (hp (hNw (hRu h5 a0 1 (hN h)) 13 128) (fun h8 => gd (hK h8 a0 = 5) (some ((), hRu (hRu h8 a0 2 (hN (hRu h5 a0 1 (hN h)))) a0 0 a1))))))
theorem t_St_init {l : Launch} {z : xZ} {d mc ms : Nat} {Ph : Option xV → xH → Prop} {a0 : Nat} {a1 : Nat}  {h : xH} (hd : 2 ≤ d) (hmc : 2 ≤ mc) (hms : 256 ≤ ms) (hk : OK (f_St_init a0 a1 h) (fun q => Ph (none) q.2)) : Sx l z d mc ms M_St_init 0 (x_en [xR a0, xR a1] 2) [] h Ph := by
  unfold f_St_init at hk
  refine sx_eq (lc2 := [some (xR a0), some (xR a1)]) rfl rfl ?_
  refine sx_aload_n dc_St_init_0 rfl ?_
  obtain ⟨g4, hk⟩ := hk.g
  refine sx_objInit g4 (by decide) wM_St_1 wO wP (Nat.le_of_ble_eq_true rfl) (by omega) dc_St_init_1 ?_
  refine sx_aload_n dc_St_init_4 rfl ?_
  refine sx_sipush (v := (128 : Int32)) dc_St_init_5 (by decide) ?_
  refine sx_newZ (N := 128) (by decide) (by decide) (by decide) wA_boolean dc_St_init_8 (by omega) (by omega) ?_
  obtain ⟨h5, eh5, hk⟩ := hk.h
  refine sx_hp eh5 ?_
  have g6 : hK h5 (hN h) = 13 := by rw [eh5]; exact (show hK (hNw h 13 128) (hN h) = 13 from if_pos rfl)
  obtain ⟨g7, hk⟩ := hk.g
  refine sx_putRF (ci := 5) (k := 1) rfl (by decide) wF_St_9 rfl (by rfl) rfl g7 rfl dc_St_init_10 ?_
  refine sx_aload_n dc_St_init_13 rfl ?_
  refine sx_sipush (v := (128 : Int32)) dc_St_init_14 (by decide) ?_
  refine sx_newZ (N := 128) (by decide) (by decide) (by decide) wA_boolean dc_St_init_17 (by omega) (by omega) ?_
  obtain ⟨h8, eh8, hk⟩ := hk.h
  refine sx_hp eh8 ?_
  have g9 : hK h8 (hN (hRu h5 a0 1 (hN h))) = 13 := by rw [eh8]; exact (show hK (hNw (hRu h5 a0 1 (hN h)) 13 128) (hN (hRu h5 a0 1 (hN h))) = 13 from if_pos rfl)
  obtain ⟨g10, hk⟩ := hk.g
  refine sx_putRF (ci := 5) (k := 2) rfl (by decide) wF_St_15 rfl (by rfl) rfl g10 rfl dc_St_init_19 ?_
  refine sx_aload_n dc_St_init_22 rfl ?_
  refine sx_aload_n dc_St_init_23 rfl ?_
  refine sx_putRF (ci := 5) (k := 0) rfl (by decide) wF_St_18 rfl (by rfl) rfl g10 rfl dc_St_init_24 ?_
  exact sx_retV dc_St_init_27 rfl hk.val
theorem dc_St_weighThree_0 : decode M_St_weighThree.2.1 0 = .ok (.iconst 1, 1) := by decide +kernel
theorem dc_St_weighThree_1 : decode M_St_weighThree.2.1 1 = .ok (.iload_n 2, 1) := by decide +kernel
theorem dc_St_weighThree_2 : decode M_St_weighThree.2.1 2 = .ok (.ishl, 1) := by decide +kernel
theorem dc_St_weighThree_3 : decode M_St_weighThree.2.1 3 = .ok (.iconst 1, 1) := by decide +kernel
theorem dc_St_weighThree_4 : decode M_St_weighThree.2.1 4 = .ok (.iload_n 3, 1) := by decide +kernel
theorem dc_St_weighThree_5 : decode M_St_weighThree.2.1 5 = .ok (.ishl, 1) := by decide +kernel
theorem dc_St_weighThree_6 : decode M_St_weighThree.2.1 6 = .ok (.ior, 1) := by decide +kernel
theorem dc_St_weighThree_7 : decode M_St_weighThree.2.1 7 = .ok (.iconst 1, 1) := by decide +kernel
theorem dc_St_weighThree_8 : decode M_St_weighThree.2.1 8 = .ok (.iload 4, 2) := by decide +kernel
theorem dc_St_weighThree_10 : decode M_St_weighThree.2.1 10 = .ok (.ishl, 1) := by decide +kernel
theorem dc_St_weighThree_11 : decode M_St_weighThree.2.1 11 = .ok (.ior, 1) := by decide +kernel
theorem dc_St_weighThree_12 : decode M_St_weighThree.2.1 12 = .ok (.istore 5, 2) := by decide +kernel
theorem dc_St_weighThree_14 : decode M_St_weighThree.2.1 14 = .ok (.iload 5, 2) := by decide +kernel
theorem dc_St_weighThree_16 : decode M_St_weighThree.2.1 16 = .ok (.ifCond .lt 11, 3) := by decide +kernel
theorem dc_St_weighThree_19 : decode M_St_weighThree.2.1 19 = .ok (.iload 5, 2) := by decide +kernel
theorem dc_St_weighThree_21 : decode M_St_weighThree.2.1 21 = .ok (.sipush 128, 3) := by decide +kernel
theorem dc_St_weighThree_24 : decode M_St_weighThree.2.1 24 = .ok (.if_icmp .lt 4, 3) := by decide +kernel
theorem dc_St_weighThree_27 : decode M_St_weighThree.2.1 27 = .ok (.return_, 1) := by decide +kernel
theorem dc_St_weighThree_28 : decode M_St_weighThree.2.1 28 = .ok (.aload_n 0, 1) := by decide +kernel
theorem dc_St_weighThree_29 : decode M_St_weighThree.2.1 29 = .ok (.getfield 9, 3) := by decide +kernel
theorem dc_St_weighThree_32 : decode M_St_weighThree.2.1 32 = .ok (.iload 5, 2) := by decide +kernel
theorem dc_St_weighThree_34 : decode M_St_weighThree.2.1 34 = .ok (.aload_n 1, 1) := by decide +kernel
theorem dc_St_weighThree_35 : decode M_St_weighThree.2.1 35 = .ok (.iload_n 2, 1) := by decide +kernel
theorem dc_St_weighThree_36 : decode M_St_weighThree.2.1 36 = .ok (.iload_n 3, 1) := by decide +kernel
theorem dc_St_weighThree_37 : decode M_St_weighThree.2.1 37 = .ok (.iload 4, 2) := by decide +kernel
theorem dc_St_weighThree_39 : decode M_St_weighThree.2.1 39 = .ok (.iconst 3, 1) := by decide +kernel
theorem dc_St_weighThree_40 : decode M_St_weighThree.2.1 40 = .ok (.invokevirtual 34, 3) := by decide +kernel
theorem dc_St_weighThree_43 : decode M_St_weighThree.2.1 43 = .ok (.bastore, 1) := by decide +kernel
theorem dc_St_weighThree_44 : decode M_St_weighThree.2.1 44 = .ok (.aload_n 0, 1) := by decide +kernel
theorem dc_St_weighThree_45 : decode M_St_weighThree.2.1 45 = .ok (.getfield 15, 3) := by decide +kernel
theorem dc_St_weighThree_48 : decode M_St_weighThree.2.1 48 = .ok (.iload 5, 2) := by decide +kernel
theorem dc_St_weighThree_50 : decode M_St_weighThree.2.1 50 = .ok (.aload_n 1, 1) := by decide +kernel
theorem dc_St_weighThree_51 : decode M_St_weighThree.2.1 51 = .ok (.iload_n 2, 1) := by decide +kernel
theorem dc_St_weighThree_52 : decode M_St_weighThree.2.1 52 = .ok (.iload_n 3, 1) := by decide +kernel
theorem dc_St_weighThree_53 : decode M_St_weighThree.2.1 53 = .ok (.iload 4, 2) := by decide +kernel
theorem dc_St_weighThree_55 : decode M_St_weighThree.2.1 55 = .ok (.iconst 0, 1) := by decide +kernel
theorem dc_St_weighThree_56 : decode M_St_weighThree.2.1 56 = .ok (.invokevirtual 34, 3) := by decide +kernel
theorem dc_St_weighThree_59 : decode M_St_weighThree.2.1 59 = .ok (.bastore, 1) := by decide +kernel
theorem dc_St_weighThree_60 : decode M_St_weighThree.2.1 60 = .ok (.return_, 1) := by decide +kernel
def f_St_weighThree (a0 : Nat) (a1 : Nat) (a2 : Int32) (a3 : Int32) (a4 : Int32) (h : xH) : Option (Unit × xH) := jn (fun (x11 : Unit) => some ((), h)) (fun k12 => if (((jShl (1 : Int32) a2) ||| (jShl (1 : Int32) a3)) ||| (jShl (1 : Int32) a4)) < 0 then k12 () else if (((jShl (1 : Int32) a2) ||| (jShl (1 : Int32) a3)) ||| (jShl (1 : Int32) a4)) < (128 : Int32) then gd (hK h a0 = 5) (gd (hK h a1 = 2) (Option.bind (f_Ru_counts a1 a2 a3 a4 (3 : Int32) h) (fun q16 => gd (hK q16.2 (hR h a0 1) = 13) (gd (¬ ((((jShl (1 : Int32) a2) ||| (jShl (1 : Int32) a3)) ||| (jShl (1 : Int32) a4)) < 0 ∨ hL q16.2 (hR h a0 1) ≤ (((jShl (1 : Int32) a2) ||| (jShl (1 : Int32) a3)) ||| (jShl (1 : Int32) a4)).toNatClampNeg)) (gd (hK q16.2 a0 = 5) (gd (hK q16.2 a1 = 2) (Option.bind (f_Ru_counts a1 a2 a3 a4 (0 : Int32) (hIu q16.2 (hR h a0 1) (((jShl (1 : Int32) a2) ||| (jShl (1 : Int32) a3)) ||| (jShl (1 : Int32) a4)).toNatClampNeg (nb q16.1))) (fun q21 => gd (hK q21.2 (hR q16.2 a0 2) = 13) (gd (¬ ((((jShl (1 : Int32) a2) ||| (jShl (1 : Int32) a3)) ||| (jShl (1 : Int32) a4)) < 0 ∨ hL q21.2 (hR q16.2 a0 2) ≤ (((jShl (1 : Int32) a2) ||| (jShl (1 : Int32) a3)) ||| (jShl (1 : Int32) a4)).toNatClampNeg)) (some ((), hIu q21.2 (hR q16.2 a0 2) (((jShl (1 : Int32) a2) ||| (jShl (1 : Int32) a3)) ||| (jShl (1 : Int32) a4)).toNatClampNeg (nb q21.1)))))))))))) else k12 ())
theorem t_St_weighThree {l : Launch} {z : xZ} {d mc ms : Nat} {Ph : Option xV → xH → Prop} {a0 : Nat} {a1 : Nat} {a2 : Int32} {a3 : Int32} {a4 : Int32}  {h : xH} (hd : 5 ≤ d) (hk : OK (f_St_weighThree a0 a1 a2 a3 a4 h) (fun q => Ph (none) q.2)) : Sx l z d mc ms M_St_weighThree 0 (x_en [xR a0, xR a1, xI a2, xI a3, xI a4] 6) [] h Ph := by
  unfold f_St_weighThree at hk
  refine sx_eq (lc2 := [some (xR a0), some (xR a1), some (xI a2), some (xI a3), some (xI a4), none]) rfl rfl ?_
  refine sx_iconst (v := (1 : Int32)) dc_St_weighThree_0 (by decide) ?_
  refine sx_iload_n dc_St_weighThree_1 rfl ?_
  refine sx_ishl dc_St_weighThree_2 ?_
  refine sx_iconst (v := (1 : Int32)) dc_St_weighThree_3 (by decide) ?_
  refine sx_iload_n dc_St_weighThree_4 rfl ?_
  refine sx_ishl dc_St_weighThree_5 ?_
  refine sx_ior dc_St_weighThree_6 ?_
  refine sx_iconst (v := (1 : Int32)) dc_St_weighThree_7 (by decide) ?_
  refine sx_iload dc_St_weighThree_8 rfl ?_
  refine sx_ishl dc_St_weighThree_10 ?_
  refine sx_ior dc_St_weighThree_11 ?_
  refine sx_istore dc_St_weighThree_12 (by decide) (sx_eq (lc2 := [some (xR a0), some (xR a1), some (xI a2), some (xI a3), some (xI a4), some (xI (((jShl (1 : Int32) a2) ||| (jShl (1 : Int32) a3)) ||| (jShl (1 : Int32) a4)))]) rfl rfl ?_)
  refine sx_iload dc_St_weighThree_14 rfl ?_
  refine hk.j (X := fun x11 => Sx l z d mc ms M_St_weighThree 27 [some (xR a0), some (xR a1), some (xI a2), some (xI a3), some (xI a4), some (xI (((jShl (1 : Int32) a2) ||| (jShl (1 : Int32) a3)) ||| (jShl (1 : Int32) a4)))] [] h Ph) (fun x11 hk => ?_) (fun k12 jk12 hk => ?_)
  · exact sx_retV dc_St_weighThree_27 rfl hk.val
  · refine sx_if_lt (tgt := 27) dc_St_weighThree_16 (by decide) (fun c13 => ?_) (fun c13 => ?_)
    · replace hk := hk.t c13
      exact jk12 () hk
    · replace hk := hk.f c13
      refine sx_iload dc_St_weighThree_19 rfl ?_
      refine sx_sipush (v := (128 : Int32)) dc_St_weighThree_21 (by decide) ?_
      refine sx_icmp_lt (tgt := 28) dc_St_weighThree_24 (by decide) (fun c14 => ?_) (fun c14 => ?_)
      · replace hk := hk.t c14
        refine sx_aload_n dc_St_weighThree_28 rfl ?_
        obtain ⟨g15, hk⟩ := hk.g
        refine sx_get (ci := 5) (k := 1) rfl (by decide) wF_St_9 g15 dc_St_weighThree_29 ?_
        refine sx_iload dc_St_weighThree_32 rfl ?_
        refine sx_aload_n dc_St_weighThree_34 rfl ?_
        refine sx_iload_n dc_St_weighThree_35 rfl ?_
        refine sx_iload_n dc_St_weighThree_36 rfl ?_
        refine sx_iload dc_St_weighThree_37 rfl ?_
        refine sx_iconst (v := (3 : Int32)) dc_St_weighThree_39 (by decide) ?_
        obtain ⟨g17, hk⟩ := hk.g
        obtain ⟨q16, eq16, hk⟩ := hk.bind
        refine sx_callV (d2 := d - 1) (mc2 := 0) (ms2 := 0) (as := [xI a2, xI a3, xI a4, xI (3 : Int32)]) mk_Ru_counts rfl (x_rk (ci := 2) g17 rfl rfl) wM_St_34 mi_Ru_counts me_Ru_counts rfl (Nat.le_of_ble_eq_true rfl) (Nat.le_of_ble_eq_true rfl) dc_St_weighThree_40 (by omega) (Nat.zero_le _) (Nat.zero_le _) ?_
        refine t_Ru_counts (by omega) ⟨q16, eq16, ?_⟩
        refine sx_eq0 (lc2 := [some (xR a0), some (xR a1), some (xI a2), some (xI a3), some (xI a4), some (xI (((jShl (1 : Int32) a2) ||| (jShl (1 : Int32) a3)) ||| (jShl (1 : Int32) a4)))]) (st2 := [xI q16.1, xI (((jShl (1 : Int32) a2) ||| (jShl (1 : Int32) a3)) ||| (jShl (1 : Int32) a4)), xR (hR h a0 1)]) rfl rfl ?_
        obtain ⟨g18, hk⟩ := hk.g
        obtain ⟨g19, hk⟩ := hk.g
        refine sx_zast g18 g19 dc_St_weighThree_43 ?_
        refine sx_aload_n dc_St_weighThree_44 rfl ?_
        obtain ⟨g20, hk⟩ := hk.g
        refine sx_get (ci := 5) (k := 2) rfl (by decide) wF_St_15 g20 dc_St_weighThree_45 ?_
        refine sx_iload dc_St_weighThree_48 rfl ?_
        refine sx_aload_n dc_St_weighThree_50 rfl ?_
        refine sx_iload_n dc_St_weighThree_51 rfl ?_
        refine sx_iload_n dc_St_weighThree_52 rfl ?_
        refine sx_iload dc_St_weighThree_53 rfl ?_
        refine sx_iconst (v := (0 : Int32)) dc_St_weighThree_55 (by decide) ?_
        obtain ⟨g22, hk⟩ := hk.g
        obtain ⟨q21, eq21, hk⟩ := hk.bind
        refine sx_callV (d2 := d - 1) (mc2 := 0) (ms2 := 0) (as := [xI a2, xI a3, xI a4, xI (0 : Int32)]) mk_Ru_counts rfl (x_rk (ci := 2) g22 rfl rfl) wM_St_34 mi_Ru_counts me_Ru_counts rfl (Nat.le_of_ble_eq_true rfl) (Nat.le_of_ble_eq_true rfl) dc_St_weighThree_56 (by omega) (Nat.zero_le _) (Nat.zero_le _) ?_
        refine t_Ru_counts (by omega) ⟨q21, eq21, ?_⟩
        refine sx_eq0 (lc2 := [some (xR a0), some (xR a1), some (xI a2), some (xI a3), some (xI a4), some (xI (((jShl (1 : Int32) a2) ||| (jShl (1 : Int32) a3)) ||| (jShl (1 : Int32) a4)))]) (st2 := [xI q21.1, xI (((jShl (1 : Int32) a2) ||| (jShl (1 : Int32) a3)) ||| (jShl (1 : Int32) a4)), xR (hR q16.2 a0 2)]) rfl rfl ?_
        obtain ⟨g23, hk⟩ := hk.g
        obtain ⟨g24, hk⟩ := hk.g
        refine sx_zast g23 g24 dc_St_weighThree_59 ?_
        exact sx_retV dc_St_weighThree_60 rfl hk.val
      · replace hk := hk.f c14
        exact jk12 () hk
theorem dc_St_weigh_0 : decode M_St_weigh.2.1 0 = .ok (.aload_n 0, 1) := by decide +kernel
theorem dc_St_weigh_1 : decode M_St_weigh.2.1 1 = .ok (.iload_n 2, 1) := by decide +kernel
theorem dc_St_weigh_2 : decode M_St_weigh.2.1 2 = .ok (.invokestatic 22, 3) := by decide +kernel
theorem dc_St_weigh_5 : decode M_St_weigh.2.1 5 = .ok (.putfield 26, 3) := by decide +kernel
theorem dc_St_weigh_8 : decode M_St_weigh.2.1 8 = .ok (.iconst 2, 1) := by decide +kernel
theorem dc_St_weigh_9 : decode M_St_weigh.2.1 9 = .ok (.istore_n 3, 1) := by decide +kernel
theorem dc_St_weigh_10 : decode M_St_weigh.2.1 10 = .ok (.iload_n 3, 1) := by decide +kernel
theorem dc_St_weigh_11 : decode M_St_weigh.2.1 11 = .ok (.iload_n 2, 1) := by decide +kernel
theorem dc_St_weigh_12 : decode M_St_weigh.2.1 12 = .ok (.if_icmp .ge 50, 3) := by decide +kernel
theorem dc_St_weigh_15 : decode M_St_weigh.2.1 15 = .ok (.iconst 1, 1) := by decide +kernel
theorem dc_St_weigh_16 : decode M_St_weigh.2.1 16 = .ok (.istore 4, 2) := by decide +kernel
theorem dc_St_weigh_18 : decode M_St_weigh.2.1 18 = .ok (.iload 4, 2) := by decide +kernel
theorem dc_St_weigh_20 : decode M_St_weigh.2.1 20 = .ok (.iload_n 3, 1) := by decide +kernel
theorem dc_St_weigh_21 : decode M_St_weigh.2.1 21 = .ok (.if_icmp .ge 35, 3) := by decide +kernel
theorem dc_St_weigh_24 : decode M_St_weigh.2.1 24 = .ok (.iconst 0, 1) := by decide +kernel
theorem dc_St_weigh_25 : decode M_St_weigh.2.1 25 = .ok (.istore 5, 2) := by decide +kernel
theorem dc_St_weigh_27 : decode M_St_weigh.2.1 27 = .ok (.iload 5, 2) := by decide +kernel
theorem dc_St_weigh_29 : decode M_St_weigh.2.1 29 = .ok (.iload 4, 2) := by decide +kernel
theorem dc_St_weigh_31 : decode M_St_weigh.2.1 31 = .ok (.if_icmp .ge 19, 3) := by decide +kernel
theorem dc_St_weigh_34 : decode M_St_weigh.2.1 34 = .ok (.aload_n 0, 1) := by decide +kernel
theorem dc_St_weigh_35 : decode M_St_weigh.2.1 35 = .ok (.aload_n 1, 1) := by decide +kernel
theorem dc_St_weigh_36 : decode M_St_weigh.2.1 36 = .ok (.iload 5, 2) := by decide +kernel
theorem dc_St_weigh_38 : decode M_St_weigh.2.1 38 = .ok (.iload 4, 2) := by decide +kernel
theorem dc_St_weigh_40 : decode M_St_weigh.2.1 40 = .ok (.iload_n 3, 1) := by decide +kernel
theorem dc_St_weigh_41 : decode M_St_weigh.2.1 41 = .ok (.invokevirtual 30, 3) := by decide +kernel
theorem dc_St_weigh_44 : decode M_St_weigh.2.1 44 = .ok (.iinc 5 1, 3) := by decide +kernel
theorem dc_St_weigh_47 : decode M_St_weigh.2.1 47 = .ok (.goto (-20), 3) := by decide +kernel
theorem dc_St_weigh_50 : decode M_St_weigh.2.1 50 = .ok (.iinc 4 1, 3) := by decide +kernel
theorem dc_St_weigh_53 : decode M_St_weigh.2.1 53 = .ok (.goto (-35), 3) := by decide +kernel
theorem dc_St_weigh_56 : decode M_St_weigh.2.1 56 = .ok (.iinc 3 1, 3) := by decide +kernel
theorem dc_St_weigh_59 : decode M_St_weigh.2.1 59 = .ok (.goto (-49), 3) := by decide +kernel
theorem dc_St_weigh_62 : decode M_St_weigh.2.1 62 = .ok (.return_, 1) := by decide +kernel
def f_St_weigh_L27 (a0 : Nat) (a1 : Nat) (a2 : Int32) (a3 : Int32) (a4 : Int32) : Nat → Int32 → xH → (Int32 → xH → Option (Unit × xH)) → Option (Unit × xH)
  | 0, _, _, _ => none
  | n + 1, a5, h, K => if a4 ≤ a5 then K a5 h else gd (hK h a0 = 5) (Option.bind (f_St_weighThree a0 a1 a5 a4 a3 h) (fun q9 => f_St_weigh_L27 a0 a1 a2 a3 a4 n (a5 + (1 : Int32)) q9.2 K))
def f_St_weigh_L18 (a0 : Nat) (a1 : Nat) (a2 : Int32) (a3 : Int32) : Nat → Int32 → xH → (Int32 → xH → Option (Unit × xH)) → Option (Unit × xH)
  | 0, _, _, _ => none
  | n + 1, a4, h, K => if a3 ≤ a4 then K a4 h else f_St_weigh_L27 a0 a1 a2 a3 a4 fu (0 : Int32) h (fun v11 h12 => f_St_weigh_L18 a0 a1 a2 a3 n (a4 + (1 : Int32)) h12 K)
def f_St_weigh_L10 (a0 : Nat) (a1 : Nat) (a2 : Int32) : Nat → Int32 → xH → (Int32 → xH → Option (Unit × xH)) → Option (Unit × xH)
  | 0, _, _, _ => none
  | n + 1, a3, h, K => if a2 ≤ a3 then K a3 h else f_St_weigh_L18 a0 a1 a2 a3 fu (1 : Int32) h (fun v13 h14 => f_St_weigh_L10 a0 a1 a2 n (a3 + (1 : Int32)) h14 K)
def f_St_weigh (a0 : Nat) (a1 : Nat) (a2 : Int32) (h : xH) : Option (Unit × xH) := Option.bind (f_Se_threesAmong a2 h) (fun q4 => gd (hK q4.2 a0 = 5) (f_St_weigh_L10 a0 a1 a2 fu (2 : Int32) (hIu q4.2 a0 3 q4.1) (fun v15 h16 => some ((), h16))))
theorem t_St_weigh_L27 {l : Launch} {z : xZ} {d mc ms : Nat} {Ph : Option xV → xH → Prop} {a0 : Nat} {a1 : Nat} {a2 : Int32} {a3 : Int32} {a4 : Int32}  (hd : 6 ≤ d) : ∀ (n : Nat) (a5 : Int32) (h : xH) (K : Int32 → xH → Option (Unit × xH)), OK (f_St_weigh_L27 a0 a1 a2 a3 a4 n a5 h K) (fun q => Ph (none) q.2) → (∀ (a5 : Int32) (h : xH), OK (K a5 h) (fun q => Ph (none) q.2) → Sx l z d mc ms M_St_weigh 50 [some (xR a0), some (xR a1), some (xI a2), some (xI a3), some (xI a4), some (xI a5)] [] h Ph) → Sx l z d mc ms M_St_weigh 27 [some (xR a0), some (xR a1), some (xI a2), some (xI a3), some (xI a4), some (xI a5)] [] h Ph := by
  intro n
  induction n with
  | zero => intro a5 h K hk hE; exact hk.no
  | succ n ih =>
    intro a5 h K hk hE
    rw [f_St_weigh_L27] at hk
    refine sx_iload dc_St_weigh_27 rfl ?_
    refine sx_iload dc_St_weigh_29 rfl ?_
    refine sx_icmp_ge (tgt := 50) dc_St_weigh_31 (by decide) (fun c8 => ?_) (fun c8 => ?_)
    · replace hk := hk.t c8
      exact hE a5 h hk
    · replace hk := hk.f c8
      refine sx_aload_n dc_St_weigh_34 rfl ?_
      refine sx_aload_n dc_St_weigh_35 rfl ?_
      refine sx_iload dc_St_weigh_36 rfl ?_
      refine sx_iload dc_St_weigh_38 rfl ?_
      refine sx_iload_n dc_St_weigh_40 rfl ?_
      obtain ⟨g10, hk⟩ := hk.g
      obtain ⟨q9, eq9, hk⟩ := hk.bind
      refine sx_callV (d2 := d - 1) (mc2 := 0) (ms2 := 0) (as := [xR a1, xI a5, xI a4, xI a3]) mk_St_weighThree rfl (x_rk (ci := 5) g10 rfl rfl) wM_St_30 mi_St_weighThree me_St_weighThree rfl (Nat.le_of_ble_eq_true rfl) (Nat.le_of_ble_eq_true rfl) dc_St_weigh_41 (by omega) (Nat.zero_le _) (Nat.zero_le _) ?_
      refine t_St_weighThree (by omega) ⟨q9, eq9, ?_⟩
      refine sx_eq0 (lc2 := [some (xR a0), some (xR a1), some (xI a2), some (xI a3), some (xI a4), some (xI a5)]) (st2 := []) rfl rfl ?_
      refine sx_iinc (v := (1 : Int32)) dc_St_weigh_44 rfl (by decide) (by decide) (sx_eq (lc2 := [some (xR a0), some (xR a1), some (xI a2), some (xI a3), some (xI a4), some (xI (a5 + (1 : Int32)))]) rfl rfl ?_)
      refine sx_goto (tgt := 27) dc_St_weigh_47 (by decide) ?_
      exact ih (a5 + (1 : Int32)) q9.2 _ hk hE
theorem t_St_weigh_L18 {l : Launch} {z : xZ} {d mc ms : Nat} {Ph : Option xV → xH → Prop} {a0 : Nat} {a1 : Nat} {a2 : Int32} {a3 : Int32}  (hd : 6 ≤ d) : ∀ (n : Nat) (a4 : Int32) (h : xH) (K : Int32 → xH → Option (Unit × xH)), OK (f_St_weigh_L18 a0 a1 a2 a3 n a4 h K) (fun q => Ph (none) q.2) → (∀ (a4 : Int32) (h : xH), OK (K a4 h) (fun q => Ph (none) q.2) → Sx l z d mc ms M_St_weigh 56 [some (xR a0), some (xR a1), some (xI a2), some (xI a3), some (xI a4), none] [] h Ph) → Sx l z d mc ms M_St_weigh 18 [some (xR a0), some (xR a1), some (xI a2), some (xI a3), some (xI a4), none] [] h Ph := by
  intro n
  induction n with
  | zero => intro a4 h K hk hE; exact hk.no
  | succ n ih =>
    intro a4 h K hk hE
    rw [f_St_weigh_L18] at hk
    refine sx_iload dc_St_weigh_18 rfl ?_
    refine sx_iload_n dc_St_weigh_20 rfl ?_
    refine sx_icmp_ge (tgt := 56) dc_St_weigh_21 (by decide) (fun c7 => ?_) (fun c7 => ?_)
    · replace hk := hk.t c7
      exact hE a4 h hk
    · replace hk := hk.f c7
      refine sx_iconst (v := (0 : Int32)) dc_St_weigh_24 (by decide) ?_
      refine sx_istore dc_St_weigh_25 (by decide) (sx_eq (lc2 := [some (xR a0), some (xR a1), some (xI a2), some (xI a3), some (xI a4), some (xI (0 : Int32))]) rfl rfl ?_)
      refine t_St_weigh_L27 (by omega) _ _ _ _ hk (fun v11 h12 hk => ?_)
      refine sx_iinc (v := (1 : Int32)) dc_St_weigh_50 rfl (by decide) (by decide) (sx_eq (lc2 := [some (xR a0), some (xR a1), some (xI a2), some (xI a3), some (xI (a4 + (1 : Int32))), some (xI v11)]) rfl rfl ?_)
      refine sx_goto (tgt := 18) dc_St_weigh_53 (by decide) ?_
      exact sx_less (by simp [x_le]) (ih (a4 + (1 : Int32)) h12 _ hk hE)
theorem t_St_weigh_L10 {l : Launch} {z : xZ} {d mc ms : Nat} {Ph : Option xV → xH → Prop} {a0 : Nat} {a1 : Nat} {a2 : Int32}  (hd : 6 ≤ d) : ∀ (n : Nat) (a3 : Int32) (h : xH) (K : Int32 → xH → Option (Unit × xH)), OK (f_St_weigh_L10 a0 a1 a2 n a3 h K) (fun q => Ph (none) q.2) → (∀ (a3 : Int32) (h : xH), OK (K a3 h) (fun q => Ph (none) q.2) → Sx l z d mc ms M_St_weigh 62 [some (xR a0), some (xR a1), some (xI a2), some (xI a3), none, none] [] h Ph) → Sx l z d mc ms M_St_weigh 10 [some (xR a0), some (xR a1), some (xI a2), some (xI a3), none, none] [] h Ph := by
  intro n
  induction n with
  | zero => intro a3 h K hk hE; exact hk.no
  | succ n ih =>
    intro a3 h K hk hE
    rw [f_St_weigh_L10] at hk
    refine sx_iload_n dc_St_weigh_10 rfl ?_
    refine sx_iload_n dc_St_weigh_11 rfl ?_
    refine sx_icmp_ge (tgt := 62) dc_St_weigh_12 (by decide) (fun c6 => ?_) (fun c6 => ?_)
    · replace hk := hk.t c6
      exact hE a3 h hk
    · replace hk := hk.f c6
      refine sx_iconst (v := (1 : Int32)) dc_St_weigh_15 (by decide) ?_
      refine sx_istore dc_St_weigh_16 (by decide) (sx_eq (lc2 := [some (xR a0), some (xR a1), some (xI a2), some (xI a3), some (xI (1 : Int32)), none]) rfl rfl ?_)
      refine t_St_weigh_L18 (by omega) _ _ _ _ hk (fun v13 h14 hk => ?_)
      refine sx_iinc (v := (1 : Int32)) dc_St_weigh_56 rfl (by decide) (by decide) (sx_eq (lc2 := [some (xR a0), some (xR a1), some (xI a2), some (xI (a3 + (1 : Int32))), some (xI v13), none]) rfl rfl ?_)
      refine sx_goto (tgt := 10) dc_St_weigh_59 (by decide) ?_
      exact sx_less (by simp [x_le]) (ih (a3 + (1 : Int32)) h14 _ hk hE)
theorem t_St_weigh {l : Launch} {z : xZ} {d mc ms : Nat} {Ph : Option xV → xH → Prop} {a0 : Nat} {a1 : Nat} {a2 : Int32}  {h : xH} (hd : 6 ≤ d) (hk : OK (f_St_weigh a0 a1 a2 h) (fun q => Ph (none) q.2)) : Sx l z d mc ms M_St_weigh 0 (x_en [xR a0, xR a1, xI a2] 6) [] h Ph := by
  unfold f_St_weigh at hk
  refine sx_eq (lc2 := [some (xR a0), some (xR a1), some (xI a2), none, none, none]) rfl rfl ?_
  refine sx_aload_n dc_St_weigh_0 rfl ?_
  refine sx_iload_n dc_St_weigh_1 rfl ?_
  obtain ⟨q4, eq4, hk⟩ := hk.bind
  refine sx_callS (d2 := d - 1) (mc2 := 0) (ms2 := 0) (as := [xI a2]) mk_Se_threesAmong rfl wM_St_22 mt_Se_threesAmong rfl (Nat.le_of_ble_eq_true rfl) (Nat.le_of_ble_eq_true rfl) dc_St_weigh_2 (by omega) (Nat.zero_le _) (Nat.zero_le _) ?_
  refine t_Se_threesAmong (by omega) ⟨q4, eq4, ?_⟩
  refine sx_eq0 (lc2 := [some (xR a0), some (xR a1), some (xI a2), none, none, none]) (st2 := [xI q4.1, xR a0]) rfl rfl ?_
  obtain ⟨g5, hk⟩ := hk.g
  refine sx_putI (ci := 5) (k := 3) rfl (by decide) wF_St_26 rfl g5 (Or.inl rfl) dc_St_weigh_5 ?_
  refine sx_iconst (v := (2 : Int32)) dc_St_weigh_8 (by decide) ?_
  refine sx_istore_n dc_St_weigh_9 (by decide) (sx_eq (lc2 := [some (xR a0), some (xR a1), some (xI a2), some (xI (2 : Int32)), none, none]) rfl rfl ?_)
  refine t_St_weigh_L10 (by omega) _ _ _ _ hk (fun v15 h16 hk => ?_)
  exact sx_retV dc_St_weigh_62 rfl hk.val
theorem dc_St_howMany_0 : decode M_St_howMany.2.1 0 = .ok (.iconst 0, 1) := by decide +kernel
theorem dc_St_howMany_1 : decode M_St_howMany.2.1 1 = .ok (.istore_n 3, 1) := by decide +kernel
theorem dc_St_howMany_2 : decode M_St_howMany.2.1 2 = .ok (.iconst 0, 1) := by decide +kernel
theorem dc_St_howMany_3 : decode M_St_howMany.2.1 3 = .ok (.istore 4, 2) := by decide +kernel
theorem dc_St_howMany_5 : decode M_St_howMany.2.1 5 = .ok (.iload 4, 2) := by decide +kernel
theorem dc_St_howMany_7 : decode M_St_howMany.2.1 7 = .ok (.aload_n 0, 1) := by decide +kernel
theorem dc_St_howMany_8 : decode M_St_howMany.2.1 8 = .ok (.getfield 26, 3) := by decide +kernel
theorem dc_St_howMany_11 : decode M_St_howMany.2.1 11 = .ok (.if_icmp .ge 30, 3) := by decide +kernel
theorem dc_St_howMany_14 : decode M_St_howMany.2.1 14 = .ok (.aload_n 0, 1) := by decide +kernel
theorem dc_St_howMany_15 : decode M_St_howMany.2.1 15 = .ok (.aload_n 0, 1) := by decide +kernel
theorem dc_St_howMany_16 : decode M_St_howMany.2.1 16 = .ok (.getfield 18, 3) := by decide +kernel
theorem dc_St_howMany_19 : decode M_St_howMany.2.1 19 = .ok (.iload 4, 2) := by decide +kernel
theorem dc_St_howMany_21 : decode M_St_howMany.2.1 21 = .ok (.invokevirtual 43, 3) := by decide +kernel
theorem dc_St_howMany_24 : decode M_St_howMany.2.1 24 = .ok (.iload_n 1, 1) := by decide +kernel
theorem dc_St_howMany_25 : decode M_St_howMany.2.1 25 = .ok (.iload_n 2, 1) := by decide +kernel
theorem dc_St_howMany_26 : decode M_St_howMany.2.1 26 = .ok (.invokevirtual 46, 3) := by decide +kernel
theorem dc_St_howMany_29 : decode M_St_howMany.2.1 29 = .ok (.ifCond .eq 6, 3) := by decide +kernel
theorem dc_St_howMany_32 : decode M_St_howMany.2.1 32 = .ok (.iinc 3 1, 3) := by decide +kernel
theorem dc_St_howMany_35 : decode M_St_howMany.2.1 35 = .ok (.iinc 4 1, 3) := by decide +kernel
theorem dc_St_howMany_38 : decode M_St_howMany.2.1 38 = .ok (.goto (-33), 3) := by decide +kernel
theorem dc_St_howMany_41 : decode M_St_howMany.2.1 41 = .ok (.iload_n 3, 1) := by decide +kernel
theorem dc_St_howMany_42 : decode M_St_howMany.2.1 42 = .ok (.ireturn, 1) := by decide +kernel
def f_St_howMany_L5 (a0 : Nat) (a1 : Int32) (a2 : Int32) : Nat → Int32 → Int32 → xH → (Int32 → Int32 → xH → Option (Int32 × xH)) → Option (Int32 × xH)
  | 0, _, _, _, _ => none
  | n + 1, a3, a4, h, K => gd (hK h a0 = 5) (if (hI h a0 3) ≤ a4 then K a3 a4 h else gd (hK h (hR h a0 0) = 3) (Option.bind (f_Se_three (hR h a0 0) a4 h) (fun q8 => gd (hK q8.2 a0 = 5) (Option.bind (f_St_stands a0 q8.1 a1 a2 q8.2) (fun q10 => f_St_howMany_L5 a0 a1 a2 n (if q10.1 = 0 then a3 else a3 + (1 : Int32)) (a4 + (1 : Int32)) q10.2 K)))))
def f_St_howMany (a0 : Nat) (a1 : Int32) (a2 : Int32) (h : xH) : Option (Int32 × xH) := f_St_howMany_L5 a0 a1 a2 fu (0 : Int32) (0 : Int32) h (fun v14 v15 h16 => some (v14, h16))
theorem t_St_howMany_L5 {l : Launch} {z : xZ} {d mc ms : Nat} {Ph : Option xV → xH → Prop} {a0 : Nat} {a1 : Int32} {a2 : Int32}  (hd : 3 ≤ d) : ∀ (n : Nat) (a3 : Int32) (a4 : Int32) (h : xH) (K : Int32 → Int32 → xH → Option (Int32 × xH)), OK (f_St_howMany_L5 a0 a1 a2 n a3 a4 h K) (fun q => Ph (some (xI q.1)) q.2) → (∀ (a3 : Int32) (a4 : Int32) (h : xH), OK (K a3 a4 h) (fun q => Ph (some (xI q.1)) q.2) → Sx l z d mc ms M_St_howMany 41 [some (xR a0), some (xI a1), some (xI a2), some (xI a3), some (xI a4)] [] h Ph) → Sx l z d mc ms M_St_howMany 5 [some (xR a0), some (xI a1), some (xI a2), some (xI a3), some (xI a4)] [] h Ph := by
  intro n
  induction n with
  | zero => intro a3 a4 h K hk hE; exact hk.no
  | succ n ih =>
    intro a3 a4 h K hk hE
    rw [f_St_howMany_L5] at hk
    refine sx_iload dc_St_howMany_5 rfl ?_
    refine sx_aload_n dc_St_howMany_7 rfl ?_
    obtain ⟨g6, hk⟩ := hk.g
    refine sx_get (ci := 5) (k := 3) rfl (by decide) wF_St_26 g6 dc_St_howMany_8 ?_
    refine sx_icmp_ge (tgt := 41) dc_St_howMany_11 (by decide) (fun c7 => ?_) (fun c7 => ?_)
    · replace hk := hk.t c7
      exact hE a3 a4 h hk
    · replace hk := hk.f c7
      refine sx_aload_n dc_St_howMany_14 rfl ?_
      refine sx_aload_n dc_St_howMany_15 rfl ?_
      refine sx_get (ci := 5) (k := 0) rfl (by decide) wF_St_18 g6 dc_St_howMany_16 ?_
      refine sx_iload dc_St_howMany_19 rfl ?_
      obtain ⟨g9, hk⟩ := hk.g
      obtain ⟨q8, eq8, hk⟩ := hk.bind
      refine sx_callV (d2 := d - 1) (mc2 := 0) (ms2 := 0) (as := [xI a4]) mk_Se_three rfl (x_rk (ci := 3) g9 rfl rfl) wM_St_43 mi_Se_three me_Se_three rfl (Nat.le_of_ble_eq_true rfl) (Nat.le_of_ble_eq_true rfl) dc_St_howMany_21 (by omega) (Nat.zero_le _) (Nat.zero_le _) ?_
      refine t_Se_three (by omega) ⟨q8, eq8, ?_⟩
      refine sx_eq0 (lc2 := [some (xR a0), some (xI a1), some (xI a2), some (xI a3), some (xI a4)]) (st2 := [xI q8.1, xR a0]) rfl rfl ?_
      refine sx_iload_n dc_St_howMany_24 rfl ?_
      refine sx_iload_n dc_St_howMany_25 rfl ?_
      obtain ⟨g11, hk⟩ := hk.g
      obtain ⟨q10, eq10, hk⟩ := hk.bind
      refine sx_callV (d2 := d - 1) (mc2 := 0) (ms2 := 0) (as := [xI q8.1, xI a1, xI a2]) mk_St_stands rfl (x_rk (ci := 5) g11 rfl rfl) wM_St_46 mi_St_stands me_St_stands rfl (Nat.le_of_ble_eq_true rfl) (Nat.le_of_ble_eq_true rfl) dc_St_howMany_26 (by omega) (Nat.zero_le _) (Nat.zero_le _) ?_
      refine t_St_stands (by omega) ⟨q10, eq10, ?_⟩
      refine sx_eq0 (lc2 := [some (xR a0), some (xI a1), some (xI a2), some (xI a3), some (xI a4)]) (st2 := [xI q10.1]) rfl rfl ?_
      refine sx_mg (pc2 := 35) (lc2 := [some (xR a0), some (xI a1), some (xI a2), some (xI (if q10.1 = 0 then a3 else a3 + (1 : Int32))), some (xI a4)]) (st2 := []) (h2 := q10.2) ?_ (fun J12 => ?_)
      · refine sx_iinc (v := (1 : Int32)) dc_St_howMany_35 rfl (by decide) (by decide) (sx_eq (lc2 := [some (xR a0), some (xI a1), some (xI a2), some (xI (if q10.1 = 0 then a3 else a3 + (1 : Int32))), some (xI (a4 + (1 : Int32)))]) rfl rfl ?_)
        refine sx_goto (tgt := 5) dc_St_howMany_38 (by decide) ?_
        exact ih (if q10.1 = 0 then a3 else a3 + (1 : Int32)) (a4 + (1 : Int32)) q10.2 _ hk hE
      · refine sx_if_eq (tgt := 35) dc_St_howMany_29 (by decide) (fun c13 => ?_) (fun c13 => ?_)
        · try simp only [if_pos c13] at J12
          exact J12
        · try simp only [if_neg c13] at J12
          refine sx_iinc (v := (1 : Int32)) dc_St_howMany_32 rfl (by decide) (by decide) (sx_eq (lc2 := [some (xR a0), some (xI a1), some (xI a2), some (xI (a3 + (1 : Int32))), some (xI a4)]) rfl rfl ?_)
          exact J12
theorem t_St_howMany {l : Launch} {z : xZ} {d mc ms : Nat} {Ph : Option xV → xH → Prop} {a0 : Nat} {a1 : Int32} {a2 : Int32}  {h : xH} (hd : 3 ≤ d) (hk : OK (f_St_howMany a0 a1 a2 h) (fun q => Ph (some (xI q.1)) q.2)) : Sx l z d mc ms M_St_howMany 0 (x_en [xR a0, xI a1, xI a2] 5) [] h Ph := by
  unfold f_St_howMany at hk
  refine sx_eq (lc2 := [some (xR a0), some (xI a1), some (xI a2), none, none]) rfl rfl ?_
  refine sx_iconst (v := (0 : Int32)) dc_St_howMany_0 (by decide) ?_
  refine sx_istore_n dc_St_howMany_1 (by decide) (sx_eq (lc2 := [some (xR a0), some (xI a1), some (xI a2), some (xI (0 : Int32)), none]) rfl rfl ?_)
  refine sx_iconst (v := (0 : Int32)) dc_St_howMany_2 (by decide) ?_
  refine sx_istore dc_St_howMany_3 (by decide) (sx_eq (lc2 := [some (xR a0), some (xI a1), some (xI a2), some (xI (0 : Int32)), some (xI (0 : Int32))]) rfl rfl ?_)
  refine t_St_howMany_L5 (by omega) _ _ _ _ _ hk (fun v14 v15 h16 hk => ?_)
  refine sx_iload_n dc_St_howMany_41 rfl ?_
  exact sx_retI dc_St_howMany_42 rfl hk.val
theorem dc_St_howManyWith_0 : decode M_St_howManyWith.2.1 0 = .ok (.iconst 1, 1) := by decide +kernel
theorem dc_St_howManyWith_1 : decode M_St_howManyWith.2.1 1 = .ok (.aload_n 0, 1) := by decide +kernel
theorem dc_St_howManyWith_2 : decode M_St_howManyWith.2.1 2 = .ok (.getfield 18, 3) := by decide +kernel
theorem dc_St_howManyWith_5 : decode M_St_howManyWith.2.1 5 = .ok (.iload_n 1, 1) := by decide +kernel
theorem dc_St_howManyWith_6 : decode M_St_howManyWith.2.1 6 = .ok (.invokevirtual 50, 3) := by decide +kernel
theorem dc_St_howManyWith_9 : decode M_St_howManyWith.2.1 9 = .ok (.ishl, 1) := by decide +kernel
theorem dc_St_howManyWith_10 : decode M_St_howManyWith.2.1 10 = .ok (.iconst 1, 1) := by decide +kernel
theorem dc_St_howManyWith_11 : decode M_St_howManyWith.2.1 11 = .ok (.aload_n 0, 1) := by decide +kernel
theorem dc_St_howManyWith_12 : decode M_St_howManyWith.2.1 12 = .ok (.getfield 18, 3) := by decide +kernel
theorem dc_St_howManyWith_15 : decode M_St_howManyWith.2.1 15 = .ok (.iload_n 1, 1) := by decide +kernel
theorem dc_St_howManyWith_16 : decode M_St_howManyWith.2.1 16 = .ok (.invokevirtual 53, 3) := by decide +kernel
theorem dc_St_howManyWith_19 : decode M_St_howManyWith.2.1 19 = .ok (.ishl, 1) := by decide +kernel
theorem dc_St_howManyWith_20 : decode M_St_howManyWith.2.1 20 = .ok (.ior, 1) := by decide +kernel
theorem dc_St_howManyWith_21 : decode M_St_howManyWith.2.1 21 = .ok (.istore 4, 2) := by decide +kernel
theorem dc_St_howManyWith_23 : decode M_St_howManyWith.2.1 23 = .ok (.iconst 0, 1) := by decide +kernel
theorem dc_St_howManyWith_24 : decode M_St_howManyWith.2.1 24 = .ok (.istore 5, 2) := by decide +kernel
theorem dc_St_howManyWith_26 : decode M_St_howManyWith.2.1 26 = .ok (.iconst 0, 1) := by decide +kernel
theorem dc_St_howManyWith_27 : decode M_St_howManyWith.2.1 27 = .ok (.istore 6, 2) := by decide +kernel
theorem dc_St_howManyWith_29 : decode M_St_howManyWith.2.1 29 = .ok (.iload 6, 2) := by decide +kernel
theorem dc_St_howManyWith_31 : decode M_St_howManyWith.2.1 31 = .ok (.bipush 7, 2) := by decide +kernel
theorem dc_St_howManyWith_33 : decode M_St_howManyWith.2.1 33 = .ok (.if_icmp .ge 38, 3) := by decide +kernel
theorem dc_St_howManyWith_36 : decode M_St_howManyWith.2.1 36 = .ok (.iload 4, 2) := by decide +kernel
theorem dc_St_howManyWith_38 : decode M_St_howManyWith.2.1 38 = .ok (.iload 6, 2) := by decide +kernel
theorem dc_St_howManyWith_40 : decode M_St_howManyWith.2.1 40 = .ok (.ishr, 1) := by decide +kernel
theorem dc_St_howManyWith_41 : decode M_St_howManyWith.2.1 41 = .ok (.iconst 1, 1) := by decide +kernel
theorem dc_St_howManyWith_42 : decode M_St_howManyWith.2.1 42 = .ok (.iand, 1) := by decide +kernel
theorem dc_St_howManyWith_43 : decode M_St_howManyWith.2.1 43 = .ok (.ifCond .ne 22, 3) := by decide +kernel
theorem dc_St_howManyWith_46 : decode M_St_howManyWith.2.1 46 = .ok (.aload_n 0, 1) := by decide +kernel
theorem dc_St_howManyWith_47 : decode M_St_howManyWith.2.1 47 = .ok (.iload 4, 2) := by decide +kernel
theorem dc_St_howManyWith_49 : decode M_St_howManyWith.2.1 49 = .ok (.iconst 1, 1) := by decide +kernel
theorem dc_St_howManyWith_50 : decode M_St_howManyWith.2.1 50 = .ok (.iload 6, 2) := by decide +kernel
theorem dc_St_howManyWith_52 : decode M_St_howManyWith.2.1 52 = .ok (.ishl, 1) := by decide +kernel
theorem dc_St_howManyWith_53 : decode M_St_howManyWith.2.1 53 = .ok (.ior, 1) := by decide +kernel
theorem dc_St_howManyWith_54 : decode M_St_howManyWith.2.1 54 = .ok (.iload_n 2, 1) := by decide +kernel
theorem dc_St_howManyWith_55 : decode M_St_howManyWith.2.1 55 = .ok (.iload_n 3, 1) := by decide +kernel
theorem dc_St_howManyWith_56 : decode M_St_howManyWith.2.1 56 = .ok (.invokevirtual 46, 3) := by decide +kernel
theorem dc_St_howManyWith_59 : decode M_St_howManyWith.2.1 59 = .ok (.ifCond .eq 6, 3) := by decide +kernel
theorem dc_St_howManyWith_62 : decode M_St_howManyWith.2.1 62 = .ok (.iinc 5 1, 3) := by decide +kernel
theorem dc_St_howManyWith_65 : decode M_St_howManyWith.2.1 65 = .ok (.iinc 6 1, 3) := by decide +kernel
theorem dc_St_howManyWith_68 : decode M_St_howManyWith.2.1 68 = .ok (.goto (-39), 3) := by decide +kernel
theorem dc_St_howManyWith_71 : decode M_St_howManyWith.2.1 71 = .ok (.iload 5, 2) := by decide +kernel
theorem dc_St_howManyWith_73 : decode M_St_howManyWith.2.1 73 = .ok (.ireturn, 1) := by decide +kernel
def f_St_howManyWith_L29 (a0 : Nat) (a1 : Int32) (a2 : Int32) (a3 : Int32) (a4 : Int32) : Nat → Int32 → Int32 → xH → (Int32 → Int32 → xH → Option (Int32 × xH)) → Option (Int32 × xH)
  | 0, _, _, _, _ => none
  | n + 1, a5, a6, h, K => if (7 : Int32) ≤ a6 then K a5 a6 h else jn (fun (x16 : Int32 × xH) => f_St_howManyWith_L29 a0 a1 a2 a3 a4 n x16.1 (a6 + (1 : Int32)) x16.2 K) (fun k17 => if ((jShr a4 a6) &&& (1 : Int32)) = 0 then gd (hK h a0 = 5) (Option.bind (f_St_stands a0 (a4 ||| (jShl (1 : Int32) a6)) a2 a3 h) (fun q19 => if q19.1 = 0 then k17 (a5, q19.2) else k17 ((a5 + (1 : Int32)), q19.2))) else k17 (a5, h))
def f_St_howManyWith (a0 : Nat) (a1 : Int32) (a2 : Int32) (a3 : Int32) (h : xH) : Option (Int32 × xH) := gd (hK h a0 = 5) (gd (hK h (hR h a0 0) = 3) (Option.bind (f_Se_lower (hR h a0 0) a1 h) (fun q10 => gd (hK q10.2 a0 = 5) (gd (hK q10.2 (hR q10.2 a0 0) = 3) (Option.bind (f_Se_higher (hR q10.2 a0 0) a1 q10.2) (fun q13 => f_St_howManyWith_L29 a0 a1 a2 a3 ((jShl (1 : Int32) q10.1) ||| (jShl (1 : Int32) q13.1)) fu (0 : Int32) (0 : Int32) q13.2 (fun v22 v23 h24 => some (v22, h24))))))))
theorem t_St_howManyWith_L29 {l : Launch} {z : xZ} {d mc ms : Nat} {Ph : Option xV → xH → Prop} {a0 : Nat} {a1 : Int32} {a2 : Int32} {a3 : Int32} {a4 : Int32}  (hd : 3 ≤ d) : ∀ (n : Nat) (a5 : Int32) (a6 : Int32) (h : xH) (K : Int32 → Int32 → xH → Option (Int32 × xH)), OK (f_St_howManyWith_L29 a0 a1 a2 a3 a4 n a5 a6 h K) (fun q => Ph (some (xI q.1)) q.2) → (∀ (a5 : Int32) (a6 : Int32) (h : xH), OK (K a5 a6 h) (fun q => Ph (some (xI q.1)) q.2) → Sx l z d mc ms M_St_howManyWith 71 [some (xR a0), some (xI a1), some (xI a2), some (xI a3), some (xI a4), some (xI a5), some (xI a6)] [] h Ph) → Sx l z d mc ms M_St_howManyWith 29 [some (xR a0), some (xI a1), some (xI a2), some (xI a3), some (xI a4), some (xI a5), some (xI a6)] [] h Ph := by
  intro n
  induction n with
  | zero => intro a5 a6 h K hk hE; exact hk.no
  | succ n ih =>
    intro a5 a6 h K hk hE
    rw [f_St_howManyWith_L29] at hk
    refine sx_iload dc_St_howManyWith_29 rfl ?_
    refine sx_bipush (v := (7 : Int32)) dc_St_howManyWith_31 (by decide) ?_
    refine sx_icmp_ge (tgt := 71) dc_St_howManyWith_33 (by decide) (fun c15 => ?_) (fun c15 => ?_)
    · replace hk := hk.t c15
      exact hE a5 a6 h hk
    · replace hk := hk.f c15
      refine sx_iload dc_St_howManyWith_36 rfl ?_
      refine sx_iload dc_St_howManyWith_38 rfl ?_
      refine sx_ishr dc_St_howManyWith_40 ?_
      refine sx_iconst (v := (1 : Int32)) dc_St_howManyWith_41 (by decide) ?_
      refine sx_iand dc_St_howManyWith_42 ?_
      refine hk.j (X := fun x16 => Sx l z d mc ms M_St_howManyWith 65 [some (xR a0), some (xI a1), some (xI a2), some (xI a3), some (xI a4), some (xI x16.1), some (xI a6)] [] x16.2 Ph) (fun x16 hk => ?_) (fun k17 jk17 hk => ?_)
      · refine sx_iinc (v := (1 : Int32)) dc_St_howManyWith_65 rfl (by decide) (by decide) (sx_eq (lc2 := [some (xR a0), some (xI a1), some (xI a2), some (xI a3), some (xI a4), some (xI x16.1), some (xI (a6 + (1 : Int32)))]) rfl rfl ?_)
        refine sx_goto (tgt := 29) dc_St_howManyWith_68 (by decide) ?_
        exact ih x16.1 (a6 + (1 : Int32)) x16.2 _ hk hE
      · refine sx_if_ne (tgt := 65) dc_St_howManyWith_43 (by decide) (fun c18 => ?_) (fun c18 => ?_)
        · replace hk := hk.f c18
          exact jk17 (a5, h) hk
        · replace hk := hk.t c18
          refine sx_aload_n dc_St_howManyWith_46 rfl ?_
          refine sx_iload dc_St_howManyWith_47 rfl ?_
          refine sx_iconst (v := (1 : Int32)) dc_St_howManyWith_49 (by decide) ?_
          refine sx_iload dc_St_howManyWith_50 rfl ?_
          refine sx_ishl dc_St_howManyWith_52 ?_
          refine sx_ior dc_St_howManyWith_53 ?_
          refine sx_iload_n dc_St_howManyWith_54 rfl ?_
          refine sx_iload_n dc_St_howManyWith_55 rfl ?_
          obtain ⟨g20, hk⟩ := hk.g
          obtain ⟨q19, eq19, hk⟩ := hk.bind
          refine sx_callV (d2 := d - 1) (mc2 := 0) (ms2 := 0) (as := [xI (a4 ||| (jShl (1 : Int32) a6)), xI a2, xI a3]) mk_St_stands rfl (x_rk (ci := 5) g20 rfl rfl) wM_St_46 mi_St_stands me_St_stands rfl (Nat.le_of_ble_eq_true rfl) (Nat.le_of_ble_eq_true rfl) dc_St_howManyWith_56 (by omega) (Nat.zero_le _) (Nat.zero_le _) ?_
          refine t_St_stands (by omega) ⟨q19, eq19, ?_⟩
          refine sx_eq0 (lc2 := [some (xR a0), some (xI a1), some (xI a2), some (xI a3), some (xI a4), some (xI a5), some (xI a6)]) (st2 := [xI q19.1]) rfl rfl ?_
          refine sx_if_eq (tgt := 65) dc_St_howManyWith_59 (by decide) (fun c21 => ?_) (fun c21 => ?_)
          · replace hk := hk.t c21
            exact jk17 (a5, q19.2) hk
          · replace hk := hk.f c21
            refine sx_iinc (v := (1 : Int32)) dc_St_howManyWith_62 rfl (by decide) (by decide) (sx_eq (lc2 := [some (xR a0), some (xI a1), some (xI a2), some (xI a3), some (xI a4), some (xI (a5 + (1 : Int32))), some (xI a6)]) rfl rfl ?_)
            exact jk17 ((a5 + (1 : Int32)), q19.2) hk
theorem t_St_howManyWith {l : Launch} {z : xZ} {d mc ms : Nat} {Ph : Option xV → xH → Prop} {a0 : Nat} {a1 : Int32} {a2 : Int32} {a3 : Int32}  {h : xH} (hd : 3 ≤ d) (hk : OK (f_St_howManyWith a0 a1 a2 a3 h) (fun q => Ph (some (xI q.1)) q.2)) : Sx l z d mc ms M_St_howManyWith 0 (x_en [xR a0, xI a1, xI a2, xI a3] 7) [] h Ph := by
  unfold f_St_howManyWith at hk
  refine sx_eq (lc2 := [some (xR a0), some (xI a1), some (xI a2), some (xI a3), none, none, none]) rfl rfl ?_
  refine sx_iconst (v := (1 : Int32)) dc_St_howManyWith_0 (by decide) ?_
  refine sx_aload_n dc_St_howManyWith_1 rfl ?_
  obtain ⟨g9, hk⟩ := hk.g
  refine sx_get (ci := 5) (k := 0) rfl (by decide) wF_St_18 g9 dc_St_howManyWith_2 ?_
  refine sx_iload_n dc_St_howManyWith_5 rfl ?_
  obtain ⟨g11, hk⟩ := hk.g
  obtain ⟨q10, eq10, hk⟩ := hk.bind
  refine sx_callV (d2 := d - 1) (mc2 := 0) (ms2 := 0) (as := [xI a1]) mk_Se_lower rfl (x_rk (ci := 3) g11 rfl rfl) wM_St_50 mi_Se_lower me_Se_lower rfl (Nat.le_of_ble_eq_true rfl) (Nat.le_of_ble_eq_true rfl) dc_St_howManyWith_6 (by omega) (Nat.zero_le _) (Nat.zero_le _) ?_
  refine t_Se_lower (by omega) ⟨q10, eq10, ?_⟩
  refine sx_eq0 (lc2 := [some (xR a0), some (xI a1), some (xI a2), some (xI a3), none, none, none]) (st2 := [xI q10.1, xI (1 : Int32)]) rfl rfl ?_
  refine sx_ishl dc_St_howManyWith_9 ?_
  refine sx_iconst (v := (1 : Int32)) dc_St_howManyWith_10 (by decide) ?_
  refine sx_aload_n dc_St_howManyWith_11 rfl ?_
  obtain ⟨g12, hk⟩ := hk.g
  refine sx_get (ci := 5) (k := 0) rfl (by decide) wF_St_18 g12 dc_St_howManyWith_12 ?_
  refine sx_iload_n dc_St_howManyWith_15 rfl ?_
  obtain ⟨g14, hk⟩ := hk.g
  obtain ⟨q13, eq13, hk⟩ := hk.bind
  refine sx_callV (d2 := d - 1) (mc2 := 0) (ms2 := 0) (as := [xI a1]) mk_Se_higher rfl (x_rk (ci := 3) g14 rfl rfl) wM_St_53 mi_Se_higher me_Se_higher rfl (Nat.le_of_ble_eq_true rfl) (Nat.le_of_ble_eq_true rfl) dc_St_howManyWith_16 (by omega) (Nat.zero_le _) (Nat.zero_le _) ?_
  refine t_Se_higher (by omega) ⟨q13, eq13, ?_⟩
  refine sx_eq0 (lc2 := [some (xR a0), some (xI a1), some (xI a2), some (xI a3), none, none, none]) (st2 := [xI q13.1, xI (1 : Int32), xI (jShl (1 : Int32) q10.1)]) rfl rfl ?_
  refine sx_ishl dc_St_howManyWith_19 ?_
  refine sx_ior dc_St_howManyWith_20 ?_
  refine sx_istore dc_St_howManyWith_21 (by decide) (sx_eq (lc2 := [some (xR a0), some (xI a1), some (xI a2), some (xI a3), some (xI ((jShl (1 : Int32) q10.1) ||| (jShl (1 : Int32) q13.1))), none, none]) rfl rfl ?_)
  refine sx_iconst (v := (0 : Int32)) dc_St_howManyWith_23 (by decide) ?_
  refine sx_istore dc_St_howManyWith_24 (by decide) (sx_eq (lc2 := [some (xR a0), some (xI a1), some (xI a2), some (xI a3), some (xI ((jShl (1 : Int32) q10.1) ||| (jShl (1 : Int32) q13.1))), some (xI (0 : Int32)), none]) rfl rfl ?_)
  refine sx_iconst (v := (0 : Int32)) dc_St_howManyWith_26 (by decide) ?_
  refine sx_istore dc_St_howManyWith_27 (by decide) (sx_eq (lc2 := [some (xR a0), some (xI a1), some (xI a2), some (xI a3), some (xI ((jShl (1 : Int32) q10.1) ||| (jShl (1 : Int32) q13.1))), some (xI (0 : Int32)), some (xI (0 : Int32))]) rfl rfl ?_)
  refine t_St_howManyWith_L29 (by omega) _ _ _ _ _ hk (fun v22 v23 h24 hk => ?_)
  refine sx_iload dc_St_howManyWith_71 rfl ?_
  exact sx_retI dc_St_howManyWith_73 rfl hk.val
theorem dc_Ta_init_0 : decode M_Ta_init.2.1 0 = .ok (.aload_n 0, 1) := by decide +kernel
theorem dc_Ta_init_1 : decode M_Ta_init.2.1 1 = .ok (.invokespecial 1, 3) := by decide +kernel
theorem dc_Ta_init_4 : decode M_Ta_init.2.1 4 = .ok (.aload_n 0, 1) := by decide +kernel
theorem dc_Ta_init_5 : decode M_Ta_init.2.1 5 = .ok (.aload_n 1, 1) := by decide +kernel
theorem dc_Ta_init_6 : decode M_Ta_init.2.1 6 = .ok (.putfield 7, 3) := by decide +kernel
theorem dc_Ta_init_9 : decode M_Ta_init.2.1 9 = .ok (.return_, 1) := by decide +kernel
def f_Ta_init (a0 : Nat) (a1 : Nat) (h : xH) : Option (Unit × xH) := gd (hK h a0 = 6) (some ((), hRu h a0 0 a1))
theorem t_Ta_init {l : Launch} {z : xZ} {d mc ms : Nat} {Ph : Option xV → xH → Prop} {a0 : Nat} {a1 : Nat}  {h : xH} (hd : 2 ≤ d) (hk : OK (f_Ta_init a0 a1 h) (fun q => Ph (none) q.2)) : Sx l z d mc ms M_Ta_init 0 (x_en [xR a0, xR a1] 2) [] h Ph := by
  unfold f_Ta_init at hk
  refine sx_eq (lc2 := [some (xR a0), some (xR a1)]) rfl rfl ?_
  refine sx_aload_n dc_Ta_init_0 rfl ?_
  obtain ⟨g2, hk⟩ := hk.g
  refine sx_objInit g2 (by decide) wM_Ta_1 wO wP (Nat.le_of_ble_eq_true rfl) (by omega) dc_Ta_init_1 ?_
  refine sx_aload_n dc_Ta_init_4 rfl ?_
  refine sx_aload_n dc_Ta_init_5 rfl ?_
  refine sx_putRF (ci := 6) (k := 0) rfl (by decide) wF_Ta_7 rfl (by rfl) rfl g2 rfl dc_Ta_init_6 ?_
  exact sx_retV dc_Ta_init_9 rfl hk.val
theorem dc_Ta_layBits_0 : decode M_Ta_layBits.2.1 0 = .ok (.aload_n 0, 1) := by decide +kernel
theorem dc_Ta_layBits_1 : decode M_Ta_layBits.2.1 1 = .ok (.iload_n 1, 1) := by decide +kernel
theorem dc_Ta_layBits_2 : decode M_Ta_layBits.2.1 2 = .ok (.putfield 25, 3) := by decide +kernel
theorem dc_Ta_layBits_5 : decode M_Ta_layBits.2.1 5 = .ok (.aload_n 0, 1) := by decide +kernel
theorem dc_Ta_layBits_6 : decode M_Ta_layBits.2.1 6 = .ok (.iload_n 2, 1) := by decide +kernel
theorem dc_Ta_layBits_7 : decode M_Ta_layBits.2.1 7 = .ok (.putfield 28, 3) := by decide +kernel
theorem dc_Ta_layBits_10 : decode M_Ta_layBits.2.1 10 = .ok (.return_, 1) := by decide +kernel
def f_Ta_layBits (a0 : Nat) (a1 : Int32) (a2 : Int32) (h : xH) : Option (Unit × xH) := gd (hK h a0 = 6) (some ((), hIu (hIu h a0 2 a1) a0 3 a2))
theorem t_Ta_layBits {l : Launch} {z : xZ} {d mc ms : Nat} {Ph : Option xV → xH → Prop} {a0 : Nat} {a1 : Int32} {a2 : Int32}  {h : xH} (hd : 1 ≤ d) (hk : OK (f_Ta_layBits a0 a1 a2 h) (fun q => Ph (none) q.2)) : Sx l z d mc ms M_Ta_layBits 0 (x_en [xR a0, xI a1, xI a2] 3) [] h Ph := by
  unfold f_Ta_layBits at hk
  refine sx_eq (lc2 := [some (xR a0), some (xI a1), some (xI a2)]) rfl rfl ?_
  refine sx_aload_n dc_Ta_layBits_0 rfl ?_
  refine sx_iload_n dc_Ta_layBits_1 rfl ?_
  obtain ⟨g2, hk⟩ := hk.g
  refine sx_putI (ci := 6) (k := 2) rfl (by decide) wF_Ta_25 rfl g2 (Or.inl rfl) dc_Ta_layBits_2 ?_
  refine sx_aload_n dc_Ta_layBits_5 rfl ?_
  refine sx_iload_n dc_Ta_layBits_6 rfl ?_
  refine sx_putI (ci := 6) (k := 3) rfl (by decide) wF_Ta_28 rfl g2 (Or.inl rfl) dc_Ta_layBits_7 ?_
  exact sx_retV dc_Ta_layBits_10 rfl hk.val
theorem dc_Ta_lay_0 : decode M_Ta_lay.2.1 0 = .ok (.aload_n 0, 1) := by decide +kernel
theorem dc_Ta_lay_1 : decode M_Ta_lay.2.1 1 = .ok (.iload_n 1, 1) := by decide +kernel
theorem dc_Ta_lay_2 : decode M_Ta_lay.2.1 2 = .ok (.putfield 13, 3) := by decide +kernel
theorem dc_Ta_lay_5 : decode M_Ta_lay.2.1 5 = .ok (.aload_n 0, 1) := by decide +kernel
theorem dc_Ta_lay_6 : decode M_Ta_lay.2.1 6 = .ok (.iconst 0, 1) := by decide +kernel
theorem dc_Ta_lay_7 : decode M_Ta_lay.2.1 7 = .ok (.aload_n 0, 1) := by decide +kernel
theorem dc_Ta_lay_8 : decode M_Ta_lay.2.1 8 = .ok (.invokevirtual 17, 3) := by decide +kernel
theorem dc_Ta_lay_11 : decode M_Ta_lay.2.1 11 = .ok (.invokevirtual 21, 3) := by decide +kernel
theorem dc_Ta_lay_14 : decode M_Ta_lay.2.1 14 = .ok (.return_, 1) := by decide +kernel
def f_Ta_lay (a0 : Nat) (a1 : Int32) (h : xH) : Option (Unit × xH) := gd (hK h a0 = 6) (Option.bind (f_Ta_everyPair a0 (hIu h a0 1 a1)) (fun q6 => gd (hK q6.2 a0 = 6) (Option.bind (f_Ta_layBits a0 (0 : Int32) q6.1 q6.2) (fun q7 => some ((), q7.2)))))
theorem t_Ta_lay {l : Launch} {z : xZ} {d mc ms : Nat} {Ph : Option xV → xH → Prop} {a0 : Nat} {a1 : Int32}  {h : xH} (hd : 3 ≤ d) (hk : OK (f_Ta_lay a0 a1 h) (fun q => Ph (none) q.2)) : Sx l z d mc ms M_Ta_lay 0 (x_en [xR a0, xI a1] 2) [] h Ph := by
  unfold f_Ta_lay at hk
  refine sx_eq (lc2 := [some (xR a0), some (xI a1)]) rfl rfl ?_
  refine sx_aload_n dc_Ta_lay_0 rfl ?_
  refine sx_iload_n dc_Ta_lay_1 rfl ?_
  obtain ⟨g5, hk⟩ := hk.g
  refine sx_putI (ci := 6) (k := 1) rfl (by decide) wF_Ta_13 rfl g5 (Or.inl rfl) dc_Ta_lay_2 ?_
  refine sx_aload_n dc_Ta_lay_5 rfl ?_
  refine sx_iconst (v := (0 : Int32)) dc_Ta_lay_6 (by decide) ?_
  refine sx_aload_n dc_Ta_lay_7 rfl ?_
  obtain ⟨q6, eq6, hk⟩ := hk.bind
  refine sx_callV (d2 := d - 1) (mc2 := 0) (ms2 := 0) (as := []) mk_Ta_everyPair rfl (x_rk (ci := 6) g5 rfl rfl) wM_Ta_17 mi_Ta_everyPair me_Ta_everyPair rfl (Nat.le_of_ble_eq_true rfl) (Nat.le_of_ble_eq_true rfl) dc_Ta_lay_8 (by omega) (Nat.zero_le _) (Nat.zero_le _) ?_
  refine t_Ta_everyPair (by omega) ⟨q6, eq6, ?_⟩
  refine sx_eq0 (lc2 := [some (xR a0), some (xI a1)]) (st2 := [xI q6.1, xI (0 : Int32), xR a0]) rfl rfl ?_
  obtain ⟨g8, hk⟩ := hk.g
  obtain ⟨q7, eq7, hk⟩ := hk.bind
  refine sx_callV (d2 := d - 1) (mc2 := 0) (ms2 := 0) (as := [xI (0 : Int32), xI q6.1]) mk_Ta_layBits rfl (x_rk (ci := 6) g8 rfl rfl) wM_Ta_21 mi_Ta_layBits me_Ta_layBits rfl (Nat.le_of_ble_eq_true rfl) (Nat.le_of_ble_eq_true rfl) dc_Ta_lay_11 (by omega) (Nat.zero_le _) (Nat.zero_le _) ?_
  refine t_Ta_layBits (by omega) ⟨q7, eq7, ?_⟩
  refine sx_eq0 (lc2 := [some (xR a0), some (xI a1)]) (st2 := []) rfl rfl ?_
  exact sx_retV dc_Ta_lay_14 rfl hk.val
theorem dc_Ta_layAs_0 : decode M_Ta_layAs.2.1 0 = .ok (.aload_n 0, 1) := by decide +kernel
theorem dc_Ta_layAs_1 : decode M_Ta_layAs.2.1 1 = .ok (.aload_n 1, 1) := by decide +kernel
theorem dc_Ta_layAs_2 : decode M_Ta_layAs.2.1 2 = .ok (.getfield 13, 3) := by decide +kernel
theorem dc_Ta_layAs_5 : decode M_Ta_layAs.2.1 5 = .ok (.putfield 13, 3) := by decide +kernel
theorem dc_Ta_layAs_8 : decode M_Ta_layAs.2.1 8 = .ok (.aload_n 0, 1) := by decide +kernel
theorem dc_Ta_layAs_9 : decode M_Ta_layAs.2.1 9 = .ok (.aload_n 1, 1) := by decide +kernel
theorem dc_Ta_layAs_10 : decode M_Ta_layAs.2.1 10 = .ok (.getfield 25, 3) := by decide +kernel
theorem dc_Ta_layAs_13 : decode M_Ta_layAs.2.1 13 = .ok (.aload_n 1, 1) := by decide +kernel
theorem dc_Ta_layAs_14 : decode M_Ta_layAs.2.1 14 = .ok (.getfield 28, 3) := by decide +kernel
theorem dc_Ta_layAs_17 : decode M_Ta_layAs.2.1 17 = .ok (.invokevirtual 21, 3) := by decide +kernel
theorem dc_Ta_layAs_20 : decode M_Ta_layAs.2.1 20 = .ok (.return_, 1) := by decide +kernel
def f_Ta_layAs (a0 : Nat) (a1 : Nat) (h : xH) : Option (Unit × xH) := gd (hK h a1 = 6) (gd (hK h a0 = 6) (Option.bind (f_Ta_layBits a0 (hI (hIu h a0 1 (hI h a1 1)) a1 2) (hI (hIu h a0 1 (hI h a1 1)) a1 3) (hIu h a0 1 (hI h a1 1))) (fun q6 => some ((), q6.2))))
theorem t_Ta_layAs {l : Launch} {z : xZ} {d mc ms : Nat} {Ph : Option xV → xH → Prop} {a0 : Nat} {a1 : Nat}  {h : xH} (hd : 2 ≤ d) (hk : OK (f_Ta_layAs a0 a1 h) (fun q => Ph (none) q.2)) : Sx l z d mc ms M_Ta_layAs 0 (x_en [xR a0, xR a1] 2) [] h Ph := by
  unfold f_Ta_layAs at hk
  refine sx_eq (lc2 := [some (xR a0), some (xR a1)]) rfl rfl ?_
  refine sx_aload_n dc_Ta_layAs_0 rfl ?_
  refine sx_aload_n dc_Ta_layAs_1 rfl ?_
  obtain ⟨g4, hk⟩ := hk.g
  refine sx_get (ci := 6) (k := 1) rfl (by decide) wF_Ta_13 g4 dc_Ta_layAs_2 ?_
  obtain ⟨g5, hk⟩ := hk.g
  refine sx_putI (ci := 6) (k := 1) rfl (by decide) wF_Ta_13 rfl g5 (Or.inl rfl) dc_Ta_layAs_5 ?_
  refine sx_aload_n dc_Ta_layAs_8 rfl ?_
  refine sx_aload_n dc_Ta_layAs_9 rfl ?_
  refine sx_get (ci := 6) (k := 2) rfl (by decide) wF_Ta_25 g4 dc_Ta_layAs_10 ?_
  refine sx_aload_n dc_Ta_layAs_13 rfl ?_
  refine sx_get (ci := 6) (k := 3) rfl (by decide) wF_Ta_28 g4 dc_Ta_layAs_14 ?_
  obtain ⟨q6, eq6, hk⟩ := hk.bind
  refine sx_callV (d2 := d - 1) (mc2 := 0) (ms2 := 0) (as := [xI (hI (hIu h a0 1 (hI h a1 1)) a1 2), xI (hI (hIu h a0 1 (hI h a1 1)) a1 3)]) mk_Ta_layBits rfl (x_rk (ci := 6) g5 rfl rfl) wM_Ta_21 mi_Ta_layBits me_Ta_layBits rfl (Nat.le_of_ble_eq_true rfl) (Nat.le_of_ble_eq_true rfl) dc_Ta_layAs_17 (by omega) (Nat.zero_le _) (Nat.zero_le _) ?_
  refine t_Ta_layBits (by omega) ⟨q6, eq6, ?_⟩
  refine sx_eq0 (lc2 := [some (xR a0), some (xR a1)]) (st2 := []) rfl rfl ?_
  exact sx_retV dc_Ta_layAs_20 rfl hk.val
theorem dc_Ta_put_0 : decode M_Ta_put.2.1 0 = .ok (.iconst 1, 1) := by decide +kernel
theorem dc_Ta_put_1 : decode M_Ta_put.2.1 1 = .ok (.iload_n 1, 1) := by decide +kernel
theorem dc_Ta_put_2 : decode M_Ta_put.2.1 2 = .ok (.ishl, 1) := by decide +kernel
theorem dc_Ta_put_3 : decode M_Ta_put.2.1 3 = .ok (.istore_n 3, 1) := by decide +kernel
theorem dc_Ta_put_4 : decode M_Ta_put.2.1 4 = .ok (.aload_n 0, 1) := by decide +kernel
theorem dc_Ta_put_5 : decode M_Ta_put.2.1 5 = .ok (.iload_n 2, 1) := by decide +kernel
theorem dc_Ta_put_6 : decode M_Ta_put.2.1 6 = .ok (.iconst 1, 1) := by decide +kernel
theorem dc_Ta_put_7 : decode M_Ta_put.2.1 7 = .ok (.if_icmp .ne 12, 3) := by decide +kernel
theorem dc_Ta_put_10 : decode M_Ta_put.2.1 10 = .ok (.aload_n 0, 1) := by decide +kernel
theorem dc_Ta_put_11 : decode M_Ta_put.2.1 11 = .ok (.getfield 25, 3) := by decide +kernel
theorem dc_Ta_put_14 : decode M_Ta_put.2.1 14 = .ok (.iload_n 3, 1) := by decide +kernel
theorem dc_Ta_put_15 : decode M_Ta_put.2.1 15 = .ok (.ior, 1) := by decide +kernel
theorem dc_Ta_put_16 : decode M_Ta_put.2.1 16 = .ok (.goto 11, 3) := by decide +kernel
theorem dc_Ta_put_19 : decode M_Ta_put.2.1 19 = .ok (.aload_n 0, 1) := by decide +kernel
theorem dc_Ta_put_20 : decode M_Ta_put.2.1 20 = .ok (.getfield 25, 3) := by decide +kernel
theorem dc_Ta_put_23 : decode M_Ta_put.2.1 23 = .ok (.iload_n 3, 1) := by decide +kernel
theorem dc_Ta_put_24 : decode M_Ta_put.2.1 24 = .ok (.iconst (-1), 1) := by decide +kernel
theorem dc_Ta_put_25 : decode M_Ta_put.2.1 25 = .ok (.ixor, 1) := by decide +kernel
theorem dc_Ta_put_26 : decode M_Ta_put.2.1 26 = .ok (.iand, 1) := by decide +kernel
theorem dc_Ta_put_27 : decode M_Ta_put.2.1 27 = .ok (.putfield 25, 3) := by decide +kernel
theorem dc_Ta_put_30 : decode M_Ta_put.2.1 30 = .ok (.aload_n 0, 1) := by decide +kernel
theorem dc_Ta_put_31 : decode M_Ta_put.2.1 31 = .ok (.iload_n 2, 1) := by decide +kernel
theorem dc_Ta_put_32 : decode M_Ta_put.2.1 32 = .ok (.ifCond .ne 12, 3) := by decide +kernel
theorem dc_Ta_put_35 : decode M_Ta_put.2.1 35 = .ok (.aload_n 0, 1) := by decide +kernel
theorem dc_Ta_put_36 : decode M_Ta_put.2.1 36 = .ok (.getfield 28, 3) := by decide +kernel
theorem dc_Ta_put_39 : decode M_Ta_put.2.1 39 = .ok (.iload_n 3, 1) := by decide +kernel
theorem dc_Ta_put_40 : decode M_Ta_put.2.1 40 = .ok (.ior, 1) := by decide +kernel
theorem dc_Ta_put_41 : decode M_Ta_put.2.1 41 = .ok (.goto 11, 3) := by decide +kernel
theorem dc_Ta_put_44 : decode M_Ta_put.2.1 44 = .ok (.aload_n 0, 1) := by decide +kernel
theorem dc_Ta_put_45 : decode M_Ta_put.2.1 45 = .ok (.getfield 28, 3) := by decide +kernel
theorem dc_Ta_put_48 : decode M_Ta_put.2.1 48 = .ok (.iload_n 3, 1) := by decide +kernel
theorem dc_Ta_put_49 : decode M_Ta_put.2.1 49 = .ok (.iconst (-1), 1) := by decide +kernel
theorem dc_Ta_put_50 : decode M_Ta_put.2.1 50 = .ok (.ixor, 1) := by decide +kernel
theorem dc_Ta_put_51 : decode M_Ta_put.2.1 51 = .ok (.iand, 1) := by decide +kernel
theorem dc_Ta_put_52 : decode M_Ta_put.2.1 52 = .ok (.putfield 28, 3) := by decide +kernel
theorem dc_Ta_put_55 : decode M_Ta_put.2.1 55 = .ok (.return_, 1) := by decide +kernel
def f_Ta_put (a0 : Nat) (a1 : Int32) (a2 : Int32) (h : xH) : Option (Unit × xH) := jn (fun (x3 : Int32) => gd (hK h a0 = 6) (jn (fun (x6 : Int32) => some ((), hIu (hIu h a0 2 x3) a0 3 x6)) (fun k7 => if a2 = 0 then k7 ((hI (hIu h a0 2 x3) a0 3) ||| (jShl (1 : Int32) a1)) else k7 ((hI (hIu h a0 2 x3) a0 3) &&& ((jShl (1 : Int32) a1) ^^^ (-1 : Int32)))))) (fun k4 => if a2 = (1 : Int32) then gd (hK h a0 = 6) (k4 ((hI h a0 2) ||| (jShl (1 : Int32) a1))) else gd (hK h a0 = 6) (k4 ((hI h a0 2) &&& ((jShl (1 : Int32) a1) ^^^ (-1 : Int32)))))
theorem t_Ta_put {l : Launch} {z : xZ} {d mc ms : Nat} {Ph : Option xV → xH → Prop} {a0 : Nat} {a1 : Int32} {a2 : Int32}  {h : xH} (hd : 1 ≤ d) (hk : OK (f_Ta_put a0 a1 a2 h) (fun q => Ph (none) q.2)) : Sx l z d mc ms M_Ta_put 0 (x_en [xR a0, xI a1, xI a2] 4) [] h Ph := by
  unfold f_Ta_put at hk
  refine sx_eq (lc2 := [some (xR a0), some (xI a1), some (xI a2), none]) rfl rfl ?_
  refine sx_iconst (v := (1 : Int32)) dc_Ta_put_0 (by decide) ?_
  refine sx_iload_n dc_Ta_put_1 rfl ?_
  refine sx_ishl dc_Ta_put_2 ?_
  refine sx_istore_n dc_Ta_put_3 (by decide) (sx_eq (lc2 := [some (xR a0), some (xI a1), some (xI a2), some (xI (jShl (1 : Int32) a1))]) rfl rfl ?_)
  refine sx_aload_n dc_Ta_put_4 rfl ?_
  refine sx_iload_n dc_Ta_put_5 rfl ?_
  refine sx_iconst (v := (1 : Int32)) dc_Ta_put_6 (by decide) ?_
  refine hk.j (X := fun x3 => Sx l z d mc ms M_Ta_put 27 [some (xR a0), some (xI a1), some (xI a2), some (xI (jShl (1 : Int32) a1))] [xI x3, xR a0] h Ph) (fun x3 hk => ?_) (fun k4 jk4 hk => ?_)
  · obtain ⟨g5, hk⟩ := hk.g
    refine sx_putI (ci := 6) (k := 2) rfl (by decide) wF_Ta_25 rfl g5 (Or.inl rfl) dc_Ta_put_27 ?_
    refine sx_aload_n dc_Ta_put_30 rfl ?_
    refine sx_iload_n dc_Ta_put_31 rfl ?_
    refine hk.j (X := fun x6 => Sx l z d mc ms M_Ta_put 52 [some (xR a0), some (xI a1), some (xI a2), some (xI (jShl (1 : Int32) a1))] [xI x6, xR a0] (hIu h a0 2 x3) Ph) (fun x6 hk => ?_) (fun k7 jk7 hk => ?_)
    · refine sx_putI (ci := 6) (k := 3) rfl (by decide) wF_Ta_28 rfl g5 (Or.inl rfl) dc_Ta_put_52 ?_
      exact sx_retV dc_Ta_put_55 rfl hk.val
    · refine sx_if_ne (tgt := 44) dc_Ta_put_32 (by decide) (fun c8 => ?_) (fun c8 => ?_)
      · replace hk := hk.f c8
        refine sx_aload_n dc_Ta_put_44 rfl ?_
        refine sx_get (ci := 6) (k := 3) rfl (by decide) wF_Ta_28 g5 dc_Ta_put_45 ?_
        refine sx_iload_n dc_Ta_put_48 rfl ?_
        refine sx_iconst (v := (-1 : Int32)) dc_Ta_put_49 (by decide) ?_
        refine sx_ixor dc_Ta_put_50 ?_
        refine sx_iand dc_Ta_put_51 ?_
        exact jk7 ((hI (hIu h a0 2 x3) a0 3) &&& ((jShl (1 : Int32) a1) ^^^ (-1 : Int32))) hk
      · replace hk := hk.t c8
        refine sx_aload_n dc_Ta_put_35 rfl ?_
        refine sx_get (ci := 6) (k := 3) rfl (by decide) wF_Ta_28 g5 dc_Ta_put_36 ?_
        refine sx_iload_n dc_Ta_put_39 rfl ?_
        refine sx_ior dc_Ta_put_40 ?_
        refine sx_goto (tgt := 52) dc_Ta_put_41 (by decide) ?_
        exact jk7 ((hI (hIu h a0 2 x3) a0 3) ||| (jShl (1 : Int32) a1)) hk
  · refine sx_icmp_ne (tgt := 19) dc_Ta_put_7 (by decide) (fun c9 => ?_) (fun c9 => ?_)
    · replace hk := hk.f c9
      refine sx_aload_n dc_Ta_put_19 rfl ?_
      obtain ⟨g10, hk⟩ := hk.g
      refine sx_get (ci := 6) (k := 2) rfl (by decide) wF_Ta_25 g10 dc_Ta_put_20 ?_
      refine sx_iload_n dc_Ta_put_23 rfl ?_
      refine sx_iconst (v := (-1 : Int32)) dc_Ta_put_24 (by decide) ?_
      refine sx_ixor dc_Ta_put_25 ?_
      refine sx_iand dc_Ta_put_26 ?_
      exact jk4 ((hI h a0 2) &&& ((jShl (1 : Int32) a1) ^^^ (-1 : Int32))) hk
    · replace hk := hk.t c9
      refine sx_aload_n dc_Ta_put_10 rfl ?_
      obtain ⟨g11, hk⟩ := hk.g
      refine sx_get (ci := 6) (k := 2) rfl (by decide) wF_Ta_25 g11 dc_Ta_put_11 ?_
      refine sx_iload_n dc_Ta_put_14 rfl ?_
      refine sx_ior dc_Ta_put_15 ?_
      refine sx_goto (tgt := 27) dc_Ta_put_16 (by decide) ?_
      exact jk4 ((hI h a0 2) ||| (jShl (1 : Int32) a1)) hk
theorem dc_To_init_0 : decode M_To_init.2.1 0 = .ok (.aload_n 0, 1) := by decide +kernel
theorem dc_To_init_1 : decode M_To_init.2.1 1 = .ok (.invokespecial 3, 3) := by decide +kernel
theorem dc_To_init_4 : decode M_To_init.2.1 4 = .ok (.aload_n 0, 1) := by decide +kernel
theorem dc_To_init_5 : decode M_To_init.2.1 5 = .ok (.iload_n 1, 1) := by decide +kernel
theorem dc_To_init_6 : decode M_To_init.2.1 6 = .ok (.putfield 9, 3) := by decide +kernel
theorem dc_To_init_9 : decode M_To_init.2.1 9 = .ok (.aload_n 0, 1) := by decide +kernel
theorem dc_To_init_10 : decode M_To_init.2.1 10 = .ok (.iload_n 2, 1) := by decide +kernel
theorem dc_To_init_11 : decode M_To_init.2.1 11 = .ok (.putfield 15, 3) := by decide +kernel
theorem dc_To_init_14 : decode M_To_init.2.1 14 = .ok (.return_, 1) := by decide +kernel
def f_To_init (a0 : Nat) (a1 : Int32) (a2 : Int32) (h : xH) : Option (Unit × xH) := gd (hK h a0 = 8) (some ((), hIu (hIu h a0 0 a1) a0 1 a2))
theorem t_To_init {l : Launch} {z : xZ} {d mc ms : Nat} {Ph : Option xV → xH → Prop} {a0 : Nat} {a1 : Int32} {a2 : Int32}  {h : xH} (hd : 2 ≤ d) (hk : OK (f_To_init a0 a1 a2 h) (fun q => Ph (none) q.2)) : Sx l z d mc ms M_To_init 0 (x_en [xR a0, xI a1, xI a2] 3) [] h Ph := by
  unfold f_To_init at hk
  refine sx_eq (lc2 := [some (xR a0), some (xI a1), some (xI a2)]) rfl rfl ?_
  refine sx_aload_n dc_To_init_0 rfl ?_
  obtain ⟨g2, hk⟩ := hk.g
  refine sx_objInit g2 (by decide) wM_To_3 wO wP (Nat.le_of_ble_eq_true rfl) (by omega) dc_To_init_1 ?_
  refine sx_aload_n dc_To_init_4 rfl ?_
  refine sx_iload_n dc_To_init_5 rfl ?_
  refine sx_putIF (ci := 8) (k := 0) rfl (by decide) wF_To_9 rfl (by rfl) rfl g2 (Or.inl rfl) dc_To_init_6 ?_
  refine sx_aload_n dc_To_init_9 rfl ?_
  refine sx_iload_n dc_To_init_10 rfl ?_
  refine sx_putIF (ci := 8) (k := 1) rfl (by decide) wF_To_15 rfl (by rfl) rfl g2 (Or.inl rfl) dc_To_init_11 ?_
  exact sx_retV dc_To_init_14 rfl hk.val
theorem dc_To_isOf_0 : decode M_To_isOf.2.1 0 = .ok (.aload_n 0, 1) := by decide +kernel
theorem dc_To_isOf_1 : decode M_To_isOf.2.1 1 = .ok (.getfield 9, 3) := by decide +kernel
theorem dc_To_isOf_4 : decode M_To_isOf.2.1 4 = .ok (.istore_n 2, 1) := by decide +kernel
theorem dc_To_isOf_5 : decode M_To_isOf.2.1 5 = .ok (.iconst 0, 1) := by decide +kernel
theorem dc_To_isOf_6 : decode M_To_isOf.2.1 6 = .ok (.istore_n 3, 1) := by decide +kernel
theorem dc_To_isOf_7 : decode M_To_isOf.2.1 7 = .ok (.iload_n 3, 1) := by decide +kernel
theorem dc_To_isOf_8 : decode M_To_isOf.2.1 8 = .ok (.bipush 6, 2) := by decide +kernel
theorem dc_To_isOf_10 : decode M_To_isOf.2.1 10 = .ok (.if_icmp .ge 32, 3) := by decide +kernel
theorem dc_To_isOf_13 : decode M_To_isOf.2.1 13 = .ok (.iload_n 2, 1) := by decide +kernel
theorem dc_To_isOf_14 : decode M_To_isOf.2.1 14 = .ok (.ifCond .lt 28, 3) := by decide +kernel
theorem dc_To_isOf_17 : decode M_To_isOf.2.1 17 = .ok (.iload_n 2, 1) := by decide +kernel
theorem dc_To_isOf_18 : decode M_To_isOf.2.1 18 = .ok (.bipush 6, 2) := by decide +kernel
theorem dc_To_isOf_20 : decode M_To_isOf.2.1 20 = .ok (.if_icmp .ge 22, 3) := by decide +kernel
theorem dc_To_isOf_23 : decode M_To_isOf.2.1 23 = .ok (.iload_n 2, 1) := by decide +kernel
theorem dc_To_isOf_24 : decode M_To_isOf.2.1 24 = .ok (.iload_n 1, 1) := by decide +kernel
theorem dc_To_isOf_25 : decode M_To_isOf.2.1 25 = .ok (.if_icmp .ne 5, 3) := by decide +kernel
theorem dc_To_isOf_28 : decode M_To_isOf.2.1 28 = .ok (.iconst 1, 1) := by decide +kernel
theorem dc_To_isOf_29 : decode M_To_isOf.2.1 29 = .ok (.ireturn, 1) := by decide +kernel
theorem dc_To_isOf_30 : decode M_To_isOf.2.1 30 = .ok (.getstatic 18, 3) := by decide +kernel
theorem dc_To_isOf_33 : decode M_To_isOf.2.1 33 = .ok (.iload_n 2, 1) := by decide +kernel
theorem dc_To_isOf_34 : decode M_To_isOf.2.1 34 = .ok (.iaload, 1) := by decide +kernel
theorem dc_To_isOf_35 : decode M_To_isOf.2.1 35 = .ok (.istore_n 2, 1) := by decide +kernel
theorem dc_To_isOf_36 : decode M_To_isOf.2.1 36 = .ok (.iinc 3 1, 3) := by decide +kernel
theorem dc_To_isOf_39 : decode M_To_isOf.2.1 39 = .ok (.goto (-32), 3) := by decide +kernel
theorem dc_To_isOf_42 : decode M_To_isOf.2.1 42 = .ok (.iconst 0, 1) := by decide +kernel
theorem dc_To_isOf_43 : decode M_To_isOf.2.1 43 = .ok (.ireturn, 1) := by decide +kernel
def f_To_isOf_L7 (a0 : Nat) (a1 : Int32) : Nat → Int32 → Int32 → xH → (Int32 → Int32 → xH → Option (Int32 × xH)) → Option (Int32 × xH)
  | 0, _, _, _, _ => none
  | n + 1, a2, a3, h, K => if (6 : Int32) ≤ a3 then K a2 a3 h else if a2 < 0 then K a2 a3 h else if (6 : Int32) ≤ a2 then K a2 a3 h else if a2 = a1 then some ((1 : Int32), h) else gd (¬ (a2 < 0 ∨ 6 ≤ a2.toNatClampNeg)) (f_To_isOf_L7 a0 a1 n (x_ab a2.toNatClampNeg) (a3 + (1 : Int32)) h K)
def f_To_isOf (a0 : Nat) (a1 : Int32) (h : xH) : Option (Int32 × xH) := gd (hK h a0 = 8) (f_To_isOf_L7 a0 a1 fu (hI h a0 0) (0 : Int32) h (fun v9 v10 h11 => some ((0 : Int32), h11)))
theorem t_To_isOf_L7 {l : Launch} {z : xZ} {d mc ms : Nat} {Ph : Option xV → xH → Prop} {a0 : Nat} {a1 : Int32}  (hd : 1 ≤ d) : ∀ (n : Nat) (a2 : Int32) (a3 : Int32) (h : xH) (K : Int32 → Int32 → xH → Option (Int32 × xH)), OK (f_To_isOf_L7 a0 a1 n a2 a3 h K) (fun q => Ph (some (xI q.1)) q.2) → (∀ (a2 : Int32) (a3 : Int32) (h : xH), OK (K a2 a3 h) (fun q => Ph (some (xI q.1)) q.2) → Sx l z d mc ms M_To_isOf 42 [some (xR a0), some (xI a1), some (xI a2), some (xI a3)] [] h Ph) → Sx l z d mc ms M_To_isOf 7 [some (xR a0), some (xI a1), some (xI a2), some (xI a3)] [] h Ph := by
  intro n
  induction n with
  | zero => intro a2 a3 h K hk hE; exact hk.no
  | succ n ih =>
    intro a2 a3 h K hk hE
    rw [f_To_isOf_L7] at hk
    refine sx_iload_n dc_To_isOf_7 rfl ?_
    refine sx_bipush (v := (6 : Int32)) dc_To_isOf_8 (by decide) ?_
    refine sx_icmp_ge (tgt := 42) dc_To_isOf_10 (by decide) (fun c4 => ?_) (fun c4 => ?_)
    · replace hk := hk.t c4
      exact hE a2 a3 h hk
    · replace hk := hk.f c4
      refine sx_iload_n dc_To_isOf_13 rfl ?_
      refine sx_if_lt (tgt := 42) dc_To_isOf_14 (by decide) (fun c5 => ?_) (fun c5 => ?_)
      · replace hk := hk.t c5
        exact hE a2 a3 h hk
      · replace hk := hk.f c5
        refine sx_iload_n dc_To_isOf_17 rfl ?_
        refine sx_bipush (v := (6 : Int32)) dc_To_isOf_18 (by decide) ?_
        refine sx_icmp_ge (tgt := 42) dc_To_isOf_20 (by decide) (fun c6 => ?_) (fun c6 => ?_)
        · replace hk := hk.t c6
          exact hE a2 a3 h hk
        · replace hk := hk.f c6
          refine sx_iload_n dc_To_isOf_23 rfl ?_
          refine sx_iload_n dc_To_isOf_24 rfl ?_
          refine sx_icmp_ne (tgt := 30) dc_To_isOf_25 (by decide) (fun c7 => ?_) (fun c7 => ?_)
          · replace hk := hk.f c7
            refine sx_above wF_To_18 dc_To_isOf_30 ?_
            refine sx_iload_n dc_To_isOf_33 rfl ?_
            obtain ⟨g8, hk⟩ := hk.g
            refine sx_abld g8 dc_To_isOf_34 ?_
            refine sx_istore_n dc_To_isOf_35 (by decide) (sx_eq (lc2 := [some (xR a0), some (xI a1), some (xI (x_ab a2.toNatClampNeg)), some (xI a3)]) rfl rfl ?_)
            refine sx_iinc (v := (1 : Int32)) dc_To_isOf_36 rfl (by decide) (by decide) (sx_eq (lc2 := [some (xR a0), some (xI a1), some (xI (x_ab a2.toNatClampNeg)), some (xI (a3 + (1 : Int32)))]) rfl rfl ?_)
            refine sx_goto (tgt := 7) dc_To_isOf_39 (by decide) ?_
            exact ih (x_ab a2.toNatClampNeg) (a3 + (1 : Int32)) h _ hk hE
          · replace hk := hk.t c7
            refine sx_iconst (v := (1 : Int32)) dc_To_isOf_28 (by decide) ?_
            exact sx_retT (v := (1 : Int32)) dc_To_isOf_29 (Or.inl ⟨rfl, rfl⟩) (by decide) hk.val
theorem t_To_isOf {l : Launch} {z : xZ} {d mc ms : Nat} {Ph : Option xV → xH → Prop} {a0 : Nat} {a1 : Int32}  {h : xH} (hd : 1 ≤ d) (hk : OK (f_To_isOf a0 a1 h) (fun q => Ph (some (xI q.1)) q.2)) : Sx l z d mc ms M_To_isOf 0 (x_en [xR a0, xI a1] 4) [] h Ph := by
  unfold f_To_isOf at hk
  refine sx_eq (lc2 := [some (xR a0), some (xI a1), none, none]) rfl rfl ?_
  refine sx_aload_n dc_To_isOf_0 rfl ?_
  obtain ⟨g3, hk⟩ := hk.g
  refine sx_get (ci := 8) (k := 0) rfl (by decide) wF_To_9 g3 dc_To_isOf_1 ?_
  refine sx_istore_n dc_To_isOf_4 (by decide) (sx_eq (lc2 := [some (xR a0), some (xI a1), some (xI (hI h a0 0)), none]) rfl rfl ?_)
  refine sx_iconst (v := (0 : Int32)) dc_To_isOf_5 (by decide) ?_
  refine sx_istore_n dc_To_isOf_6 (by decide) (sx_eq (lc2 := [some (xR a0), some (xI a1), some (xI (hI h a0 0)), some (xI (0 : Int32))]) rfl rfl ?_)
  refine t_To_isOf_L7 (by omega) _ _ _ _ _ hk (fun v9 v10 h11 hk => ?_)
  refine sx_iconst (v := (0 : Int32)) dc_To_isOf_42 (by decide) ?_
  exact sx_retT (v := (0 : Int32)) dc_To_isOf_43 (Or.inl ⟨rfl, rfl⟩) (by decide) hk.val
theorem dc_To_areUnlike_0 : decode M_To_areUnlike.2.1 0 = .ok (.iload_n 2, 1) := by decide +kernel
theorem dc_To_areUnlike_1 : decode M_To_areUnlike.2.1 1 = .ok (.ifCond .le 16, 3) := by decide +kernel
theorem dc_To_areUnlike_4 : decode M_To_areUnlike.2.1 4 = .ok (.iload_n 0, 1) := by decide +kernel
theorem dc_To_areUnlike_5 : decode M_To_areUnlike.2.1 5 = .ok (.iload_n 2, 1) := by decide +kernel
theorem dc_To_areUnlike_6 : decode M_To_areUnlike.2.1 6 = .ok (.irem, 1) := by decide +kernel
theorem dc_To_areUnlike_7 : decode M_To_areUnlike.2.1 7 = .ok (.iload_n 1, 1) := by decide +kernel
theorem dc_To_areUnlike_8 : decode M_To_areUnlike.2.1 8 = .ok (.iload_n 2, 1) := by decide +kernel
theorem dc_To_areUnlike_9 : decode M_To_areUnlike.2.1 9 = .ok (.irem, 1) := by decide +kernel
theorem dc_To_areUnlike_10 : decode M_To_areUnlike.2.1 10 = .ok (.if_icmp .eq 7, 3) := by decide +kernel
theorem dc_To_areUnlike_13 : decode M_To_areUnlike.2.1 13 = .ok (.iconst 1, 1) := by decide +kernel
theorem dc_To_areUnlike_14 : decode M_To_areUnlike.2.1 14 = .ok (.goto 4, 3) := by decide +kernel
theorem dc_To_areUnlike_17 : decode M_To_areUnlike.2.1 17 = .ok (.iconst 0, 1) := by decide +kernel
theorem dc_To_areUnlike_18 : decode M_To_areUnlike.2.1 18 = .ok (.ireturn, 1) := by decide +kernel
def f_To_areUnlike (a0 : Int32) (a1 : Int32) (a2 : Int32) (h : xH) : Option (Int32 × xH) := jn (fun (x3 : Int32) => some (nb x3, h)) (fun k4 => jn (fun (x5 : Unit) => k4 (0 : Int32)) (fun k6 => if a2 ≤ 0 then k6 () else gd (¬ a2 = 0) (gd (¬ a2 = 0) (if (jRem a0 a2) = (jRem a1 a2) then k6 () else k4 (1 : Int32)))))
theorem t_To_areUnlike {l : Launch} {z : xZ} {d mc ms : Nat} {Ph : Option xV → xH → Prop} {a0 : Int32} {a1 : Int32} {a2 : Int32}  {h : xH} (hd : 1 ≤ d) (hk : OK (f_To_areUnlike a0 a1 a2 h) (fun q => Ph (some (xI q.1)) q.2)) : Sx l z d mc ms M_To_areUnlike 0 (x_en [xI a0, xI a1, xI a2] 3) [] h Ph := by
  unfold f_To_areUnlike at hk
  refine sx_eq (lc2 := [some (xI a0), some (xI a1), some (xI a2)]) rfl rfl ?_
  refine sx_iload_n dc_To_areUnlike_0 rfl ?_
  refine hk.j (X := fun x3 => Sx l z d mc ms M_To_areUnlike 18 [some (xI a0), some (xI a1), some (xI a2)] [xI x3] h Ph) (fun x3 hk => ?_) (fun k4 jk4 hk => ?_)
  · exact sx_retT dc_To_areUnlike_18 (Or.inl ⟨rfl, rfl⟩) rfl hk.val
  · refine hk.j (X := fun x5 => Sx l z d mc ms M_To_areUnlike 17 [some (xI a0), some (xI a1), some (xI a2)] [] h Ph) (fun x5 hk => ?_) (fun k6 jk6 hk => ?_)
    · refine sx_iconst (v := (0 : Int32)) dc_To_areUnlike_17 (by decide) ?_
      exact jk4 (0 : Int32) hk
    · refine sx_if_le (tgt := 17) dc_To_areUnlike_1 (by decide) (fun c7 => ?_) (fun c7 => ?_)
      · replace hk := hk.t c7
        exact jk6 () hk
      · replace hk := hk.f c7
        refine sx_iload_n dc_To_areUnlike_4 rfl ?_
        refine sx_iload_n dc_To_areUnlike_5 rfl ?_
        obtain ⟨g8, hk⟩ := hk.g
        refine sx_irem dc_To_areUnlike_6 g8 ?_
        refine sx_iload_n dc_To_areUnlike_7 rfl ?_
        refine sx_iload_n dc_To_areUnlike_8 rfl ?_
        obtain ⟨g9, hk⟩ := hk.g
        refine sx_irem dc_To_areUnlike_9 g9 ?_
        refine sx_icmp_eq (tgt := 17) dc_To_areUnlike_10 (by decide) (fun c10 => ?_) (fun c10 => ?_)
        · replace hk := hk.t c10
          exact jk6 () hk
        · replace hk := hk.f c10
          refine sx_iconst (v := (1 : Int32)) dc_To_areUnlike_13 (by decide) ?_
          refine sx_goto (tgt := 18) dc_To_areUnlike_14 (by decide) ?_
          exact jk4 (1 : Int32) hk
theorem dc_To_areNextInRing_0 : decode M_To_areNextInRing.2.1 0 = .ok (.iload_n 2, 1) := by decide +kernel
theorem dc_To_areNextInRing_1 : decode M_To_areNextInRing.2.1 1 = .ok (.iload_n 1, 1) := by decide +kernel
theorem dc_To_areNextInRing_2 : decode M_To_areNextInRing.2.1 2 = .ok (.isub, 1) := by decide +kernel
theorem dc_To_areNextInRing_3 : decode M_To_areNextInRing.2.1 3 = .ok (.istore 4, 2) := by decide +kernel
theorem dc_To_areNextInRing_5 : decode M_To_areNextInRing.2.1 5 = .ok (.iload 4, 2) := by decide +kernel
theorem dc_To_areNextInRing_7 : decode M_To_areNextInRing.2.1 7 = .ok (.iconst 1, 1) := by decide +kernel
theorem dc_To_areNextInRing_8 : decode M_To_areNextInRing.2.1 8 = .ok (.if_icmp .eq 20, 3) := by decide +kernel
theorem dc_To_areNextInRing_11 : decode M_To_areNextInRing.2.1 11 = .ok (.iload 4, 2) := by decide +kernel
theorem dc_To_areNextInRing_13 : decode M_To_areNextInRing.2.1 13 = .ok (.iload_n 3, 1) := by decide +kernel
theorem dc_To_areNextInRing_14 : decode M_To_areNextInRing.2.1 14 = .ok (.iconst 1, 1) := by decide +kernel
theorem dc_To_areNextInRing_15 : decode M_To_areNextInRing.2.1 15 = .ok (.isub, 1) := by decide +kernel
theorem dc_To_areNextInRing_16 : decode M_To_areNextInRing.2.1 16 = .ok (.if_icmp .eq 12, 3) := by decide +kernel
theorem dc_To_areNextInRing_19 : decode M_To_areNextInRing.2.1 19 = .ok (.iload 4, 2) := by decide +kernel
theorem dc_To_areNextInRing_21 : decode M_To_areNextInRing.2.1 21 = .ok (.aload_n 0, 1) := by decide +kernel
theorem dc_To_areNextInRing_22 : decode M_To_areNextInRing.2.1 22 = .ok (.getfield 15, 3) := by decide +kernel
theorem dc_To_areNextInRing_25 : decode M_To_areNextInRing.2.1 25 = .ok (.if_icmp .ne 7, 3) := by decide +kernel
theorem dc_To_areNextInRing_28 : decode M_To_areNextInRing.2.1 28 = .ok (.iconst 1, 1) := by decide +kernel
theorem dc_To_areNextInRing_29 : decode M_To_areNextInRing.2.1 29 = .ok (.goto 4, 3) := by decide +kernel
theorem dc_To_areNextInRing_32 : decode M_To_areNextInRing.2.1 32 = .ok (.iconst 0, 1) := by decide +kernel
theorem dc_To_areNextInRing_33 : decode M_To_areNextInRing.2.1 33 = .ok (.ireturn, 1) := by decide +kernel
def f_To_areNextInRing (a0 : Nat) (a1 : Int32) (a2 : Int32) (a3 : Int32) (h : xH) : Option (Int32 × xH) := jn (fun (x2 : Int32) => some (nb x2, h)) (fun k3 => jn (fun (x4 : Unit) => k3 (1 : Int32)) (fun k5 => if (a2 - a1) = (1 : Int32) then k5 () else if (a2 - a1) = (a3 - (1 : Int32)) then k5 () else gd (hK h a0 = 8) (if (a2 - a1) = (hI h a0 1) then k5 () else k3 (0 : Int32))))
theorem t_To_areNextInRing {l : Launch} {z : xZ} {d mc ms : Nat} {Ph : Option xV → xH → Prop} {a0 : Nat} {a1 : Int32} {a2 : Int32} {a3 : Int32}  {h : xH} (hd : 1 ≤ d) (hk : OK (f_To_areNextInRing a0 a1 a2 a3 h) (fun q => Ph (some (xI q.1)) q.2)) : Sx l z d mc ms M_To_areNextInRing 0 (x_en [xR a0, xI a1, xI a2, xI a3] 5) [] h Ph := by
  unfold f_To_areNextInRing at hk
  refine sx_eq (lc2 := [some (xR a0), some (xI a1), some (xI a2), some (xI a3), none]) rfl rfl ?_
  refine sx_iload_n dc_To_areNextInRing_0 rfl ?_
  refine sx_iload_n dc_To_areNextInRing_1 rfl ?_
  refine sx_isub dc_To_areNextInRing_2 ?_
  refine sx_istore dc_To_areNextInRing_3 (by decide) (sx_eq (lc2 := [some (xR a0), some (xI a1), some (xI a2), some (xI a3), some (xI (a2 - a1))]) rfl rfl ?_)
  refine sx_iload dc_To_areNextInRing_5 rfl ?_
  refine sx_iconst (v := (1 : Int32)) dc_To_areNextInRing_7 (by decide) ?_
  refine hk.j (X := fun x2 => Sx l z d mc ms M_To_areNextInRing 33 [some (xR a0), some (xI a1), some (xI a2), some (xI a3), some (xI (a2 - a1))] [xI x2] h Ph) (fun x2 hk => ?_) (fun k3 jk3 hk => ?_)
  · exact sx_retT dc_To_areNextInRing_33 (Or.inl ⟨rfl, rfl⟩) rfl hk.val
  · refine hk.j (X := fun x4 => Sx l z d mc ms M_To_areNextInRing 28 [some (xR a0), some (xI a1), some (xI a2), some (xI a3), some (xI (a2 - a1))] [] h Ph) (fun x4 hk => ?_) (fun k5 jk5 hk => ?_)
    · refine sx_iconst (v := (1 : Int32)) dc_To_areNextInRing_28 (by decide) ?_
      refine sx_goto (tgt := 33) dc_To_areNextInRing_29 (by decide) ?_
      exact jk3 (1 : Int32) hk
    · refine sx_icmp_eq (tgt := 28) dc_To_areNextInRing_8 (by decide) (fun c6 => ?_) (fun c6 => ?_)
      · replace hk := hk.t c6
        exact jk5 () hk
      · replace hk := hk.f c6
        refine sx_iload dc_To_areNextInRing_11 rfl ?_
        refine sx_iload_n dc_To_areNextInRing_13 rfl ?_
        refine sx_iconst (v := (1 : Int32)) dc_To_areNextInRing_14 (by decide) ?_
        refine sx_isub dc_To_areNextInRing_15 ?_
        refine sx_icmp_eq (tgt := 28) dc_To_areNextInRing_16 (by decide) (fun c7 => ?_) (fun c7 => ?_)
        · replace hk := hk.t c7
          exact jk5 () hk
        · replace hk := hk.f c7
          refine sx_iload dc_To_areNextInRing_19 rfl ?_
          refine sx_aload_n dc_To_areNextInRing_21 rfl ?_
          obtain ⟨g8, hk⟩ := hk.g
          refine sx_get (ci := 8) (k := 1) rfl (by decide) wF_To_15 g8 dc_To_areNextInRing_22 ?_
          refine sx_icmp_ne (tgt := 32) dc_To_areNextInRing_25 (by decide) (fun c9 => ?_) (fun c9 => ?_)
          · replace hk := hk.f c9
            refine sx_iconst (v := (0 : Int32)) dc_To_areNextInRing_32 (by decide) ?_
            exact jk3 (0 : Int32) hk
          · replace hk := hk.t c9
            exact jk5 () hk
theorem dc_To_knows_0 : decode M_To_knows.2.1 0 = .ok (.aload_n 0, 1) := by decide +kernel
theorem dc_To_knows_1 : decode M_To_knows.2.1 1 = .ok (.getfield 9, 3) := by decide +kernel
theorem dc_To_knows_4 : decode M_To_knows.2.1 4 = .ok (.tableswitch 139 1 5 #[36, 43, 51, 80, 100], 36) := by decide +kernel
theorem dc_To_knows_40 : decode M_To_knows.2.1 40 = .ok (.iload_n 1, 1) := by decide +kernel
theorem dc_To_knows_41 : decode M_To_knows.2.1 41 = .ok (.iload_n 2, 1) := by decide +kernel
theorem dc_To_knows_42 : decode M_To_knows.2.1 42 = .ok (.iconst 2, 1) := by decide +kernel
theorem dc_To_knows_43 : decode M_To_knows.2.1 43 = .ok (.invokestatic 22, 3) := by decide +kernel
theorem dc_To_knows_46 : decode M_To_knows.2.1 46 = .ok (.ireturn, 1) := by decide +kernel
theorem dc_To_knows_47 : decode M_To_knows.2.1 47 = .ok (.aload_n 0, 1) := by decide +kernel
theorem dc_To_knows_48 : decode M_To_knows.2.1 48 = .ok (.iload_n 1, 1) := by decide +kernel
theorem dc_To_knows_49 : decode M_To_knows.2.1 49 = .ok (.iload_n 2, 1) := by decide +kernel
theorem dc_To_knows_50 : decode M_To_knows.2.1 50 = .ok (.iload_n 3, 1) := by decide +kernel
theorem dc_To_knows_51 : decode M_To_knows.2.1 51 = .ok (.invokevirtual 26, 3) := by decide +kernel
theorem dc_To_knows_54 : decode M_To_knows.2.1 54 = .ok (.ireturn, 1) := by decide +kernel
theorem dc_To_knows_55 : decode M_To_knows.2.1 55 = .ok (.iload_n 1, 1) := by decide +kernel
theorem dc_To_knows_56 : decode M_To_knows.2.1 56 = .ok (.iload_n 2, 1) := by decide +kernel
theorem dc_To_knows_57 : decode M_To_knows.2.1 57 = .ok (.iconst 2, 1) := by decide +kernel
theorem dc_To_knows_58 : decode M_To_knows.2.1 58 = .ok (.invokestatic 22, 3) := by decide +kernel
theorem dc_To_knows_61 : decode M_To_knows.2.1 61 = .ok (.ifCond .ne 17, 3) := by decide +kernel
theorem dc_To_knows_64 : decode M_To_knows.2.1 64 = .ok (.iload_n 1, 1) := by decide +kernel
theorem dc_To_knows_65 : decode M_To_knows.2.1 65 = .ok (.iload_n 2, 1) := by decide +kernel
theorem dc_To_knows_66 : decode M_To_knows.2.1 66 = .ok (.aload_n 0, 1) := by decide +kernel
theorem dc_To_knows_67 : decode M_To_knows.2.1 67 = .ok (.getfield 15, 3) := by decide +kernel
theorem dc_To_knows_70 : decode M_To_knows.2.1 70 = .ok (.iconst 2, 1) := by decide +kernel
theorem dc_To_knows_71 : decode M_To_knows.2.1 71 = .ok (.iadd, 1) := by decide +kernel
theorem dc_To_knows_72 : decode M_To_knows.2.1 72 = .ok (.invokestatic 22, 3) := by decide +kernel
theorem dc_To_knows_75 : decode M_To_knows.2.1 75 = .ok (.ifCond .eq 7, 3) := by decide +kernel
theorem dc_To_knows_78 : decode M_To_knows.2.1 78 = .ok (.iconst 1, 1) := by decide +kernel
theorem dc_To_knows_79 : decode M_To_knows.2.1 79 = .ok (.goto 4, 3) := by decide +kernel
theorem dc_To_knows_82 : decode M_To_knows.2.1 82 = .ok (.iconst 0, 1) := by decide +kernel
theorem dc_To_knows_83 : decode M_To_knows.2.1 83 = .ok (.ireturn, 1) := by decide +kernel
theorem dc_To_knows_84 : decode M_To_knows.2.1 84 = .ok (.aload_n 0, 1) := by decide +kernel
theorem dc_To_knows_85 : decode M_To_knows.2.1 85 = .ok (.iload_n 1, 1) := by decide +kernel
theorem dc_To_knows_86 : decode M_To_knows.2.1 86 = .ok (.iload_n 2, 1) := by decide +kernel
theorem dc_To_knows_87 : decode M_To_knows.2.1 87 = .ok (.iload_n 3, 1) := by decide +kernel
theorem dc_To_knows_88 : decode M_To_knows.2.1 88 = .ok (.invokevirtual 26, 3) := by decide +kernel
theorem dc_To_knows_91 : decode M_To_knows.2.1 91 = .ok (.ifCond .ne 7, 3) := by decide +kernel
theorem dc_To_knows_94 : decode M_To_knows.2.1 94 = .ok (.iload_n 1, 1) := by decide +kernel
theorem dc_To_knows_95 : decode M_To_knows.2.1 95 = .ok (.ifCond .ne 7, 3) := by decide +kernel
theorem dc_To_knows_98 : decode M_To_knows.2.1 98 = .ok (.iconst 1, 1) := by decide +kernel
theorem dc_To_knows_99 : decode M_To_knows.2.1 99 = .ok (.goto 4, 3) := by decide +kernel
theorem dc_To_knows_102 : decode M_To_knows.2.1 102 = .ok (.iconst 0, 1) := by decide +kernel
theorem dc_To_knows_103 : decode M_To_knows.2.1 103 = .ok (.ireturn, 1) := by decide +kernel
theorem dc_To_knows_104 : decode M_To_knows.2.1 104 = .ok (.aload_n 0, 1) := by decide +kernel
theorem dc_To_knows_105 : decode M_To_knows.2.1 105 = .ok (.iload_n 1, 1) := by decide +kernel
theorem dc_To_knows_106 : decode M_To_knows.2.1 106 = .ok (.iload_n 2, 1) := by decide +kernel
theorem dc_To_knows_107 : decode M_To_knows.2.1 107 = .ok (.iload_n 3, 1) := by decide +kernel
theorem dc_To_knows_108 : decode M_To_knows.2.1 108 = .ok (.invokevirtual 26, 3) := by decide +kernel
theorem dc_To_knows_111 : decode M_To_knows.2.1 111 = .ok (.iload_n 1, 1) := by decide +kernel
theorem dc_To_knows_112 : decode M_To_knows.2.1 112 = .ok (.bipush 7, 2) := by decide +kernel
theorem dc_To_knows_114 : decode M_To_knows.2.1 114 = .ok (.imul, 1) := by decide +kernel
theorem dc_To_knows_115 : decode M_To_knows.2.1 115 = .ok (.iload_n 2, 1) := by decide +kernel
theorem dc_To_knows_116 : decode M_To_knows.2.1 116 = .ok (.iconst 5, 1) := by decide +kernel
theorem dc_To_knows_117 : decode M_To_knows.2.1 117 = .ok (.imul, 1) := by decide +kernel
theorem dc_To_knows_118 : decode M_To_knows.2.1 118 = .ok (.iadd, 1) := by decide +kernel
theorem dc_To_knows_119 : decode M_To_knows.2.1 119 = .ok (.aload_n 0, 1) := by decide +kernel
theorem dc_To_knows_120 : decode M_To_knows.2.1 120 = .ok (.getfield 15, 3) := by decide +kernel
theorem dc_To_knows_123 : decode M_To_knows.2.1 123 = .ok (.iadd, 1) := by decide +kernel
theorem dc_To_knows_124 : decode M_To_knows.2.1 124 = .ok (.iconst 3, 1) := by decide +kernel
theorem dc_To_knows_125 : decode M_To_knows.2.1 125 = .ok (.irem, 1) := by decide +kernel
theorem dc_To_knows_126 : decode M_To_knows.2.1 126 = .ok (.ifCond .ne 7, 3) := by decide +kernel
theorem dc_To_knows_129 : decode M_To_knows.2.1 129 = .ok (.iconst 1, 1) := by decide +kernel
theorem dc_To_knows_130 : decode M_To_knows.2.1 130 = .ok (.goto 4, 3) := by decide +kernel
theorem dc_To_knows_133 : decode M_To_knows.2.1 133 = .ok (.iconst 0, 1) := by decide +kernel
theorem dc_To_knows_134 : decode M_To_knows.2.1 134 = .ok (.if_icmp .eq 7, 3) := by decide +kernel
theorem dc_To_knows_137 : decode M_To_knows.2.1 137 = .ok (.iconst 1, 1) := by decide +kernel
theorem dc_To_knows_138 : decode M_To_knows.2.1 138 = .ok (.goto 4, 3) := by decide +kernel
theorem dc_To_knows_141 : decode M_To_knows.2.1 141 = .ok (.iconst 0, 1) := by decide +kernel
theorem dc_To_knows_142 : decode M_To_knows.2.1 142 = .ok (.ireturn, 1) := by decide +kernel
theorem dc_To_knows_143 : decode M_To_knows.2.1 143 = .ok (.iconst 0, 1) := by decide +kernel
theorem dc_To_knows_144 : decode M_To_knows.2.1 144 = .ok (.ireturn, 1) := by decide +kernel
def f_To_knows (a0 : Nat) (a1 : Int32) (a2 : Int32) (a3 : Int32) (h : xH) : Option (Int32 × xH) := gd (hK h a0 = 8) (if (hI h a0 0) = (1 : Int32) then Option.bind (f_To_areUnlike a1 a2 (2 : Int32) h) (fun q11 => some (nb q11.1, q11.2)) else if (hI h a0 0) = (2 : Int32) then Option.bind (f_To_areNextInRing a0 a1 a2 a3 h) (fun q13 => some (nb q13.1, q13.2)) else if (hI h a0 0) = (3 : Int32) then Option.bind (f_To_areUnlike a1 a2 (2 : Int32) h) (fun q15 => jn (fun (x16 : Int32 × xH) => some (nb x16.1, x16.2)) (fun k17 => jn (fun (x18 : xH) => k17 ((1 : Int32), x18)) (fun k19 => if q15.1 = 0 then gd (hK q15.2 a0 = 8) (Option.bind (f_To_areUnlike a1 a2 ((hI q15.2 a0 1) + (2 : Int32)) q15.2) (fun q22 => if q22.1 = 0 then k17 ((0 : Int32), q22.2) else k19 q22.2)) else k19 q15.2))) else if (hI h a0 0) = (4 : Int32) then Option.bind (f_To_areNextInRing a0 a1 a2 a3 h) (fun q25 => jn (fun (x26 : Int32) => some (nb x26, q25.2)) (fun k27 => jn (fun (x28 : Unit) => k27 (1 : Int32)) (fun k29 => if q25.1 = 0 then if a1 = 0 then k29 () else k27 (0 : Int32) else k29 ()))) else if (hI h a0 0) = (5 : Int32) then Option.bind (f_To_areNextInRing a0 a1 a2 a3 h) (fun q33 => gd (hK q33.2 a0 = 8) (some (nb (if q33.1 = (if (jRem (((a1 * (7 : Int32)) + (a2 * (5 : Int32))) + (hI q33.2 a0 1)) (3 : Int32)) = 0 then (1 : Int32) else (0 : Int32)) then (0 : Int32) else (1 : Int32)), q33.2))) else some ((0 : Int32), h))
theorem t_To_knows {l : Launch} {z : xZ} {d mc ms : Nat} {Ph : Option xV → xH → Prop} {a0 : Nat} {a1 : Int32} {a2 : Int32} {a3 : Int32}  {h : xH} (hd : 2 ≤ d) (hk : OK (f_To_knows a0 a1 a2 a3 h) (fun q => Ph (some (xI q.1)) q.2)) : Sx l z d mc ms M_To_knows 0 (x_en [xR a0, xI a1, xI a2, xI a3] 4) [] h Ph := by
  unfold f_To_knows at hk
  refine sx_eq (lc2 := [some (xR a0), some (xI a1), some (xI a2), some (xI a3)]) rfl rfl ?_
  refine sx_aload_n dc_To_knows_0 rfl ?_
  obtain ⟨g10, hk⟩ := hk.g
  refine sx_get (ci := 8) (k := 0) rfl (by decide) wF_To_9 g10 dc_To_knows_1 ?_
  by_cases c12 : (hI h a0 0) = (1 : Int32)
  · replace hk := hk.t c12
    refine sx_tabIn (off := 36) (tgt := 40) dc_To_knows_4 (by rw [c12]; decide) (by rw [c12]; decide) (by rw [c12]; rfl) (by decide) ?_
    refine sx_iload_n dc_To_knows_40 rfl ?_
    refine sx_iload_n dc_To_knows_41 rfl ?_
    refine sx_iconst (v := (2 : Int32)) dc_To_knows_42 (by decide) ?_
    obtain ⟨q11, eq11, hk⟩ := hk.bind
    refine sx_callS (d2 := d - 1) (mc2 := 0) (ms2 := 0) (as := [xI a1, xI a2, xI (2 : Int32)]) mk_To_areUnlike rfl wM_To_22 mt_To_areUnlike rfl (Nat.le_of_ble_eq_true rfl) (Nat.le_of_ble_eq_true rfl) dc_To_knows_43 (by omega) (Nat.zero_le _) (Nat.zero_le _) ?_
    refine t_To_areUnlike (by omega) ⟨q11, eq11, ?_⟩
    refine sx_eq0 (lc2 := [some (xR a0), some (xI a1), some (xI a2), some (xI a3)]) (st2 := [xI q11.1]) rfl rfl ?_
    exact sx_retT dc_To_knows_46 (Or.inl ⟨rfl, rfl⟩) rfl hk.val
  · replace hk := hk.f c12
    by_cases c14 : (hI h a0 0) = (2 : Int32)
    · replace hk := hk.t c14
      refine sx_tabIn (off := 43) (tgt := 47) dc_To_knows_4 (by rw [c14]; decide) (by rw [c14]; decide) (by rw [c14]; rfl) (by decide) ?_
      refine sx_aload_n dc_To_knows_47 rfl ?_
      refine sx_iload_n dc_To_knows_48 rfl ?_
      refine sx_iload_n dc_To_knows_49 rfl ?_
      refine sx_iload_n dc_To_knows_50 rfl ?_
      obtain ⟨q13, eq13, hk⟩ := hk.bind
      refine sx_callV (d2 := d - 1) (mc2 := 0) (ms2 := 0) (as := [xI a1, xI a2, xI a3]) mk_To_areNextInRing rfl (x_rk (ci := 8) g10 rfl rfl) wM_To_26 mi_To_areNextInRing me_To_areNextInRing rfl (Nat.le_of_ble_eq_true rfl) (Nat.le_of_ble_eq_true rfl) dc_To_knows_51 (by omega) (Nat.zero_le _) (Nat.zero_le _) ?_
      refine t_To_areNextInRing (by omega) ⟨q13, eq13, ?_⟩
      refine sx_eq0 (lc2 := [some (xR a0), some (xI a1), some (xI a2), some (xI a3)]) (st2 := [xI q13.1]) rfl rfl ?_
      exact sx_retT dc_To_knows_54 (Or.inl ⟨rfl, rfl⟩) rfl hk.val
    · replace hk := hk.f c14
      by_cases c24 : (hI h a0 0) = (3 : Int32)
      · replace hk := hk.t c24
        refine sx_tabIn (off := 51) (tgt := 55) dc_To_knows_4 (by rw [c24]; decide) (by rw [c24]; decide) (by rw [c24]; rfl) (by decide) ?_
        refine sx_iload_n dc_To_knows_55 rfl ?_
        refine sx_iload_n dc_To_knows_56 rfl ?_
        refine sx_iconst (v := (2 : Int32)) dc_To_knows_57 (by decide) ?_
        obtain ⟨q15, eq15, hk⟩ := hk.bind
        refine sx_callS (d2 := d - 1) (mc2 := 0) (ms2 := 0) (as := [xI a1, xI a2, xI (2 : Int32)]) mk_To_areUnlike rfl wM_To_22 mt_To_areUnlike rfl (Nat.le_of_ble_eq_true rfl) (Nat.le_of_ble_eq_true rfl) dc_To_knows_58 (by omega) (Nat.zero_le _) (Nat.zero_le _) ?_
        refine t_To_areUnlike (by omega) ⟨q15, eq15, ?_⟩
        refine sx_eq0 (lc2 := [some (xR a0), some (xI a1), some (xI a2), some (xI a3)]) (st2 := [xI q15.1]) rfl rfl ?_
        refine hk.j (X := fun x16 => Sx l z d mc ms M_To_knows 83 [some (xR a0), some (xI a1), some (xI a2), some (xI a3)] [xI x16.1] x16.2 Ph) (fun x16 hk => ?_) (fun k17 jk17 hk => ?_)
        · exact sx_retT dc_To_knows_83 (Or.inl ⟨rfl, rfl⟩) rfl hk.val
        · refine hk.j (X := fun x18 => Sx l z d mc ms M_To_knows 78 [some (xR a0), some (xI a1), some (xI a2), some (xI a3)] [] x18 Ph) (fun x18 hk => ?_) (fun k19 jk19 hk => ?_)
          · refine sx_iconst (v := (1 : Int32)) dc_To_knows_78 (by decide) ?_
            refine sx_goto (tgt := 83) dc_To_knows_79 (by decide) ?_
            exact jk17 ((1 : Int32), x18) hk
          · refine sx_if_ne (tgt := 78) dc_To_knows_61 (by decide) (fun c20 => ?_) (fun c20 => ?_)
            · replace hk := hk.f c20
              exact jk19 q15.2 hk
            · replace hk := hk.t c20
              refine sx_iload_n dc_To_knows_64 rfl ?_
              refine sx_iload_n dc_To_knows_65 rfl ?_
              refine sx_aload_n dc_To_knows_66 rfl ?_
              obtain ⟨g21, hk⟩ := hk.g
              refine sx_get (ci := 8) (k := 1) rfl (by decide) wF_To_15 g21 dc_To_knows_67 ?_
              refine sx_iconst (v := (2 : Int32)) dc_To_knows_70 (by decide) ?_
              refine sx_iadd dc_To_knows_71 ?_
              obtain ⟨q22, eq22, hk⟩ := hk.bind
              refine sx_callS (d2 := d - 1) (mc2 := 0) (ms2 := 0) (as := [xI a1, xI a2, xI ((hI q15.2 a0 1) + (2 : Int32))]) mk_To_areUnlike rfl wM_To_22 mt_To_areUnlike rfl (Nat.le_of_ble_eq_true rfl) (Nat.le_of_ble_eq_true rfl) dc_To_knows_72 (by omega) (Nat.zero_le _) (Nat.zero_le _) ?_
              refine t_To_areUnlike (by omega) ⟨q22, eq22, ?_⟩
              refine sx_eq0 (lc2 := [some (xR a0), some (xI a1), some (xI a2), some (xI a3)]) (st2 := [xI q22.1]) rfl rfl ?_
              refine sx_if_eq (tgt := 82) dc_To_knows_75 (by decide) (fun c23 => ?_) (fun c23 => ?_)
              · replace hk := hk.t c23
                refine sx_iconst (v := (0 : Int32)) dc_To_knows_82 (by decide) ?_
                exact jk17 ((0 : Int32), q22.2) hk
              · replace hk := hk.f c23
                exact jk19 q22.2 hk
      · replace hk := hk.f c24
        by_cases c32 : (hI h a0 0) = (4 : Int32)
        · replace hk := hk.t c32
          refine sx_tabIn (off := 80) (tgt := 84) dc_To_knows_4 (by rw [c32]; decide) (by rw [c32]; decide) (by rw [c32]; rfl) (by decide) ?_
          refine sx_aload_n dc_To_knows_84 rfl ?_
          refine sx_iload_n dc_To_knows_85 rfl ?_
          refine sx_iload_n dc_To_knows_86 rfl ?_
          refine sx_iload_n dc_To_knows_87 rfl ?_
          obtain ⟨q25, eq25, hk⟩ := hk.bind
          refine sx_callV (d2 := d - 1) (mc2 := 0) (ms2 := 0) (as := [xI a1, xI a2, xI a3]) mk_To_areNextInRing rfl (x_rk (ci := 8) g10 rfl rfl) wM_To_26 mi_To_areNextInRing me_To_areNextInRing rfl (Nat.le_of_ble_eq_true rfl) (Nat.le_of_ble_eq_true rfl) dc_To_knows_88 (by omega) (Nat.zero_le _) (Nat.zero_le _) ?_
          refine t_To_areNextInRing (by omega) ⟨q25, eq25, ?_⟩
          refine sx_eq0 (lc2 := [some (xR a0), some (xI a1), some (xI a2), some (xI a3)]) (st2 := [xI q25.1]) rfl rfl ?_
          refine hk.j (X := fun x26 => Sx l z d mc ms M_To_knows 103 [some (xR a0), some (xI a1), some (xI a2), some (xI a3)] [xI x26] q25.2 Ph) (fun x26 hk => ?_) (fun k27 jk27 hk => ?_)
          · exact sx_retT dc_To_knows_103 (Or.inl ⟨rfl, rfl⟩) rfl hk.val
          · refine hk.j (X := fun x28 => Sx l z d mc ms M_To_knows 98 [some (xR a0), some (xI a1), some (xI a2), some (xI a3)] [] q25.2 Ph) (fun x28 hk => ?_) (fun k29 jk29 hk => ?_)
            · refine sx_iconst (v := (1 : Int32)) dc_To_knows_98 (by decide) ?_
              refine sx_goto (tgt := 103) dc_To_knows_99 (by decide) ?_
              exact jk27 (1 : Int32) hk
            · refine sx_if_ne (tgt := 98) dc_To_knows_91 (by decide) (fun c30 => ?_) (fun c30 => ?_)
              · replace hk := hk.f c30
                exact jk29 () hk
              · replace hk := hk.t c30
                refine sx_iload_n dc_To_knows_94 rfl ?_
                refine sx_if_ne (tgt := 102) dc_To_knows_95 (by decide) (fun c31 => ?_) (fun c31 => ?_)
                · replace hk := hk.f c31
                  refine sx_iconst (v := (0 : Int32)) dc_To_knows_102 (by decide) ?_
                  exact jk27 (0 : Int32) hk
                · replace hk := hk.t c31
                  exact jk29 () hk
        · replace hk := hk.f c32
          by_cases c39 : (hI h a0 0) = (5 : Int32)
          · replace hk := hk.t c39
            refine sx_tabIn (off := 100) (tgt := 104) dc_To_knows_4 (by rw [c39]; decide) (by rw [c39]; decide) (by rw [c39]; rfl) (by decide) ?_
            refine sx_aload_n dc_To_knows_104 rfl ?_
            refine sx_iload_n dc_To_knows_105 rfl ?_
            refine sx_iload_n dc_To_knows_106 rfl ?_
            refine sx_iload_n dc_To_knows_107 rfl ?_
            obtain ⟨q33, eq33, hk⟩ := hk.bind
            refine sx_callV (d2 := d - 1) (mc2 := 0) (ms2 := 0) (as := [xI a1, xI a2, xI a3]) mk_To_areNextInRing rfl (x_rk (ci := 8) g10 rfl rfl) wM_To_26 mi_To_areNextInRing me_To_areNextInRing rfl (Nat.le_of_ble_eq_true rfl) (Nat.le_of_ble_eq_true rfl) dc_To_knows_108 (by omega) (Nat.zero_le _) (Nat.zero_le _) ?_
            refine t_To_areNextInRing (by omega) ⟨q33, eq33, ?_⟩
            refine sx_eq0 (lc2 := [some (xR a0), some (xI a1), some (xI a2), some (xI a3)]) (st2 := [xI q33.1]) rfl rfl ?_
            refine sx_iload_n dc_To_knows_111 rfl ?_
            refine sx_bipush (v := (7 : Int32)) dc_To_knows_112 (by decide) ?_
            refine sx_imul dc_To_knows_114 ?_
            refine sx_iload_n dc_To_knows_115 rfl ?_
            refine sx_iconst (v := (5 : Int32)) dc_To_knows_116 (by decide) ?_
            refine sx_imul dc_To_knows_117 ?_
            refine sx_iadd dc_To_knows_118 ?_
            refine sx_aload_n dc_To_knows_119 rfl ?_
            obtain ⟨g34, hk⟩ := hk.g
            refine sx_get (ci := 8) (k := 1) rfl (by decide) wF_To_15 g34 dc_To_knows_120 ?_
            refine sx_iadd dc_To_knows_123 ?_
            refine sx_iconst (v := (3 : Int32)) dc_To_knows_124 (by decide) ?_
            refine sx_irem dc_To_knows_125 (by decide) ?_
            refine sx_mg (pc2 := 134) (lc2 := [some (xR a0), some (xI a1), some (xI a2), some (xI a3)]) (st2 := [xI (if (jRem (((a1 * (7 : Int32)) + (a2 * (5 : Int32))) + (hI q33.2 a0 1)) (3 : Int32)) = 0 then (1 : Int32) else (0 : Int32)), xI q33.1]) (h2 := q33.2) ?_ (fun J35 => ?_)
            · refine sx_mg (pc2 := 142) (lc2 := [some (xR a0), some (xI a1), some (xI a2), some (xI a3)]) (st2 := [xI (if q33.1 = (if (jRem (((a1 * (7 : Int32)) + (a2 * (5 : Int32))) + (hI q33.2 a0 1)) (3 : Int32)) = 0 then (1 : Int32) else (0 : Int32)) then (0 : Int32) else (1 : Int32))]) (h2 := q33.2) ?_ (fun J37 => ?_)
              · exact sx_retT dc_To_knows_142 (Or.inl ⟨rfl, rfl⟩) rfl hk.val
              · refine sx_icmp_eq (tgt := 141) dc_To_knows_134 (by decide) (fun c38 => ?_) (fun c38 => ?_)
                · try simp only [if_pos c38] at J37
                  refine sx_iconst (v := (0 : Int32)) dc_To_knows_141 (by decide) ?_
                  exact J37
                · try simp only [if_neg c38] at J37
                  refine sx_iconst (v := (1 : Int32)) dc_To_knows_137 (by decide) ?_
                  refine sx_goto (tgt := 142) dc_To_knows_138 (by decide) ?_
                  exact J37
            · refine sx_if_ne (tgt := 133) dc_To_knows_126 (by decide) (fun c36 => ?_) (fun c36 => ?_)
              · try simp only [if_neg c36] at J35
                refine sx_iconst (v := (0 : Int32)) dc_To_knows_133 (by decide) ?_
                exact J35
              · try simp only [if_pos c36] at J35
                refine sx_iconst (v := (1 : Int32)) dc_To_knows_129 (by decide) ?_
                refine sx_goto (tgt := 134) dc_To_knows_130 (by decide) ?_
                exact J35
          · replace hk := hk.f c39
            refine sx_tabOut (tgt := 143) dc_To_knows_4 (sw_out (fun k h1 h2 => ?_)) (by decide) ?_
            · have h3 : k = 1 ∨ k = 2 ∨ k = 3 ∨ k = 4 ∨ k = 5 := by omega
              rcases h3 with rfl | rfl | rfl | rfl | rfl
              · exact c12
              · exact c14
              · exact c24
              · exact c32
              · exact c39
            · refine sx_iconst (v := (0 : Int32)) dc_To_knows_143 (by decide) ?_
              exact sx_retT (v := (0 : Int32)) dc_To_knows_144 (Or.inl ⟨rfl, rfl⟩) (by decide) hk.val

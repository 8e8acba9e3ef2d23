theorem dc_Mo_text_0 : decode M_Mo_text.2.1 0 = .ok (.aload_n 0, 1) := by decide +kernel
theorem dc_Mo_text_1 : decode M_Mo_text.2.1 1 = .ok (.getfield 70, 3) := by decide +kernel
theorem dc_Mo_text_4 : decode M_Mo_text.2.1 4 = .ok (.bipush 6, 2) := by decide +kernel
theorem dc_Mo_text_6 : decode M_Mo_text.2.1 6 = .ok (.if_icmp .ne 6, 3) := by decide +kernel
theorem dc_Mo_text_9 : decode M_Mo_text.2.1 9 = .ok (.bipush (-4), 2) := by decide +kernel
theorem dc_Mo_text_11 : decode M_Mo_text.2.1 11 = .ok (.ireturn, 1) := by decide +kernel
theorem dc_Mo_text_12 : decode M_Mo_text.2.1 12 = .ok (.iconst 0, 1) := by decide +kernel
theorem dc_Mo_text_13 : decode M_Mo_text.2.1 13 = .ok (.istore_n 1, 1) := by decide +kernel
theorem dc_Mo_text_14 : decode M_Mo_text.2.1 14 = .ok (.iload_n 1, 1) := by decide +kernel
theorem dc_Mo_text_15 : decode M_Mo_text.2.1 15 = .ok (.aload_n 0, 1) := by decide +kernel
theorem dc_Mo_text_16 : decode M_Mo_text.2.1 16 = .ok (.getfield 126, 3) := by decide +kernel
theorem dc_Mo_text_19 : decode M_Mo_text.2.1 19 = .ok (.if_icmp .ge 30, 3) := by decide +kernel
theorem dc_Mo_text_22 : decode M_Mo_text.2.1 22 = .ok (.aload_n 0, 1) := by decide +kernel
theorem dc_Mo_text_23 : decode M_Mo_text.2.1 23 = .ok (.getfield 13, 3) := by decide +kernel
theorem dc_Mo_text_26 : decode M_Mo_text.2.1 26 = .ok (.sipush 160, 3) := by decide +kernel
theorem dc_Mo_text_29 : decode M_Mo_text.2.1 29 = .ok (.aload_n 0, 1) := by decide +kernel
theorem dc_Mo_text_30 : decode M_Mo_text.2.1 30 = .ok (.getfield 70, 3) := by decide +kernel
theorem dc_Mo_text_33 : decode M_Mo_text.2.1 33 = .ok (.imul, 1) := by decide +kernel
theorem dc_Mo_text_34 : decode M_Mo_text.2.1 34 = .ok (.iload_n 1, 1) := by decide +kernel
theorem dc_Mo_text_35 : decode M_Mo_text.2.1 35 = .ok (.iadd, 1) := by decide +kernel
theorem dc_Mo_text_36 : decode M_Mo_text.2.1 36 = .ok (.aload_n 0, 1) := by decide +kernel
theorem dc_Mo_text_37 : decode M_Mo_text.2.1 37 = .ok (.getfield 20, 3) := by decide +kernel
theorem dc_Mo_text_40 : decode M_Mo_text.2.1 40 = .ok (.iload_n 1, 1) := by decide +kernel
theorem dc_Mo_text_41 : decode M_Mo_text.2.1 41 = .ok (.iaload, 1) := by decide +kernel
theorem dc_Mo_text_42 : decode M_Mo_text.2.1 42 = .ok (.iastore, 1) := by decide +kernel
theorem dc_Mo_text_43 : decode M_Mo_text.2.1 43 = .ok (.iinc 1 1, 3) := by decide +kernel
theorem dc_Mo_text_46 : decode M_Mo_text.2.1 46 = .ok (.goto (-32), 3) := by decide +kernel
theorem dc_Mo_text_49 : decode M_Mo_text.2.1 49 = .ok (.aload_n 0, 1) := by decide +kernel
theorem dc_Mo_text_50 : decode M_Mo_text.2.1 50 = .ok (.getfield 17, 3) := by decide +kernel
theorem dc_Mo_text_53 : decode M_Mo_text.2.1 53 = .ok (.aload_n 0, 1) := by decide +kernel
theorem dc_Mo_text_54 : decode M_Mo_text.2.1 54 = .ok (.getfield 70, 3) := by decide +kernel
theorem dc_Mo_text_57 : decode M_Mo_text.2.1 57 = .ok (.aload_n 0, 1) := by decide +kernel
theorem dc_Mo_text_58 : decode M_Mo_text.2.1 58 = .ok (.getfield 126, 3) := by decide +kernel
theorem dc_Mo_text_61 : decode M_Mo_text.2.1 61 = .ok (.iastore, 1) := by decide +kernel
theorem dc_Mo_text_62 : decode M_Mo_text.2.1 62 = .ok (.aload_n 0, 1) := by decide +kernel
theorem dc_Mo_text_63 : decode M_Mo_text.2.1 63 = .ok (.iconst 0, 1) := by decide +kernel
theorem dc_Mo_text_64 : decode M_Mo_text.2.1 64 = .ok (.putfield 126, 3) := by decide +kernel
theorem dc_Mo_text_67 : decode M_Mo_text.2.1 67 = .ok (.aload_n 0, 1) := by decide +kernel
theorem dc_Mo_text_68 : decode M_Mo_text.2.1 68 = .ok (.aload_n 0, 1) := by decide +kernel
theorem dc_Mo_text_69 : decode M_Mo_text.2.1 69 = .ok (.getfield 70, 3) := by decide +kernel
theorem dc_Mo_text_72 : decode M_Mo_text.2.1 72 = .ok (.iconst 0, 1) := by decide +kernel
theorem dc_Mo_text_73 : decode M_Mo_text.2.1 73 = .ok (.invokevirtual 239, 3) := by decide +kernel
theorem dc_Mo_text_76 : decode M_Mo_text.2.1 76 = .ok (.istore_n 1, 1) := by decide +kernel
theorem dc_Mo_text_77 : decode M_Mo_text.2.1 77 = .ok (.aload_n 0, 1) := by decide +kernel
theorem dc_Mo_text_78 : decode M_Mo_text.2.1 78 = .ok (.getfield 161, 3) := by decide +kernel
theorem dc_Mo_text_81 : decode M_Mo_text.2.1 81 = .ok (.ifCond .eq 11, 3) := by decide +kernel
theorem dc_Mo_text_84 : decode M_Mo_text.2.1 84 = .ok (.bipush (-100), 2) := by decide +kernel
theorem dc_Mo_text_86 : decode M_Mo_text.2.1 86 = .ok (.aload_n 0, 1) := by decide +kernel
theorem dc_Mo_text_87 : decode M_Mo_text.2.1 87 = .ok (.getfield 165, 3) := by decide +kernel
theorem dc_Mo_text_90 : decode M_Mo_text.2.1 90 = .ok (.isub, 1) := by decide +kernel
theorem dc_Mo_text_91 : decode M_Mo_text.2.1 91 = .ok (.ireturn, 1) := by decide +kernel
theorem dc_Mo_text_92 : decode M_Mo_text.2.1 92 = .ok (.aload_n 0, 1) := by decide +kernel
theorem dc_Mo_text_93 : decode M_Mo_text.2.1 93 = .ok (.dup, 1) := by decide +kernel
theorem dc_Mo_text_94 : decode M_Mo_text.2.1 94 = .ok (.getfield 70, 3) := by decide +kernel
theorem dc_Mo_text_97 : decode M_Mo_text.2.1 97 = .ok (.iconst 1, 1) := by decide +kernel
theorem dc_Mo_text_98 : decode M_Mo_text.2.1 98 = .ok (.iadd, 1) := by decide +kernel
theorem dc_Mo_text_99 : decode M_Mo_text.2.1 99 = .ok (.putfield 70, 3) := by decide +kernel
theorem dc_Mo_text_102 : decode M_Mo_text.2.1 102 = .ok (.aload_n 0, 1) := by decide +kernel
theorem dc_Mo_text_103 : decode M_Mo_text.2.1 103 = .ok (.getfield 70, 3) := by decide +kernel
theorem dc_Mo_text_106 : decode M_Mo_text.2.1 106 = .ok (.iconst 1, 1) := by decide +kernel
theorem dc_Mo_text_107 : decode M_Mo_text.2.1 107 = .ok (.isub, 1) := by decide +kernel
theorem dc_Mo_text_108 : decode M_Mo_text.2.1 108 = .ok (.ireturn, 1) := by decide +kernel
def f_Mo_text_L14 (a0 : Nat) : Nat → Int32 → xH → (Int32 → xH → Option (Int32 × xH)) → Option (Int32 × xH)
  | 0, _, _, _ => none
  | n + 1, a1, h, K => gd (hK h a0 = 11) (if (hI h a0 6) ≤ a1 then K a1 h else gd (hK h (hR h a0 5) = 12) (gd (¬ (a1 < 0 ∨ hL h (hR h a0 5) ≤ a1.toNatClampNeg)) (gd (hK h (hR h a0 1) = 12) (gd (¬ ((((160 : Int32) * (hI h a0 3)) + a1) < 0 ∨ hL h (hR h a0 1) ≤ (((160 : Int32) * (hI h a0 3)) + a1).toNatClampNeg)) (f_Mo_text_L14 a0 n (a1 + (1 : Int32)) (hIu h (hR h a0 1) (((160 : Int32) * (hI h a0 3)) + a1).toNatClampNeg (hI h (hR h a0 5) a1.toNatClampNeg)) K)))))
def f_Mo_text (a0 : Nat) (h : xH) : Option (Int32 × xH) := gd (hK h a0 = 11) (if (hI h a0 3) = (6 : Int32) then some ((-4 : Int32), h) else f_Mo_text_L14 a0 fu (0 : Int32) h (fun v18 h19 => gd (hK h19 a0 = 11) (gd (hK h19 (hR h19 a0 2) = 12) (gd (¬ ((hI h19 a0 3) < 0 ∨ hL h19 (hR h19 a0 2) ≤ (hI h19 a0 3).toNatClampNeg)) (Option.bind (f_Mo_read a0 (hI (hIu (hIu h19 (hR h19 a0 2) (hI h19 a0 3).toNatClampNeg (hI h19 a0 6)) a0 6 (0 : Int32)) a0 3) (0 : Int32) (hIu (hIu h19 (hR h19 a0 2) (hI h19 a0 3).toNatClampNeg (hI h19 a0 6)) a0 6 (0 : Int32))) (fun q23 => gd (hK q23.2 a0 = 11) (if (hI q23.2 a0 26) = 0 then some ((hI (hIu q23.2 a0 3 ((hI q23.2 a0 3) + (1 : Int32))) a0 3) - (1 : Int32), hIu q23.2 a0 3 ((hI q23.2 a0 3) + (1 : Int32))) else some ((-100 : Int32) - (hI q23.2 a0 27), q23.2))))))))
theorem t_Mo_text_L14 {l : Launch} {z : xZ} {d mc ms : Nat} {Ph : Option xV → xH → Prop} {a0 : Nat}  (hd : 1 ≤ d) : ∀ (n : Nat) (a1 : Int32) (h : xH) (K : Int32 → xH → Option (Int32 × xH)), OK (f_Mo_text_L14 a0 n a1 h K) (fun q => Ph (some (xI q.1)) q.2) → (∀ (a1 : Int32) (h : xH), OK (K a1 h) (fun q => Ph (some (xI q.1)) q.2) → Sx l z d mc ms M_Mo_text 49 [some (xR a0), some (xI a1)] [] h Ph) → Sx l z d mc ms M_Mo_text 14 [some (xR a0), some (xI a1)] [] h Ph := by
  intro n
  induction n with
  | zero => intro a1 h K hk hE; exact hk.no
  | succ n ih =>
    intro a1 h K hk hE
    rw [f_Mo_text_L14] at hk
    refine sx_iload_n dc_Mo_text_14 rfl ?_
    refine sx_aload_n dc_Mo_text_15 rfl ?_
    obtain ⟨g12, hk⟩ := hk.g
    refine sx_get (ci := 11) (k := 6) rfl (by decide) wF_Mo_126 g12 dc_Mo_text_16 ?_
    refine sx_icmp_ge (tgt := 49) dc_Mo_text_19 (by decide) (fun c13 => ?_) (fun c13 => ?_)
    · replace hk := hk.t c13
      exact hE a1 h hk
    · replace hk := hk.f c13
      refine sx_aload_n dc_Mo_text_22 rfl ?_
      refine sx_get (ci := 11) (k := 1) rfl (by decide) wF_Mo_13 g12 dc_Mo_text_23 ?_
      refine sx_sipush (v := (160 : Int32)) dc_Mo_text_26 (by decide) ?_
      refine sx_aload_n dc_Mo_text_29 rfl ?_
      refine sx_get (ci := 11) (k := 3) rfl (by decide) wF_Mo_70 g12 dc_Mo_text_30 ?_
      refine sx_imul dc_Mo_text_33 ?_
      refine sx_iload_n dc_Mo_text_34 rfl ?_
      refine sx_iadd dc_Mo_text_35 ?_
      refine sx_aload_n dc_Mo_text_36 rfl ?_
      refine sx_get (ci := 11) (k := 5) rfl (by decide) wF_Mo_20 g12 dc_Mo_text_37 ?_
      refine sx_iload_n dc_Mo_text_40 rfl ?_
      obtain ⟨g14, hk⟩ := hk.g
      obtain ⟨g15, hk⟩ := hk.g
      refine sx_iald g14 g15 dc_Mo_text_41 ?_
      obtain ⟨g16, hk⟩ := hk.g
      obtain ⟨g17, hk⟩ := hk.g
      refine sx_iast g16 g17 dc_Mo_text_42 ?_
      refine sx_iinc (v := (1 : Int32)) dc_Mo_text_43 rfl (by decide) (by decide) (sx_eq (lc2 := [some (xR a0), some (xI (a1 + (1 : Int32)))]) rfl rfl ?_)
      refine sx_goto (tgt := 14) dc_Mo_text_46 (by decide) ?_
      exact ih (a1 + (1 : Int32)) (hIu h (hR h a0 1) (((160 : Int32) * (hI h a0 3)) + a1).toNatClampNeg (hI h (hR h a0 5) a1.toNatClampNeg)) _ hk hE
theorem t_Mo_text {l : Launch} {z : xZ} {d mc ms : Nat} {Ph : Option xV → xH → Prop} {a0 : Nat}  {h : xH} (hd : 152 ≤ d) (hk : OK (f_Mo_text a0 h) (fun q => Ph (some (xI q.1)) q.2)) : Sx l z d mc ms M_Mo_text 0 (x_en [xR a0] 2) [] h Ph := by
  unfold f_Mo_text at hk
  refine sx_eq (lc2 := [some (xR a0), none]) rfl rfl ?_
  refine sx_aload_n dc_Mo_text_0 rfl ?_
  obtain ⟨g10, hk⟩ := hk.g
  refine sx_get (ci := 11) (k := 3) rfl (by decide) wF_Mo_70 g10 dc_Mo_text_1 ?_
  refine sx_bipush (v := (6 : Int32)) dc_Mo_text_4 (by decide) ?_
  refine sx_icmp_ne (tgt := 12) dc_Mo_text_6 (by decide) (fun c11 => ?_) (fun c11 => ?_)
  · replace hk := hk.f c11
    refine sx_iconst (v := (0 : Int32)) dc_Mo_text_12 (by decide) ?_
    refine sx_istore_n dc_Mo_text_13 (by decide) (sx_eq (lc2 := [some (xR a0), some (xI (0 : Int32))]) rfl rfl ?_)
    refine t_Mo_text_L14 (by omega) _ _ _ _ hk (fun v18 h19 hk => ?_)
    refine sx_aload_n dc_Mo_text_49 rfl ?_
    obtain ⟨g20, hk⟩ := hk.g
    refine sx_get (ci := 11) (k := 2) rfl (by decide) wF_Mo_17 g20 dc_Mo_text_50 ?_
    refine sx_aload_n dc_Mo_text_53 rfl ?_
    refine sx_get (ci := 11) (k := 3) rfl (by decide) wF_Mo_70 g20 dc_Mo_text_54 ?_
    refine sx_aload_n dc_Mo_text_57 rfl ?_
    refine sx_get (ci := 11) (k := 6) rfl (by decide) wF_Mo_126 g20 dc_Mo_text_58 ?_
    obtain ⟨g21, hk⟩ := hk.g
    obtain ⟨g22, hk⟩ := hk.g
    refine sx_iast g21 g22 dc_Mo_text_61 ?_
    refine sx_aload_n dc_Mo_text_62 rfl ?_
    refine sx_iconst (v := (0 : Int32)) dc_Mo_text_63 (by decide) ?_
    refine sx_putI (ci := 11) (k := 6) rfl (by decide) wF_Mo_126 rfl g20 (Or.inl rfl) dc_Mo_text_64 ?_
    refine sx_aload_n dc_Mo_text_67 rfl ?_
    refine sx_aload_n dc_Mo_text_68 rfl ?_
    refine sx_get (ci := 11) (k := 3) rfl (by decide) wF_Mo_70 g20 dc_Mo_text_69 ?_
    refine sx_iconst (v := (0 : Int32)) dc_Mo_text_72 (by decide) ?_
    obtain ⟨q23, eq23, hk⟩ := hk.bind
    refine sx_callV (d2 := d - 1) (mc2 := 0) (ms2 := 0) (as := [xI (hI (hIu (hIu h19 (hR h19 a0 2) (hI h19 a0 3).toNatClampNeg (hI h19 a0 6)) a0 6 (0 : Int32)) a0 3), xI (0 : Int32)]) mk_Mo_read rfl (x_rk (ci := 11) g20 rfl rfl) wM_Mo_239 mi_Mo_read me_Mo_read rfl (Nat.le_of_ble_eq_true rfl) (Nat.le_of_ble_eq_true rfl) dc_Mo_text_73 (by omega) (Nat.zero_le _) (Nat.zero_le _) ?_
    refine t_Mo_read (by omega) ⟨q23, eq23, ?_⟩
    refine sx_eq0 (lc2 := [some (xR a0), some (xI v18)]) (st2 := [xI q23.1]) rfl rfl ?_
    refine sx_istore_n dc_Mo_text_76 (by decide) (sx_eq (lc2 := [some (xR a0), some (xI q23.1)]) rfl rfl ?_)
    refine sx_aload_n dc_Mo_text_77 rfl ?_
    obtain ⟨g24, hk⟩ := hk.g
    refine sx_get (ci := 11) (k := 26) rfl (by decide) wF_Mo_161 g24 dc_Mo_text_78 ?_
    refine sx_if_eq (tgt := 92) dc_Mo_text_81 (by decide) (fun c25 => ?_) (fun c25 => ?_)
    · replace hk := hk.t c25
      refine sx_aload_n dc_Mo_text_92 rfl ?_
      refine sx_dup dc_Mo_text_93 rfl ?_
      refine sx_get (ci := 11) (k := 3) rfl (by decide) wF_Mo_70 g24 dc_Mo_text_94 ?_
      refine sx_iconst (v := (1 : Int32)) dc_Mo_text_97 (by decide) ?_
      refine sx_iadd dc_Mo_text_98 ?_
      refine sx_putI (ci := 11) (k := 3) rfl (by decide) wF_Mo_70 rfl g24 (Or.inl rfl) dc_Mo_text_99 ?_
      refine sx_aload_n dc_Mo_text_102 rfl ?_
      refine sx_get (ci := 11) (k := 3) rfl (by decide) wF_Mo_70 g24 dc_Mo_text_103 ?_
      refine sx_iconst (v := (1 : Int32)) dc_Mo_text_106 (by decide) ?_
      refine sx_isub dc_Mo_text_107 ?_
      exact sx_retI dc_Mo_text_108 rfl hk.val
    · replace hk := hk.f c25
      refine sx_bipush (v := (-100 : Int32)) dc_Mo_text_84 (by decide) ?_
      refine sx_aload_n dc_Mo_text_86 rfl ?_
      refine sx_get (ci := 11) (k := 27) rfl (by decide) wF_Mo_165 g24 dc_Mo_text_87 ?_
      refine sx_isub dc_Mo_text_90 ?_
      exact sx_retI dc_Mo_text_91 rfl hk.val
  · replace hk := hk.t c11
    refine sx_bipush (v := (-4 : Int32)) dc_Mo_text_9 (by decide) ?_
    exact sx_retI dc_Mo_text_11 rfl hk.val
theorem dc_Mo_force_0 : decode M_Mo_force.2.1 0 = .ok (.iload_n 1, 1) := by decide +kernel
theorem dc_Mo_force_1 : decode M_Mo_force.2.1 1 = .ok (.i2l, 1) := by decide +kernel
theorem dc_Mo_force_2 : decode M_Mo_force.2.1 2 = .ok (.lconst 0, 1) := by decide +kernel
theorem dc_Mo_force_3 : decode M_Mo_force.2.1 3 = .ok (.aload_n 0, 1) := by decide +kernel
theorem dc_Mo_force_4 : decode M_Mo_force.2.1 4 = .ok (.getfield 70, 3) := by decide +kernel
theorem dc_Mo_force_7 : decode M_Mo_force.2.1 7 = .ok (.iconst 1, 1) := by decide +kernel
theorem dc_Mo_force_8 : decode M_Mo_force.2.1 8 = .ok (.isub, 1) := by decide +kernel
theorem dc_Mo_force_9 : decode M_Mo_force.2.1 9 = .ok (.i2l, 1) := by decide +kernel
theorem dc_Mo_force_10 : decode M_Mo_force.2.1 10 = .ok (.invokestatic 73, 3) := by decide +kernel
theorem dc_Mo_force_13 : decode M_Mo_force.2.1 13 = .ok (.ifCond .ne 6, 3) := by decide +kernel
theorem dc_Mo_force_16 : decode M_Mo_force.2.1 16 = .ok (.bipush (-2), 2) := by decide +kernel
theorem dc_Mo_force_18 : decode M_Mo_force.2.1 18 = .ok (.ireturn, 1) := by decide +kernel
theorem dc_Mo_force_19 : decode M_Mo_force.2.1 19 = .ok (.aload_n 0, 1) := by decide +kernel
theorem dc_Mo_force_20 : decode M_Mo_force.2.1 20 = .ok (.getfield 242, 3) := by decide +kernel
theorem dc_Mo_force_23 : decode M_Mo_force.2.1 23 = .ok (.istore_n 2, 1) := by decide +kernel
theorem dc_Mo_force_24 : decode M_Mo_force.2.1 24 = .ok (.aload_n 0, 1) := by decide +kernel
theorem dc_Mo_force_25 : decode M_Mo_force.2.1 25 = .ok (.iload_n 1, 1) := by decide +kernel
theorem dc_Mo_force_26 : decode M_Mo_force.2.1 26 = .ok (.putfield 242, 3) := by decide +kernel
theorem dc_Mo_force_29 : decode M_Mo_force.2.1 29 = .ok (.iload_n 2, 1) := by decide +kernel
theorem dc_Mo_force_30 : decode M_Mo_force.2.1 30 = .ok (.ireturn, 1) := by decide +kernel
def f_Mo_force (a0 : Nat) (a1 : Int32) (h : xH) : Option (Int32 × xH) := gd (hK h a0 = 11) (Option.bind (f_Mo_in a1.toInt64 (0 : Int64) (((hI h a0 3) - (1 : Int32)).toInt64) h) (fun q5 => if q5.1 = 0 then some ((-2 : Int32), q5.2) else gd (hK q5.2 a0 = 11) (some (hI q5.2 a0 4, hIu q5.2 a0 4 a1))))
theorem t_Mo_force {l : Launch} {z : xZ} {d mc ms : Nat} {Ph : Option xV → xH → Prop} {a0 : Nat} {a1 : Int32}  {h : xH} (hd : 2 ≤ d) (hk : OK (f_Mo_force a0 a1 h) (fun q => Ph (some (xI q.1)) q.2)) : Sx l z d mc ms M_Mo_force 0 (x_en [xR a0, xI a1] 3) [] h Ph := by
  unfold f_Mo_force at hk
  refine sx_eq (lc2 := [some (xR a0), some (xI a1), none]) rfl rfl ?_
  refine sx_iload_n dc_Mo_force_0 rfl ?_
  refine sx_i2l dc_Mo_force_1 ?_
  refine sx_lconst (v := 0) dc_Mo_force_2 (by decide) ?_
  refine sx_aload_n dc_Mo_force_3 rfl ?_
  obtain ⟨g4, hk⟩ := hk.g
  refine sx_get (ci := 11) (k := 3) rfl (by decide) wF_Mo_70 g4 dc_Mo_force_4 ?_
  refine sx_iconst (v := (1 : Int32)) dc_Mo_force_7 (by decide) ?_
  refine sx_isub dc_Mo_force_8 ?_
  refine sx_i2l dc_Mo_force_9 ?_
  obtain ⟨q5, eq5, hk⟩ := hk.bind
  refine sx_callS (d2 := d - 1) (mc2 := 0) (ms2 := 0) (as := [xJ a1.toInt64, xJ (0 : Int64), xJ (((hI h a0 3) - (1 : Int32)).toInt64)]) mk_Mo_in rfl wM_Mo_73 mt_Mo_in rfl (Nat.le_of_ble_eq_true rfl) (Nat.le_of_ble_eq_true rfl) dc_Mo_force_10 (by omega) (Nat.zero_le _) (Nat.zero_le _) ?_
  refine t_Mo_in (by omega) ⟨q5, eq5, ?_⟩
  refine sx_eq0 (lc2 := [some (xR a0), some (xI a1), none]) (st2 := [xI q5.1]) rfl rfl ?_
  refine sx_if_ne (tgt := 19) dc_Mo_force_13 (by decide) (fun c6 => ?_) (fun c6 => ?_)
  · replace hk := hk.f c6
    refine sx_aload_n dc_Mo_force_19 rfl ?_
    obtain ⟨g7, hk⟩ := hk.g
    refine sx_get (ci := 11) (k := 4) rfl (by decide) wF_Mo_242 g7 dc_Mo_force_20 ?_
    refine sx_istore_n dc_Mo_force_23 (by decide) (sx_eq (lc2 := [some (xR a0), some (xI a1), some (xI (hI q5.2 a0 4))]) rfl rfl ?_)
    refine sx_aload_n dc_Mo_force_24 rfl ?_
    refine sx_iload_n dc_Mo_force_25 rfl ?_
    refine sx_putI (ci := 11) (k := 4) rfl (by decide) wF_Mo_242 rfl g7 (Or.inl rfl) dc_Mo_force_26 ?_
    refine sx_iload_n dc_Mo_force_29 rfl ?_
    exact sx_retI dc_Mo_force_30 rfl hk.val
  · replace hk := hk.t c6
    refine sx_bipush (v := (-2 : Int32)) dc_Mo_force_16 (by decide) ?_
    exact sx_retI dc_Mo_force_18 rfl hk.val
theorem dc_Mo_says_0 : decode M_Mo_says.2.1 0 = .ok (.aload_n 0, 1) := by decide +kernel
theorem dc_Mo_says_1 : decode M_Mo_says.2.1 1 = .ok (.iload_n 2, 1) := by decide +kernel
theorem dc_Mo_says_2 : decode M_Mo_says.2.1 2 = .ok (.putfield 184, 3) := by decide +kernel
theorem dc_Mo_says_5 : decode M_Mo_says.2.1 5 = .ok (.aload_n 0, 1) := by decide +kernel
theorem dc_Mo_says_6 : decode M_Mo_says.2.1 6 = .ok (.iload_n 3, 1) := by decide +kernel
theorem dc_Mo_says_7 : decode M_Mo_says.2.1 7 = .ok (.putfield 187, 3) := by decide +kernel
theorem dc_Mo_says_10 : decode M_Mo_says.2.1 10 = .ok (.aload_n 0, 1) := by decide +kernel
theorem dc_Mo_says_11 : decode M_Mo_says.2.1 11 = .ok (.iload 4, 2) := by decide +kernel
theorem dc_Mo_says_13 : decode M_Mo_says.2.1 13 = .ok (.putfield 190, 3) := by decide +kernel
theorem dc_Mo_says_16 : decode M_Mo_says.2.1 16 = .ok (.aload_n 0, 1) := by decide +kernel
theorem dc_Mo_says_17 : decode M_Mo_says.2.1 17 = .ok (.iload 5, 2) := by decide +kernel
theorem dc_Mo_says_19 : decode M_Mo_says.2.1 19 = .ok (.putfield 193, 3) := by decide +kernel
theorem dc_Mo_says_22 : decode M_Mo_says.2.1 22 = .ok (.aload_n 0, 1) := by decide +kernel
theorem dc_Mo_says_23 : decode M_Mo_says.2.1 23 = .ok (.iload 6, 2) := by decide +kernel
theorem dc_Mo_says_25 : decode M_Mo_says.2.1 25 = .ok (.putfield 196, 3) := by decide +kernel
theorem dc_Mo_says_28 : decode M_Mo_says.2.1 28 = .ok (.aload_n 0, 1) := by decide +kernel
theorem dc_Mo_says_29 : decode M_Mo_says.2.1 29 = .ok (.aload_n 0, 1) := by decide +kernel
theorem dc_Mo_says_30 : decode M_Mo_says.2.1 30 = .ok (.getfield 23, 3) := by decide +kernel
theorem dc_Mo_says_33 : decode M_Mo_says.2.1 33 = .ok (.putfield 199, 3) := by decide +kernel
theorem dc_Mo_says_36 : decode M_Mo_says.2.1 36 = .ok (.aload_n 0, 1) := by decide +kernel
theorem dc_Mo_says_37 : decode M_Mo_says.2.1 37 = .ok (.aload_n 0, 1) := by decide +kernel
theorem dc_Mo_says_38 : decode M_Mo_says.2.1 38 = .ok (.getfield 242, 3) := by decide +kernel
theorem dc_Mo_says_41 : decode M_Mo_says.2.1 41 = .ok (.iload_n 1, 1) := by decide +kernel
theorem dc_Mo_says_42 : decode M_Mo_says.2.1 42 = .ok (.invokevirtual 239, 3) := by decide +kernel
theorem dc_Mo_says_45 : decode M_Mo_says.2.1 45 = .ok (.ireturn, 1) := by decide +kernel
def f_Mo_says (a0 : Nat) (a1 : Int32) (a2 : Int32) (a3 : Int32) (a4 : Int32) (a5 : Int32) (a6 : Int32) (h : xH) : Option (Int32 × xH) := gd (hK h a0 = 11) (hp (hIu (hIu (hIu (hIu (hIu (hIu h a0 13 a2) a0 14 a3) a0 15 a4) a0 16 a5) a0 17 a6) a0 18 (hI (hIu (hIu (hIu (hIu (hIu h a0 13 a2) a0 14 a3) a0 15 a4) a0 16 a5) a0 17 a6) a0 7)) (fun h4 => Option.bind (f_Mo_read a0 (hI h4 a0 4) a1 h4) (fun q6 => some (q6.1, q6.2))))
theorem t_Mo_says {l : Launch} {z : xZ} {d mc ms : Nat} {Ph : Option xV → xH → Prop} {a0 : Nat} {a1 : Int32} {a2 : Int32} {a3 : Int32} {a4 : Int32} {a5 : Int32} {a6 : Int32}  {h : xH} (hd : 152 ≤ d) (hk : OK (f_Mo_says a0 a1 a2 a3 a4 a5 a6 h) (fun q => Ph (some (xI q.1)) q.2)) : Sx l z d mc ms M_Mo_says 0 (x_en [xR a0, xI a1, xI a2, xI a3, xI a4, xI a5, xI a6] 7) [] h Ph := by
  unfold f_Mo_says at hk
  refine sx_eq (lc2 := [some (xR a0), some (xI a1), some (xI a2), some (xI a3), some (xI a4), some (xI a5), some (xI a6)]) rfl rfl ?_
  refine sx_aload_n dc_Mo_says_0 rfl ?_
  refine sx_iload_n dc_Mo_says_1 rfl ?_
  obtain ⟨g3, hk⟩ := hk.g
  refine sx_putI (ci := 11) (k := 13) rfl (by decide) wF_Mo_184 rfl g3 (Or.inl rfl) dc_Mo_says_2 ?_
  refine sx_aload_n dc_Mo_says_5 rfl ?_
  refine sx_iload_n dc_Mo_says_6 rfl ?_
  refine sx_putI (ci := 11) (k := 14) rfl (by decide) wF_Mo_187 rfl g3 (Or.inl rfl) dc_Mo_says_7 ?_
  refine sx_aload_n dc_Mo_says_10 rfl ?_
  refine sx_iload dc_Mo_says_11 rfl ?_
  refine sx_putI (ci := 11) (k := 15) rfl (by decide) wF_Mo_190 rfl g3 (Or.inl rfl) dc_Mo_says_13 ?_
  refine sx_aload_n dc_Mo_says_16 rfl ?_
  refine sx_iload dc_Mo_says_17 rfl ?_
  refine sx_putI (ci := 11) (k := 16) rfl (by decide) wF_Mo_193 rfl g3 (Or.inl rfl) dc_Mo_says_19 ?_
  refine sx_aload_n dc_Mo_says_22 rfl ?_
  refine sx_iload dc_Mo_says_23 rfl ?_
  refine sx_putI (ci := 11) (k := 17) rfl (by decide) wF_Mo_196 rfl g3 (Or.inl rfl) dc_Mo_says_25 ?_
  refine sx_aload_n dc_Mo_says_28 rfl ?_
  refine sx_aload_n dc_Mo_says_29 rfl ?_
  refine sx_get (ci := 11) (k := 7) rfl (by decide) wF_Mo_23 g3 dc_Mo_says_30 ?_
  refine sx_putI (ci := 11) (k := 18) rfl (by decide) wF_Mo_199 rfl g3 (Or.inl rfl) dc_Mo_says_33 ?_
  obtain ⟨h4, eh4, hk⟩ := hk.h
  refine sx_hp eh4 ?_
  have g5 : hK h4 a0 = 11 := by rw [eh4]; exact g3
  refine sx_aload_n dc_Mo_says_36 rfl ?_
  refine sx_aload_n dc_Mo_says_37 rfl ?_
  refine sx_get (ci := 11) (k := 4) rfl (by decide) wF_Mo_242 g5 dc_Mo_says_38 ?_
  refine sx_iload_n dc_Mo_says_41 rfl ?_
  obtain ⟨q6, eq6, hk⟩ := hk.bind
  refine sx_callV (d2 := d - 1) (mc2 := 0) (ms2 := 0) (as := [xI (hI h4 a0 4), xI a1]) mk_Mo_read rfl (x_rk (ci := 11) g5 rfl rfl) wM_Mo_239 mi_Mo_read me_Mo_read rfl (Nat.le_of_ble_eq_true rfl) (Nat.le_of_ble_eq_true rfl) dc_Mo_says_42 (by omega) (Nat.zero_le _) (Nat.zero_le _) ?_
  refine t_Mo_read (by omega) ⟨q6, eq6, ?_⟩
  refine sx_eq0 (lc2 := [some (xR a0), some (xI a1), some (xI a2), some (xI a3), some (xI a4), some (xI a5), some (xI a6)]) (st2 := [xI q6.1]) rfl rfl ?_
  exact sx_retI dc_Mo_says_45 rfl hk.val
theorem dc_Mo_gathers_0 : decode M_Mo_gathers.2.1 0 = .ok (.aload_n 0, 1) := by decide +kernel
theorem dc_Mo_gathers_1 : decode M_Mo_gathers.2.1 1 = .ok (.iconst 0, 1) := by decide +kernel
theorem dc_Mo_gathers_2 : decode M_Mo_gathers.2.1 2 = .ok (.putfield 245, 3) := by decide +kernel
theorem dc_Mo_gathers_5 : decode M_Mo_gathers.2.1 5 = .ok (.iconst 0, 1) := by decide +kernel
theorem dc_Mo_gathers_6 : decode M_Mo_gathers.2.1 6 = .ok (.istore_n 1, 1) := by decide +kernel
theorem dc_Mo_gathers_7 : decode M_Mo_gathers.2.1 7 = .ok (.iload_n 1, 1) := by decide +kernel
theorem dc_Mo_gathers_8 : decode M_Mo_gathers.2.1 8 = .ok (.aload_n 0, 1) := by decide +kernel
theorem dc_Mo_gathers_9 : decode M_Mo_gathers.2.1 9 = .ok (.getfield 23, 3) := by decide +kernel
theorem dc_Mo_gathers_12 : decode M_Mo_gathers.2.1 12 = .ok (.if_icmp .ge 161, 3) := by decide +kernel
theorem dc_Mo_gathers_15 : decode M_Mo_gathers.2.1 15 = .ok (.iload_n 1, 1) := by decide +kernel
theorem dc_Mo_gathers_16 : decode M_Mo_gathers.2.1 16 = .ok (.iconst 1, 1) := by decide +kernel
theorem dc_Mo_gathers_17 : decode M_Mo_gathers.2.1 17 = .ok (.iadd, 1) := by decide +kernel
theorem dc_Mo_gathers_18 : decode M_Mo_gathers.2.1 18 = .ok (.istore_n 2, 1) := by decide +kernel
theorem dc_Mo_gathers_19 : decode M_Mo_gathers.2.1 19 = .ok (.iload_n 2, 1) := by decide +kernel
theorem dc_Mo_gathers_20 : decode M_Mo_gathers.2.1 20 = .ok (.aload_n 0, 1) := by decide +kernel
theorem dc_Mo_gathers_21 : decode M_Mo_gathers.2.1 21 = .ok (.getfield 23, 3) := by decide +kernel
theorem dc_Mo_gathers_24 : decode M_Mo_gathers.2.1 24 = .ok (.if_icmp .ge 143, 3) := by decide +kernel
theorem dc_Mo_gathers_27 : decode M_Mo_gathers.2.1 27 = .ok (.iload_n 2, 1) := by decide +kernel
theorem dc_Mo_gathers_28 : decode M_Mo_gathers.2.1 28 = .ok (.iconst 1, 1) := by decide +kernel
theorem dc_Mo_gathers_29 : decode M_Mo_gathers.2.1 29 = .ok (.iadd, 1) := by decide +kernel
theorem dc_Mo_gathers_30 : decode M_Mo_gathers.2.1 30 = .ok (.istore_n 3, 1) := by decide +kernel
theorem dc_Mo_gathers_31 : decode M_Mo_gathers.2.1 31 = .ok (.iload_n 3, 1) := by decide +kernel
theorem dc_Mo_gathers_32 : decode M_Mo_gathers.2.1 32 = .ok (.aload_n 0, 1) := by decide +kernel
theorem dc_Mo_gathers_33 : decode M_Mo_gathers.2.1 33 = .ok (.getfield 23, 3) := by decide +kernel
theorem dc_Mo_gathers_36 : decode M_Mo_gathers.2.1 36 = .ok (.if_icmp .ge 125, 3) := by decide +kernel
theorem dc_Mo_gathers_39 : decode M_Mo_gathers.2.1 39 = .ok (.aload_n 0, 1) := by decide +kernel
theorem dc_Mo_gathers_40 : decode M_Mo_gathers.2.1 40 = .ok (.getfield 35, 3) := by decide +kernel
theorem dc_Mo_gathers_43 : decode M_Mo_gathers.2.1 43 = .ok (.aload_n 0, 1) := by decide +kernel
theorem dc_Mo_gathers_44 : decode M_Mo_gathers.2.1 44 = .ok (.getfield 245, 3) := by decide +kernel
theorem dc_Mo_gathers_47 : decode M_Mo_gathers.2.1 47 = .ok (.iconst 1, 1) := by decide +kernel
theorem dc_Mo_gathers_48 : decode M_Mo_gathers.2.1 48 = .ok (.iload_n 1, 1) := by decide +kernel
theorem dc_Mo_gathers_49 : decode M_Mo_gathers.2.1 49 = .ok (.iload_n 2, 1) := by decide +kernel
theorem dc_Mo_gathers_50 : decode M_Mo_gathers.2.1 50 = .ok (.invokestatic 80, 3) := by decide +kernel
theorem dc_Mo_gathers_53 : decode M_Mo_gathers.2.1 53 = .ok (.ishl, 1) := by decide +kernel
theorem dc_Mo_gathers_54 : decode M_Mo_gathers.2.1 54 = .ok (.iconst 1, 1) := by decide +kernel
theorem dc_Mo_gathers_55 : decode M_Mo_gathers.2.1 55 = .ok (.iload_n 1, 1) := by decide +kernel
theorem dc_Mo_gathers_56 : decode M_Mo_gathers.2.1 56 = .ok (.iload_n 3, 1) := by decide +kernel
theorem dc_Mo_gathers_57 : decode M_Mo_gathers.2.1 57 = .ok (.invokestatic 80, 3) := by decide +kernel
theorem dc_Mo_gathers_60 : decode M_Mo_gathers.2.1 60 = .ok (.ishl, 1) := by decide +kernel
theorem dc_Mo_gathers_61 : decode M_Mo_gathers.2.1 61 = .ok (.ior, 1) := by decide +kernel
theorem dc_Mo_gathers_62 : decode M_Mo_gathers.2.1 62 = .ok (.iconst 1, 1) := by decide +kernel
theorem dc_Mo_gathers_63 : decode M_Mo_gathers.2.1 63 = .ok (.iload_n 2, 1) := by decide +kernel
theorem dc_Mo_gathers_64 : decode M_Mo_gathers.2.1 64 = .ok (.iload_n 3, 1) := by decide +kernel
theorem dc_Mo_gathers_65 : decode M_Mo_gathers.2.1 65 = .ok (.invokestatic 80, 3) := by decide +kernel
theorem dc_Mo_gathers_68 : decode M_Mo_gathers.2.1 68 = .ok (.ishl, 1) := by decide +kernel
theorem dc_Mo_gathers_69 : decode M_Mo_gathers.2.1 69 = .ok (.ior, 1) := by decide +kernel
theorem dc_Mo_gathers_70 : decode M_Mo_gathers.2.1 70 = .ok (.iastore, 1) := by decide +kernel
theorem dc_Mo_gathers_71 : decode M_Mo_gathers.2.1 71 = .ok (.aload_n 0, 1) := by decide +kernel
theorem dc_Mo_gathers_72 : decode M_Mo_gathers.2.1 72 = .ok (.getfield 38, 3) := by decide +kernel
theorem dc_Mo_gathers_75 : decode M_Mo_gathers.2.1 75 = .ok (.aload_n 0, 1) := by decide +kernel
theorem dc_Mo_gathers_76 : decode M_Mo_gathers.2.1 76 = .ok (.getfield 245, 3) := by decide +kernel
theorem dc_Mo_gathers_79 : decode M_Mo_gathers.2.1 79 = .ok (.bipush 100, 2) := by decide +kernel
theorem dc_Mo_gathers_81 : decode M_Mo_gathers.2.1 81 = .ok (.iload_n 1, 1) := by decide +kernel
theorem dc_Mo_gathers_82 : decode M_Mo_gathers.2.1 82 = .ok (.imul, 1) := by decide +kernel
theorem dc_Mo_gathers_83 : decode M_Mo_gathers.2.1 83 = .ok (.bipush 10, 2) := by decide +kernel
theorem dc_Mo_gathers_85 : decode M_Mo_gathers.2.1 85 = .ok (.iload_n 2, 1) := by decide +kernel
theorem dc_Mo_gathers_86 : decode M_Mo_gathers.2.1 86 = .ok (.imul, 1) := by decide +kernel
theorem dc_Mo_gathers_87 : decode M_Mo_gathers.2.1 87 = .ok (.iadd, 1) := by decide +kernel
theorem dc_Mo_gathers_88 : decode M_Mo_gathers.2.1 88 = .ok (.iload_n 3, 1) := by decide +kernel
theorem dc_Mo_gathers_89 : decode M_Mo_gathers.2.1 89 = .ok (.iadd, 1) := by decide +kernel
theorem dc_Mo_gathers_90 : decode M_Mo_gathers.2.1 90 = .ok (.iastore, 1) := by decide +kernel
theorem dc_Mo_gathers_91 : decode M_Mo_gathers.2.1 91 = .ok (.aload_n 0, 1) := by decide +kernel
theorem dc_Mo_gathers_92 : decode M_Mo_gathers.2.1 92 = .ok (.getfield 41, 3) := by decide +kernel
theorem dc_Mo_gathers_95 : decode M_Mo_gathers.2.1 95 = .ok (.aload_n 0, 1) := by decide +kernel
theorem dc_Mo_gathers_96 : decode M_Mo_gathers.2.1 96 = .ok (.getfield 245, 3) := by decide +kernel
theorem dc_Mo_gathers_99 : decode M_Mo_gathers.2.1 99 = .ok (.aload_n 0, 1) := by decide +kernel
theorem dc_Mo_gathers_100 : decode M_Mo_gathers.2.1 100 = .ok (.iconst 0, 1) := by decide +kernel
theorem dc_Mo_gathers_101 : decode M_Mo_gathers.2.1 101 = .ok (.iload_n 1, 1) := by decide +kernel
theorem dc_Mo_gathers_102 : decode M_Mo_gathers.2.1 102 = .ok (.iload_n 2, 1) := by decide +kernel
theorem dc_Mo_gathers_103 : decode M_Mo_gathers.2.1 103 = .ok (.iload_n 3, 1) := by decide +kernel
theorem dc_Mo_gathers_104 : decode M_Mo_gathers.2.1 104 = .ok (.iconst 3, 1) := by decide +kernel
theorem dc_Mo_gathers_105 : decode M_Mo_gathers.2.1 105 = .ok (.iconst 3, 1) := by decide +kernel
theorem dc_Mo_gathers_106 : decode M_Mo_gathers.2.1 106 = .ok (.invokevirtual 248, 3) := by decide +kernel
theorem dc_Mo_gathers_109 : decode M_Mo_gathers.2.1 109 = .ok (.ifCond .eq 7, 3) := by decide +kernel
theorem dc_Mo_gathers_112 : decode M_Mo_gathers.2.1 112 = .ok (.iconst 1, 1) := by decide +kernel
theorem dc_Mo_gathers_113 : decode M_Mo_gathers.2.1 113 = .ok (.goto 4, 3) := by decide +kernel
theorem dc_Mo_gathers_116 : decode M_Mo_gathers.2.1 116 = .ok (.iconst 0, 1) := by decide +kernel
theorem dc_Mo_gathers_117 : decode M_Mo_gathers.2.1 117 = .ok (.bastore, 1) := by decide +kernel
theorem dc_Mo_gathers_118 : decode M_Mo_gathers.2.1 118 = .ok (.aload_n 0, 1) := by decide +kernel
theorem dc_Mo_gathers_119 : decode M_Mo_gathers.2.1 119 = .ok (.getfield 45, 3) := by decide +kernel
theorem dc_Mo_gathers_122 : decode M_Mo_gathers.2.1 122 = .ok (.aload_n 0, 1) := by decide +kernel
theorem dc_Mo_gathers_123 : decode M_Mo_gathers.2.1 123 = .ok (.getfield 245, 3) := by decide +kernel
theorem dc_Mo_gathers_126 : decode M_Mo_gathers.2.1 126 = .ok (.aload_n 0, 1) := by decide +kernel
theorem dc_Mo_gathers_127 : decode M_Mo_gathers.2.1 127 = .ok (.iconst 0, 1) := by decide +kernel
theorem dc_Mo_gathers_128 : decode M_Mo_gathers.2.1 128 = .ok (.iload_n 1, 1) := by decide +kernel
theorem dc_Mo_gathers_129 : decode M_Mo_gathers.2.1 129 = .ok (.iload_n 2, 1) := by decide +kernel
theorem dc_Mo_gathers_130 : decode M_Mo_gathers.2.1 130 = .ok (.iload_n 3, 1) := by decide +kernel
theorem dc_Mo_gathers_131 : decode M_Mo_gathers.2.1 131 = .ok (.iconst 0, 1) := by decide +kernel
theorem dc_Mo_gathers_132 : decode M_Mo_gathers.2.1 132 = .ok (.iconst 3, 1) := by decide +kernel
theorem dc_Mo_gathers_133 : decode M_Mo_gathers.2.1 133 = .ok (.invokevirtual 248, 3) := by decide +kernel
theorem dc_Mo_gathers_136 : decode M_Mo_gathers.2.1 136 = .ok (.ifCond .eq 7, 3) := by decide +kernel
theorem dc_Mo_gathers_139 : decode M_Mo_gathers.2.1 139 = .ok (.iconst 1, 1) := by decide +kernel
theorem dc_Mo_gathers_140 : decode M_Mo_gathers.2.1 140 = .ok (.goto 4, 3) := by decide +kernel
theorem dc_Mo_gathers_143 : decode M_Mo_gathers.2.1 143 = .ok (.iconst 0, 1) := by decide +kernel
theorem dc_Mo_gathers_144 : decode M_Mo_gathers.2.1 144 = .ok (.bastore, 1) := by decide +kernel
theorem dc_Mo_gathers_145 : decode M_Mo_gathers.2.1 145 = .ok (.aload_n 0, 1) := by decide +kernel
theorem dc_Mo_gathers_146 : decode M_Mo_gathers.2.1 146 = .ok (.dup, 1) := by decide +kernel
theorem dc_Mo_gathers_147 : decode M_Mo_gathers.2.1 147 = .ok (.getfield 245, 3) := by decide +kernel
theorem dc_Mo_gathers_150 : decode M_Mo_gathers.2.1 150 = .ok (.iconst 1, 1) := by decide +kernel
theorem dc_Mo_gathers_151 : decode M_Mo_gathers.2.1 151 = .ok (.iadd, 1) := by decide +kernel
theorem dc_Mo_gathers_152 : decode M_Mo_gathers.2.1 152 = .ok (.putfield 245, 3) := by decide +kernel
theorem dc_Mo_gathers_155 : decode M_Mo_gathers.2.1 155 = .ok (.iinc 3 1, 3) := by decide +kernel
theorem dc_Mo_gathers_158 : decode M_Mo_gathers.2.1 158 = .ok (.goto (-127), 3) := by decide +kernel
theorem dc_Mo_gathers_161 : decode M_Mo_gathers.2.1 161 = .ok (.iinc 2 1, 3) := by decide +kernel
theorem dc_Mo_gathers_164 : decode M_Mo_gathers.2.1 164 = .ok (.goto (-145), 3) := by decide +kernel
theorem dc_Mo_gathers_167 : decode M_Mo_gathers.2.1 167 = .ok (.iinc 1 1, 3) := by decide +kernel
theorem dc_Mo_gathers_170 : decode M_Mo_gathers.2.1 170 = .ok (.goto (-163), 3) := by decide +kernel
theorem dc_Mo_gathers_173 : decode M_Mo_gathers.2.1 173 = .ok (.return_, 1) := by decide +kernel
def f_Mo_gathers_L31 (a0 : Nat) (a1 : Int32) (a2 : Int32) : Nat → Int32 → xH → (Int32 → xH → Option (Unit × xH)) → Option (Unit × xH)
  | 0, _, _, _ => none
  | n + 1, a3, h, K => gd (hK h a0 = 11) (if (hI h a0 7) ≤ a3 then K a3 h else Option.bind (f_Mo_seat a1 a2 h) (fun q25 => Option.bind (f_Mo_seat a1 a3 q25.2) (fun q26 => Option.bind (f_Mo_seat a2 a3 q26.2) (fun q27 => gd (hK q27.2 (hR h a0 28) = 12) (gd (¬ ((hI h a0 32) < 0 ∨ hL q27.2 (hR h a0 28) ≤ (hI h a0 32).toNatClampNeg)) (gd (hK q27.2 a0 = 11) (gd (hK q27.2 (hR q27.2 a0 29) = 12) (gd (¬ ((hI (hIu q27.2 (hR h a0 28) (hI h a0 32).toNatClampNeg (((jShl (1 : Int32) q25.1) ||| (jShl (1 : Int32) q26.1)) ||| (jShl (1 : Int32) q27.1))) a0 32) < 0 ∨ hL q27.2 (hR q27.2 a0 29) ≤ (hI (hIu q27.2 (hR h a0 28) (hI h a0 32).toNatClampNeg (((jShl (1 : Int32) q25.1) ||| (jShl (1 : Int32) q26.1)) ||| (jShl (1 : Int32) q27.1))) a0 32).toNatClampNeg)) (hp (hIu (hIu q27.2 (hR h a0 28) (hI h a0 32).toNatClampNeg (((jShl (1 : Int32) q25.1) ||| (jShl (1 : Int32) q26.1)) ||| (jShl (1 : Int32) q27.1))) (hR q27.2 a0 29) (hI (hIu q27.2 (hR h a0 28) (hI h a0 32).toNatClampNeg (((jShl (1 : Int32) q25.1) ||| (jShl (1 : Int32) q26.1)) ||| (jShl (1 : Int32) q27.1))) a0 32).toNatClampNeg ((((100 : Int32) * a1) + ((10 : Int32) * a2)) + a3)) (fun h33 => Option.bind (f_Mo_says a0 (0 : Int32) a1 a2 a3 (3 : Int32) (3 : Int32) h33) (fun q37 => gd (hK q37.2 (hR h33 a0 30) = 13) (gd (¬ ((hI h33 a0 32) < 0 ∨ hL q37.2 (hR h33 a0 30) ≤ (hI h33 a0 32).toNatClampNeg)) (gd (hK q37.2 a0 = 11) (Option.bind (f_Mo_says a0 (0 : Int32) a1 a2 a3 (0 : Int32) (3 : Int32) (hIu q37.2 (hR h33 a0 30) (hI h33 a0 32).toNatClampNeg (nb (if q37.1 = 0 then (0 : Int32) else (1 : Int32))))) (fun q43 => gd (hK q43.2 (hR q37.2 a0 31) = 13) (gd (¬ ((hI (hIu q37.2 (hR h33 a0 30) (hI h33 a0 32).toNatClampNeg (nb (if q37.1 = 0 then (0 : Int32) else (1 : Int32)))) a0 32) < 0 ∨ hL q43.2 (hR q37.2 a0 31) ≤ (hI (hIu q37.2 (hR h33 a0 30) (hI h33 a0 32).toNatClampNeg (nb (if q37.1 = 0 then (0 : Int32) else (1 : Int32)))) a0 32).toNatClampNeg)) (hp (hIu q43.2 (hR q37.2 a0 31) (hI (hIu q37.2 (hR h33 a0 30) (hI h33 a0 32).toNatClampNeg (nb (if q37.1 = 0 then (0 : Int32) else (1 : Int32)))) a0 32).toNatClampNeg (nb (if q43.1 = 0 then (0 : Int32) else (1 : Int32)))) (fun h48 => gd (hK h48 a0 = 11) (f_Mo_gathers_L31 a0 a1 a2 n (a3 + (1 : Int32)) (hIu h48 a0 32 ((hI h48 a0 32) + (1 : Int32))) K)))))))))))))))))))
def f_Mo_gathers_L19 (a0 : Nat) (a1 : Int32) : Nat → Int32 → xH → (Int32 → xH → Option (Unit × xH)) → Option (Unit × xH)
  | 0, _, _, _ => none
  | n + 1, a2, h, K => gd (hK h a0 = 11) (if (hI h a0 7) ≤ a2 then K a2 h else f_Mo_gathers_L31 a0 a1 a2 fu (a2 + (1 : Int32)) h (fun v51 h52 => f_Mo_gathers_L19 a0 a1 n (a2 + (1 : Int32)) h52 K))
def f_Mo_gathers_L7 (a0 : Nat) : Nat → Int32 → xH → (Int32 → xH → Option (Unit × xH)) → Option (Unit × xH)
  | 0, _, _, _ => none
  | n + 1, a1, h, K => gd (hK h a0 = 11) (if (hI h a0 7) ≤ a1 then K a1 h else f_Mo_gathers_L19 a0 a1 fu (a1 + (1 : Int32)) h (fun v53 h54 => f_Mo_gathers_L7 a0 n (a1 + (1 : Int32)) h54 K))
def f_Mo_gathers (a0 : Nat) (h : xH) : Option (Unit × xH) := gd (hK h a0 = 11) (f_Mo_gathers_L7 a0 fu (0 : Int32) (hIu h a0 32 (0 : Int32)) (fun v55 h56 => some ((), h56)))
theorem t_Mo_gathers_L31 {l : Launch} {z : xZ} {d mc ms : Nat} {Ph : Option xV → xH → Prop} {a0 : Nat} {a1 : Int32} {a2 : Int32}  (hd : 153 ≤ d) : ∀ (n : Nat) (a3 : Int32) (h : xH) (K : Int32 → xH → Option (Unit × xH)), OK (f_Mo_gathers_L31 a0 a1 a2 n a3 h K) (fun q => Ph (none) q.2) → (∀ (a3 : Int32) (h : xH), OK (K a3 h) (fun q => Ph (none) q.2) → Sx l z d mc ms M_Mo_gathers 161 [some (xR a0), some (xI a1), some (xI a2), some (xI a3)] [] h Ph) → Sx l z d mc ms M_Mo_gathers 31 [some (xR a0), some (xI a1), some (xI a2), some (xI a3)] [] h Ph := by
  intro n
  induction n with
  | zero => intro a3 h K hk hE; exact hk.no
  | succ n ih =>
    intro a3 h K hk hE
    rw [f_Mo_gathers_L31] at hk
    refine sx_iload_n dc_Mo_gathers_31 rfl ?_
    refine sx_aload_n dc_Mo_gathers_32 rfl ?_
    obtain ⟨g23, hk⟩ := hk.g
    refine sx_get (ci := 11) (k := 7) rfl (by decide) wF_Mo_23 g23 dc_Mo_gathers_33 ?_
    refine sx_icmp_ge (tgt := 161) dc_Mo_gathers_36 (by decide) (fun c24 => ?_) (fun c24 => ?_)
    · replace hk := hk.t c24
      exact hE a3 h hk
    · replace hk := hk.f c24
      refine sx_aload_n dc_Mo_gathers_39 rfl ?_
      refine sx_get (ci := 11) (k := 28) rfl (by decide) wF_Mo_35 g23 dc_Mo_gathers_40 ?_
      refine sx_aload_n dc_Mo_gathers_43 rfl ?_
      refine sx_get (ci := 11) (k := 32) rfl (by decide) wF_Mo_245 g23 dc_Mo_gathers_44 ?_
      refine sx_iconst (v := (1 : Int32)) dc_Mo_gathers_47 (by decide) ?_
      refine sx_iload_n dc_Mo_gathers_48 rfl ?_
      refine sx_iload_n dc_Mo_gathers_49 rfl ?_
      obtain ⟨q25, eq25, hk⟩ := hk.bind
      refine sx_callS (d2 := d - 1) (mc2 := 0) (ms2 := 0) (as := [xI a1, xI a2]) mk_Mo_seat rfl wM_Mo_80 mt_Mo_seat rfl (Nat.le_of_ble_eq_true rfl) (Nat.le_of_ble_eq_true rfl) dc_Mo_gathers_50 (by omega) (Nat.zero_le _) (Nat.zero_le _) ?_
      refine t_Mo_seat (by omega) ⟨q25, eq25, ?_⟩
      refine sx_eq0 (lc2 := [some (xR a0), some (xI a1), some (xI a2), some (xI a3)]) (st2 := [xI q25.1, xI (1 : Int32), xI (hI h a0 32), xR (hR h a0 28)]) rfl rfl ?_
      refine sx_ishl dc_Mo_gathers_53 ?_
      refine sx_iconst (v := (1 : Int32)) dc_Mo_gathers_54 (by decide) ?_
      refine sx_iload_n dc_Mo_gathers_55 rfl ?_
      refine sx_iload_n dc_Mo_gathers_56 rfl ?_
      obtain ⟨q26, eq26, hk⟩ := hk.bind
      refine sx_callS (d2 := d - 1) (mc2 := 0) (ms2 := 0) (as := [xI a1, xI a3]) mk_Mo_seat rfl wM_Mo_80 mt_Mo_seat rfl (Nat.le_of_ble_eq_true rfl) (Nat.le_of_ble_eq_true rfl) dc_Mo_gathers_57 (by omega) (Nat.zero_le _) (Nat.zero_le _) ?_
      refine t_Mo_seat (by omega) ⟨q26, eq26, ?_⟩
      refine sx_eq0 (lc2 := [some (xR a0), some (xI a1), some (xI a2), some (xI a3)]) (st2 := [xI q26.1, xI (1 : Int32), xI (jShl (1 : Int32) q25.1), xI (hI h a0 32), xR (hR h a0 28)]) rfl rfl ?_
      refine sx_ishl dc_Mo_gathers_60 ?_
      refine sx_ior dc_Mo_gathers_61 ?_
      refine sx_iconst (v := (1 : Int32)) dc_Mo_gathers_62 (by decide) ?_
      refine sx_iload_n dc_Mo_gathers_63 rfl ?_
      refine sx_iload_n dc_Mo_gathers_64 rfl ?_
      obtain ⟨q27, eq27, hk⟩ := hk.bind
      refine sx_callS (d2 := d - 1) (mc2 := 0) (ms2 := 0) (as := [xI a2, xI a3]) mk_Mo_seat rfl wM_Mo_80 mt_Mo_seat rfl (Nat.le_of_ble_eq_true rfl) (Nat.le_of_ble_eq_true rfl) dc_Mo_gathers_65 (by omega) (Nat.zero_le _) (Nat.zero_le _) ?_
      refine t_Mo_seat (by omega) ⟨q27, eq27, ?_⟩
      refine sx_eq0 (lc2 := [some (xR a0), some (xI a1), some (xI a2), some (xI a3)]) (st2 := [xI q27.1, xI (1 : Int32), xI ((jShl (1 : Int32) q25.1) ||| (jShl (1 : Int32) q26.1)), xI (hI h a0 32), xR (hR h a0 28)]) rfl rfl ?_
      refine sx_ishl dc_Mo_gathers_68 ?_
      refine sx_ior dc_Mo_gathers_69 ?_
      obtain ⟨g28, hk⟩ := hk.g
      obtain ⟨g29, hk⟩ := hk.g
      refine sx_iast g28 g29 dc_Mo_gathers_70 ?_
      refine sx_aload_n dc_Mo_gathers_71 rfl ?_
      obtain ⟨g30, hk⟩ := hk.g
      refine sx_get (ci := 11) (k := 29) rfl (by decide) wF_Mo_38 g30 dc_Mo_gathers_72 ?_
      refine sx_aload_n dc_Mo_gathers_75 rfl ?_
      refine sx_get (ci := 11) (k := 32) rfl (by decide) wF_Mo_245 g30 dc_Mo_gathers_76 ?_
      refine sx_bipush (v := (100 : Int32)) dc_Mo_gathers_79 (by decide) ?_
      refine sx_iload_n dc_Mo_gathers_81 rfl ?_
      refine sx_imul dc_Mo_gathers_82 ?_
      refine sx_bipush (v := (10 : Int32)) dc_Mo_gathers_83 (by decide) ?_
      refine sx_iload_n dc_Mo_gathers_85 rfl ?_
      refine sx_imul dc_Mo_gathers_86 ?_
      refine sx_iadd dc_Mo_gathers_87 ?_
      refine sx_iload_n dc_Mo_gathers_88 rfl ?_
      refine sx_iadd dc_Mo_gathers_89 ?_
      obtain ⟨g31, hk⟩ := hk.g
      obtain ⟨g32, hk⟩ := hk.g
      refine sx_iast g31 g32 dc_Mo_gathers_90 ?_
      obtain ⟨h33, eh33, hk⟩ := hk.h
      refine sx_hp eh33 ?_
      have g34 : hK h33 (hR h a0 28) = 12 := by rw [eh33]; exact g28
      have g35 : hK h33 a0 = 11 := by rw [eh33]; exact g30
      have g36 : hK h33 (hR q27.2 a0 29) = 12 := by rw [eh33]; exact g31
      refine sx_aload_n dc_Mo_gathers_91 rfl ?_
      refine sx_get (ci := 11) (k := 30) rfl (by decide) wF_Mo_41 g35 dc_Mo_gathers_92 ?_
      refine sx_aload_n dc_Mo_gathers_95 rfl ?_
      refine sx_get (ci := 11) (k := 32) rfl (by decide) wF_Mo_245 g35 dc_Mo_gathers_96 ?_
      refine sx_aload_n dc_Mo_gathers_99 rfl ?_
      refine sx_iconst (v := (0 : Int32)) dc_Mo_gathers_100 (by decide) ?_
      refine sx_iload_n dc_Mo_gathers_101 rfl ?_
      refine sx_iload_n dc_Mo_gathers_102 rfl ?_
      refine sx_iload_n dc_Mo_gathers_103 rfl ?_
      refine sx_iconst (v := (3 : Int32)) dc_Mo_gathers_104 (by decide) ?_
      refine sx_iconst (v := (3 : Int32)) dc_Mo_gathers_105 (by decide) ?_
      obtain ⟨q37, eq37, hk⟩ := hk.bind
      refine sx_callV (d2 := d - 1) (mc2 := 0) (ms2 := 0) (as := [xI (0 : Int32), xI a1, xI a2, xI a3, xI (3 : Int32), xI (3 : Int32)]) mk_Mo_says rfl (x_rk (ci := 11) g35 rfl rfl) wM_Mo_248 mi_Mo_says me_Mo_says rfl (Nat.le_of_ble_eq_true rfl) (Nat.le_of_ble_eq_true rfl) dc_Mo_gathers_106 (by omega) (Nat.zero_le _) (Nat.zero_le _) ?_
      refine t_Mo_says (by omega) ⟨q37, eq37, ?_⟩
      refine sx_eq0 (lc2 := [some (xR a0), some (xI a1), some (xI a2), some (xI a3)]) (st2 := [xI q37.1, xI (hI h33 a0 32), xR (hR h33 a0 30)]) rfl rfl ?_
      refine sx_mg (pc2 := 117) (lc2 := [some (xR a0), some (xI a1), some (xI a2), some (xI a3)]) (st2 := [xI (if q37.1 = 0 then (0 : Int32) else (1 : Int32)), xI (hI h33 a0 32), xR (hR h33 a0 30)]) (h2 := q37.2) ?_ (fun J38 => ?_)
      · obtain ⟨g40, hk⟩ := hk.g
        obtain ⟨g41, hk⟩ := hk.g
        refine sx_zast g40 g41 dc_Mo_gathers_117 ?_
        refine sx_aload_n dc_Mo_gathers_118 rfl ?_
        obtain ⟨g42, hk⟩ := hk.g
        refine sx_get (ci := 11) (k := 31) rfl (by decide) wF_Mo_45 g42 dc_Mo_gathers_119 ?_
        refine sx_aload_n dc_Mo_gathers_122 rfl ?_
        refine sx_get (ci := 11) (k := 32) rfl (by decide) wF_Mo_245 g42 dc_Mo_gathers_123 ?_
        refine sx_aload_n dc_Mo_gathers_126 rfl ?_
        refine sx_iconst (v := (0 : Int32)) dc_Mo_gathers_127 (by decide) ?_
        refine sx_iload_n dc_Mo_gathers_128 rfl ?_
        refine sx_iload_n dc_Mo_gathers_129 rfl ?_
        refine sx_iload_n dc_Mo_gathers_130 rfl ?_
        refine sx_iconst (v := (0 : Int32)) dc_Mo_gathers_131 (by decide) ?_
        refine sx_iconst (v := (3 : Int32)) dc_Mo_gathers_132 (by decide) ?_
        obtain ⟨q43, eq43, hk⟩ := hk.bind
        refine sx_callV (d2 := d - 1) (mc2 := 0) (ms2 := 0) (as := [xI (0 : Int32), xI a1, xI a2, xI a3, xI (0 : Int32), xI (3 : Int32)]) mk_Mo_says rfl (x_rk (ci := 11) g42 rfl rfl) wM_Mo_248 mi_Mo_says me_Mo_says rfl (Nat.le_of_ble_eq_true rfl) (Nat.le_of_ble_eq_true rfl) dc_Mo_gathers_133 (by omega) (Nat.zero_le _) (Nat.zero_le _) ?_
        refine t_Mo_says (by omega) ⟨q43, eq43, ?_⟩
        refine sx_eq0 (lc2 := [some (xR a0), some (xI a1), some (xI a2), some (xI a3)]) (st2 := [xI q43.1, xI (hI (hIu q37.2 (hR h33 a0 30) (hI h33 a0 32).toNatClampNeg (nb (if q37.1 = 0 then (0 : Int32) else (1 : Int32)))) a0 32), xR (hR q37.2 a0 31)]) rfl rfl ?_
        refine sx_mg (pc2 := 144) (lc2 := [some (xR a0), some (xI a1), some (xI a2), some (xI a3)]) (st2 := [xI (if q43.1 = 0 then (0 : Int32) else (1 : Int32)), xI (hI (hIu q37.2 (hR h33 a0 30) (hI h33 a0 32).toNatClampNeg (nb (if q37.1 = 0 then (0 : Int32) else (1 : Int32)))) a0 32), xR (hR q37.2 a0 31)]) (h2 := q43.2) ?_ (fun J44 => ?_)
        · obtain ⟨g46, hk⟩ := hk.g
          obtain ⟨g47, hk⟩ := hk.g
          refine sx_zast g46 g47 dc_Mo_gathers_144 ?_
          obtain ⟨h48, eh48, hk⟩ := hk.h
          refine sx_hp eh48 ?_
          have g49 : hK h48 (hR q37.2 a0 31) = 13 := by rw [eh48]; exact g46
          refine sx_aload_n dc_Mo_gathers_145 rfl ?_
          refine sx_dup dc_Mo_gathers_146 rfl ?_
          obtain ⟨g50, hk⟩ := hk.g
          refine sx_get (ci := 11) (k := 32) rfl (by decide) wF_Mo_245 g50 dc_Mo_gathers_147 ?_
          refine sx_iconst (v := (1 : Int32)) dc_Mo_gathers_150 (by decide) ?_
          refine sx_iadd dc_Mo_gathers_151 ?_
          refine sx_putI (ci := 11) (k := 32) rfl (by decide) wF_Mo_245 rfl g50 (Or.inl rfl) dc_Mo_gathers_152 ?_
          refine sx_iinc (v := (1 : Int32)) dc_Mo_gathers_155 rfl (by decide) (by decide) (sx_eq (lc2 := [some (xR a0), some (xI a1), some (xI a2), some (xI (a3 + (1 : Int32)))]) rfl rfl ?_)
          refine sx_goto (tgt := 31) dc_Mo_gathers_158 (by decide) ?_
          exact ih (a3 + (1 : Int32)) (hIu h48 a0 32 ((hI h48 a0 32) + (1 : Int32))) _ hk hE
        · refine sx_if_eq (tgt := 143) dc_Mo_gathers_136 (by decide) (fun c45 => ?_) (fun c45 => ?_)
          · try simp only [if_pos c45] at J44
            refine sx_iconst (v := (0 : Int32)) dc_Mo_gathers_143 (by decide) ?_
            exact J44
          · try simp only [if_neg c45] at J44
            refine sx_iconst (v := (1 : Int32)) dc_Mo_gathers_139 (by decide) ?_
            refine sx_goto (tgt := 144) dc_Mo_gathers_140 (by decide) ?_
            exact J44
      · refine sx_if_eq (tgt := 116) dc_Mo_gathers_109 (by decide) (fun c39 => ?_) (fun c39 => ?_)
        · try simp only [if_pos c39] at J38
          refine sx_iconst (v := (0 : Int32)) dc_Mo_gathers_116 (by decide) ?_
          exact J38
        · try simp only [if_neg c39] at J38
          refine sx_iconst (v := (1 : Int32)) dc_Mo_gathers_112 (by decide) ?_
          refine sx_goto (tgt := 117) dc_Mo_gathers_113 (by decide) ?_
          exact J38
theorem t_Mo_gathers_L19 {l : Launch} {z : xZ} {d mc ms : Nat} {Ph : Option xV → xH → Prop} {a0 : Nat} {a1 : Int32}  (hd : 153 ≤ d) : ∀ (n : Nat) (a2 : Int32) (h : xH) (K : Int32 → xH → Option (Unit × xH)), OK (f_Mo_gathers_L19 a0 a1 n a2 h K) (fun q => Ph (none) q.2) → (∀ (a2 : Int32) (h : xH), OK (K a2 h) (fun q => Ph (none) q.2) → Sx l z d mc ms M_Mo_gathers 167 [some (xR a0), some (xI a1), some (xI a2), none] [] h Ph) → Sx l z d mc ms M_Mo_gathers 19 [some (xR a0), some (xI a1), some (xI a2), none] [] h Ph := by
  intro n
  induction n with
  | zero => intro a2 h K hk hE; exact hk.no
  | succ n ih =>
    intro a2 h K hk hE
    rw [f_Mo_gathers_L19] at hk
    refine sx_iload_n dc_Mo_gathers_19 rfl ?_
    refine sx_aload_n dc_Mo_gathers_20 rfl ?_
    obtain ⟨g21, hk⟩ := hk.g
    refine sx_get (ci := 11) (k := 7) rfl (by decide) wF_Mo_23 g21 dc_Mo_gathers_21 ?_
    refine sx_icmp_ge (tgt := 167) dc_Mo_gathers_24 (by decide) (fun c22 => ?_) (fun c22 => ?_)
    · replace hk := hk.t c22
      exact hE a2 h hk
    · replace hk := hk.f c22
      refine sx_iload_n dc_Mo_gathers_27 rfl ?_
      refine sx_iconst (v := (1 : Int32)) dc_Mo_gathers_28 (by decide) ?_
      refine sx_iadd dc_Mo_gathers_29 ?_
      refine sx_istore_n dc_Mo_gathers_30 (by decide) (sx_eq (lc2 := [some (xR a0), some (xI a1), some (xI a2), some (xI (a2 + (1 : Int32)))]) rfl rfl ?_)
      refine t_Mo_gathers_L31 (by omega) _ _ _ _ hk (fun v51 h52 hk => ?_)
      refine sx_iinc (v := (1 : Int32)) dc_Mo_gathers_161 rfl (by decide) (by decide) (sx_eq (lc2 := [some (xR a0), some (xI a1), some (xI (a2 + (1 : Int32))), some (xI v51)]) rfl rfl ?_)
      refine sx_goto (tgt := 19) dc_Mo_gathers_164 (by decide) ?_
      exact sx_less (by simp [x_le]) (ih (a2 + (1 : Int32)) h52 _ hk hE)
theorem t_Mo_gathers_L7 {l : Launch} {z : xZ} {d mc ms : Nat} {Ph : Option xV → xH → Prop} {a0 : Nat}  (hd : 153 ≤ d) : ∀ (n : Nat) (a1 : Int32) (h : xH) (K : Int32 → xH → Option (Unit × xH)), OK (f_Mo_gathers_L7 a0 n a1 h K) (fun q => Ph (none) q.2) → (∀ (a1 : Int32) (h : xH), OK (K a1 h) (fun q => Ph (none) q.2) → Sx l z d mc ms M_Mo_gathers 173 [some (xR a0), some (xI a1), none, none] [] h Ph) → Sx l z d mc ms M_Mo_gathers 7 [some (xR a0), some (xI a1), none, none] [] h Ph := by
  intro n
  induction n with
  | zero => intro a1 h K hk hE; exact hk.no
  | succ n ih =>
    intro a1 h K hk hE
    rw [f_Mo_gathers_L7] at hk
    refine sx_iload_n dc_Mo_gathers_7 rfl ?_
    refine sx_aload_n dc_Mo_gathers_8 rfl ?_
    obtain ⟨g19, hk⟩ := hk.g
    refine sx_get (ci := 11) (k := 7) rfl (by decide) wF_Mo_23 g19 dc_Mo_gathers_9 ?_
    refine sx_icmp_ge (tgt := 173) dc_Mo_gathers_12 (by decide) (fun c20 => ?_) (fun c20 => ?_)
    · replace hk := hk.t c20
      exact hE a1 h hk
    · replace hk := hk.f c20
      refine sx_iload_n dc_Mo_gathers_15 rfl ?_
      refine sx_iconst (v := (1 : Int32)) dc_Mo_gathers_16 (by decide) ?_
      refine sx_iadd dc_Mo_gathers_17 ?_
      refine sx_istore_n dc_Mo_gathers_18 (by decide) (sx_eq (lc2 := [some (xR a0), some (xI a1), some (xI (a1 + (1 : Int32))), none]) rfl rfl ?_)
      refine t_Mo_gathers_L19 (by omega) _ _ _ _ hk (fun v53 h54 hk => ?_)
      refine sx_iinc (v := (1 : Int32)) dc_Mo_gathers_167 rfl (by decide) (by decide) (sx_eq (lc2 := [some (xR a0), some (xI (a1 + (1 : Int32))), some (xI v53), none]) rfl rfl ?_)
      refine sx_goto (tgt := 7) dc_Mo_gathers_170 (by decide) ?_
      exact sx_less (by simp [x_le]) (ih (a1 + (1 : Int32)) h54 _ hk hE)
theorem t_Mo_gathers {l : Launch} {z : xZ} {d mc ms : Nat} {Ph : Option xV → xH → Prop} {a0 : Nat}  {h : xH} (hd : 153 ≤ d) (hk : OK (f_Mo_gathers a0 h) (fun q => Ph (none) q.2)) : Sx l z d mc ms M_Mo_gathers 0 (x_en [xR a0] 4) [] h Ph := by
  unfold f_Mo_gathers at hk
  refine sx_eq (lc2 := [some (xR a0), none, none, none]) rfl rfl ?_
  refine sx_aload_n dc_Mo_gathers_0 rfl ?_
  refine sx_iconst (v := (0 : Int32)) dc_Mo_gathers_1 (by decide) ?_
  obtain ⟨g18, hk⟩ := hk.g
  refine sx_putI (ci := 11) (k := 32) rfl (by decide) wF_Mo_245 rfl g18 (Or.inl rfl) dc_Mo_gathers_2 ?_
  refine sx_iconst (v := (0 : Int32)) dc_Mo_gathers_5 (by decide) ?_
  refine sx_istore_n dc_Mo_gathers_6 (by decide) (sx_eq (lc2 := [some (xR a0), some (xI (0 : Int32)), none, none]) rfl rfl ?_)
  refine t_Mo_gathers_L7 (by omega) _ _ _ _ hk (fun v55 h56 hk => ?_)
  exact sx_retV dc_Mo_gathers_173 rfl hk.val
theorem dc_Mo_sortOf_0 : decode M_Mo_sortOf.2.1 0 = .ok (.iload_n 2, 1) := by decide +kernel
theorem dc_Mo_sortOf_1 : decode M_Mo_sortOf.2.1 1 = .ok (.aload_n 0, 1) := by decide +kernel
theorem dc_Mo_sortOf_2 : decode M_Mo_sortOf.2.1 2 = .ok (.getfield 35, 3) := by decide +kernel
theorem dc_Mo_sortOf_5 : decode M_Mo_sortOf.2.1 5 = .ok (.iload_n 1, 1) := by decide +kernel
theorem dc_Mo_sortOf_6 : decode M_Mo_sortOf.2.1 6 = .ok (.iaload, 1) := by decide +kernel
theorem dc_Mo_sortOf_7 : decode M_Mo_sortOf.2.1 7 = .ok (.iand, 1) := by decide +kernel
theorem dc_Mo_sortOf_8 : decode M_Mo_sortOf.2.1 8 = .ok (.aload_n 0, 1) := by decide +kernel
theorem dc_Mo_sortOf_9 : decode M_Mo_sortOf.2.1 9 = .ok (.getfield 35, 3) := by decide +kernel
theorem dc_Mo_sortOf_12 : decode M_Mo_sortOf.2.1 12 = .ok (.iload_n 1, 1) := by decide +kernel
theorem dc_Mo_sortOf_13 : decode M_Mo_sortOf.2.1 13 = .ok (.iaload, 1) := by decide +kernel
theorem dc_Mo_sortOf_14 : decode M_Mo_sortOf.2.1 14 = .ok (.if_icmp .ne 14, 3) := by decide +kernel
theorem dc_Mo_sortOf_17 : decode M_Mo_sortOf.2.1 17 = .ok (.aload_n 0, 1) := by decide +kernel
theorem dc_Mo_sortOf_18 : decode M_Mo_sortOf.2.1 18 = .ok (.getfield 41, 3) := by decide +kernel
theorem dc_Mo_sortOf_21 : decode M_Mo_sortOf.2.1 21 = .ok (.iload_n 1, 1) := by decide +kernel
theorem dc_Mo_sortOf_22 : decode M_Mo_sortOf.2.1 22 = .ok (.baload, 1) := by decide +kernel
theorem dc_Mo_sortOf_23 : decode M_Mo_sortOf.2.1 23 = .ok (.ifCond .eq 5, 3) := by decide +kernel
theorem dc_Mo_sortOf_26 : decode M_Mo_sortOf.2.1 26 = .ok (.iconst 1, 1) := by decide +kernel
theorem dc_Mo_sortOf_27 : decode M_Mo_sortOf.2.1 27 = .ok (.ireturn, 1) := by decide +kernel
theorem dc_Mo_sortOf_28 : decode M_Mo_sortOf.2.1 28 = .ok (.iload_n 2, 1) := by decide +kernel
theorem dc_Mo_sortOf_29 : decode M_Mo_sortOf.2.1 29 = .ok (.aload_n 0, 1) := by decide +kernel
theorem dc_Mo_sortOf_30 : decode M_Mo_sortOf.2.1 30 = .ok (.getfield 35, 3) := by decide +kernel
theorem dc_Mo_sortOf_33 : decode M_Mo_sortOf.2.1 33 = .ok (.iload_n 1, 1) := by decide +kernel
theorem dc_Mo_sortOf_34 : decode M_Mo_sortOf.2.1 34 = .ok (.iaload, 1) := by decide +kernel
theorem dc_Mo_sortOf_35 : decode M_Mo_sortOf.2.1 35 = .ok (.iand, 1) := by decide +kernel
theorem dc_Mo_sortOf_36 : decode M_Mo_sortOf.2.1 36 = .ok (.ifCond .ne 33, 3) := by decide +kernel
theorem dc_Mo_sortOf_39 : decode M_Mo_sortOf.2.1 39 = .ok (.iload_n 3, 1) := by decide +kernel
theorem dc_Mo_sortOf_40 : decode M_Mo_sortOf.2.1 40 = .ok (.aload_n 0, 1) := by decide +kernel
theorem dc_Mo_sortOf_41 : decode M_Mo_sortOf.2.1 41 = .ok (.getfield 35, 3) := by decide +kernel
theorem dc_Mo_sortOf_44 : decode M_Mo_sortOf.2.1 44 = .ok (.iload_n 1, 1) := by decide +kernel
theorem dc_Mo_sortOf_45 : decode M_Mo_sortOf.2.1 45 = .ok (.iaload, 1) := by decide +kernel
theorem dc_Mo_sortOf_46 : decode M_Mo_sortOf.2.1 46 = .ok (.iand, 1) := by decide +kernel
theorem dc_Mo_sortOf_47 : decode M_Mo_sortOf.2.1 47 = .ok (.aload_n 0, 1) := by decide +kernel
theorem dc_Mo_sortOf_48 : decode M_Mo_sortOf.2.1 48 = .ok (.getfield 35, 3) := by decide +kernel
theorem dc_Mo_sortOf_51 : decode M_Mo_sortOf.2.1 51 = .ok (.iload_n 1, 1) := by decide +kernel
theorem dc_Mo_sortOf_52 : decode M_Mo_sortOf.2.1 52 = .ok (.iaload, 1) := by decide +kernel
theorem dc_Mo_sortOf_53 : decode M_Mo_sortOf.2.1 53 = .ok (.if_icmp .ne 16, 3) := by decide +kernel
theorem dc_Mo_sortOf_56 : decode M_Mo_sortOf.2.1 56 = .ok (.aload_n 0, 1) := by decide +kernel
theorem dc_Mo_sortOf_57 : decode M_Mo_sortOf.2.1 57 = .ok (.getfield 45, 3) := by decide +kernel
theorem dc_Mo_sortOf_60 : decode M_Mo_sortOf.2.1 60 = .ok (.iload_n 1, 1) := by decide +kernel
theorem dc_Mo_sortOf_61 : decode M_Mo_sortOf.2.1 61 = .ok (.baload, 1) := by decide +kernel
theorem dc_Mo_sortOf_62 : decode M_Mo_sortOf.2.1 62 = .ok (.ifCond .eq 7, 3) := by decide +kernel
theorem dc_Mo_sortOf_65 : decode M_Mo_sortOf.2.1 65 = .ok (.iconst 0, 1) := by decide +kernel
theorem dc_Mo_sortOf_66 : decode M_Mo_sortOf.2.1 66 = .ok (.goto 4, 3) := by decide +kernel
theorem dc_Mo_sortOf_69 : decode M_Mo_sortOf.2.1 69 = .ok (.iconst (-1), 1) := by decide +kernel
theorem dc_Mo_sortOf_70 : decode M_Mo_sortOf.2.1 70 = .ok (.ireturn, 1) := by decide +kernel
def f_Mo_sortOf (a0 : Nat) (a1 : Int32) (a2 : Int32) (a3 : Int32) (h : xH) : Option (Int32 × xH) := gd (hK h a0 = 11) (gd (hK h (hR h a0 28) = 12) (gd (¬ (a1 < 0 ∨ hL h (hR h a0 28) ≤ a1.toNatClampNeg)) (gd (¬ (a1 < 0 ∨ hL h (hR h a0 28) ≤ a1.toNatClampNeg)) (jn (fun (x16 : Unit) => gd (¬ (a1 < 0 ∨ hL h (hR h a0 28) ≤ a1.toNatClampNeg)) (jn (fun (x19 : Int32) => some (x19, h)) (fun k20 => jn (fun (x21 : Unit) => k20 (-1 : Int32)) (fun k22 => if (a2 &&& (hI h (hR h a0 28) a1.toNatClampNeg)) = 0 then gd (¬ (a1 < 0 ∨ hL h (hR h a0 28) ≤ a1.toNatClampNeg)) (gd (¬ (a1 < 0 ∨ hL h (hR h a0 28) ≤ a1.toNatClampNeg)) (if (a3 &&& (hI h (hR h a0 28) a1.toNatClampNeg)) = (hI h (hR h a0 28) a1.toNatClampNeg) then gd (hK h (hR h a0 31) = 13) (gd (¬ (a1 < 0 ∨ hL h (hR h a0 31) ≤ a1.toNatClampNeg)) (if (hI h (hR h a0 31) a1.toNatClampNeg) = 0 then k22 () else k20 (0 : Int32))) else k22 ())) else k22 ())))) (fun k17 => if (a2 &&& (hI h (hR h a0 28) a1.toNatClampNeg)) = (hI h (hR h a0 28) a1.toNatClampNeg) then gd (hK h (hR h a0 30) = 13) (gd (¬ (a1 < 0 ∨ hL h (hR h a0 30) ≤ a1.toNatClampNeg)) (if (hI h (hR h a0 30) a1.toNatClampNeg) = 0 then k17 () else some ((1 : Int32), h))) else k17 ())))))
theorem t_Mo_sortOf {l : Launch} {z : xZ} {d mc ms : Nat} {Ph : Option xV → xH → Prop} {a0 : Nat} {a1 : Int32} {a2 : Int32} {a3 : Int32}  {h : xH} (hd : 1 ≤ d) (hk : OK (f_Mo_sortOf a0 a1 a2 a3 h) (fun q => Ph (some (xI q.1)) q.2)) : Sx l z d mc ms M_Mo_sortOf 0 (x_en [xR a0, xI a1, xI a2, xI a3] 4) [] h Ph := by
  unfold f_Mo_sortOf at hk
  refine sx_eq (lc2 := [some (xR a0), some (xI a1), some (xI a2), some (xI a3)]) rfl rfl ?_
  refine sx_iload_n dc_Mo_sortOf_0 rfl ?_
  refine sx_aload_n dc_Mo_sortOf_1 rfl ?_
  obtain ⟨g12, hk⟩ := hk.g
  refine sx_get (ci := 11) (k := 28) rfl (by decide) wF_Mo_35 g12 dc_Mo_sortOf_2 ?_
  refine sx_iload_n dc_Mo_sortOf_5 rfl ?_
  obtain ⟨g13, hk⟩ := hk.g
  obtain ⟨g14, hk⟩ := hk.g
  refine sx_iald g13 g14 dc_Mo_sortOf_6 ?_
  refine sx_iand dc_Mo_sortOf_7 ?_
  refine sx_aload_n dc_Mo_sortOf_8 rfl ?_
  refine sx_get (ci := 11) (k := 28) rfl (by decide) wF_Mo_35 g12 dc_Mo_sortOf_9 ?_
  refine sx_iload_n dc_Mo_sortOf_12 rfl ?_
  obtain ⟨g15, hk⟩ := hk.g
  refine sx_iald g13 g15 dc_Mo_sortOf_13 ?_
  refine hk.j (X := fun x16 => Sx l z d mc ms M_Mo_sortOf 28 [some (xR a0), some (xI a1), some (xI a2), some (xI a3)] [] h Ph) (fun x16 hk => ?_) (fun k17 jk17 hk => ?_)
  · refine sx_iload_n dc_Mo_sortOf_28 rfl ?_
    refine sx_aload_n dc_Mo_sortOf_29 rfl ?_
    refine sx_get (ci := 11) (k := 28) rfl (by decide) wF_Mo_35 g12 dc_Mo_sortOf_30 ?_
    refine sx_iload_n dc_Mo_sortOf_33 rfl ?_
    obtain ⟨g18, hk⟩ := hk.g
    refine sx_iald g13 g18 dc_Mo_sortOf_34 ?_
    refine sx_iand dc_Mo_sortOf_35 ?_
    refine hk.j (X := fun x19 => Sx l z d mc ms M_Mo_sortOf 70 [some (xR a0), some (xI a1), some (xI a2), some (xI a3)] [xI x19] h Ph) (fun x19 hk => ?_) (fun k20 jk20 hk => ?_)
    · exact sx_retI dc_Mo_sortOf_70 rfl hk.val
    · refine hk.j (X := fun x21 => Sx l z d mc ms M_Mo_sortOf 69 [some (xR a0), some (xI a1), some (xI a2), some (xI a3)] [] h Ph) (fun x21 hk => ?_) (fun k22 jk22 hk => ?_)
      · refine sx_iconst (v := (-1 : Int32)) dc_Mo_sortOf_69 (by decide) ?_
        exact jk20 (-1 : Int32) hk
      · refine sx_if_ne (tgt := 69) dc_Mo_sortOf_36 (by decide) (fun c23 => ?_) (fun c23 => ?_)
        · replace hk := hk.f c23
          exact jk22 () hk
        · replace hk := hk.t c23
          refine sx_iload_n dc_Mo_sortOf_39 rfl ?_
          refine sx_aload_n dc_Mo_sortOf_40 rfl ?_
          refine sx_get (ci := 11) (k := 28) rfl (by decide) wF_Mo_35 g12 dc_Mo_sortOf_41 ?_
          refine sx_iload_n dc_Mo_sortOf_44 rfl ?_
          obtain ⟨g24, hk⟩ := hk.g
          refine sx_iald g13 g24 dc_Mo_sortOf_45 ?_
          refine sx_iand dc_Mo_sortOf_46 ?_
          refine sx_aload_n dc_Mo_sortOf_47 rfl ?_
          refine sx_get (ci := 11) (k := 28) rfl (by decide) wF_Mo_35 g12 dc_Mo_sortOf_48 ?_
          refine sx_iload_n dc_Mo_sortOf_51 rfl ?_
          obtain ⟨g25, hk⟩ := hk.g
          refine sx_iald g13 g25 dc_Mo_sortOf_52 ?_
          refine sx_icmp_ne (tgt := 69) dc_Mo_sortOf_53 (by decide) (fun c26 => ?_) (fun c26 => ?_)
          · replace hk := hk.f c26
            exact jk22 () hk
          · replace hk := hk.t c26
            refine sx_aload_n dc_Mo_sortOf_56 rfl ?_
            refine sx_get (ci := 11) (k := 31) rfl (by decide) wF_Mo_45 g12 dc_Mo_sortOf_57 ?_
            refine sx_iload_n dc_Mo_sortOf_60 rfl ?_
            obtain ⟨g27, hk⟩ := hk.g
            obtain ⟨g28, hk⟩ := hk.g
            refine sx_zald g27 g28 dc_Mo_sortOf_61 ?_
            refine sx_if_eq (tgt := 69) dc_Mo_sortOf_62 (by decide) (fun c29 => ?_) (fun c29 => ?_)
            · replace hk := hk.t c29
              exact jk22 () hk
            · replace hk := hk.f c29
              refine sx_iconst (v := (0 : Int32)) dc_Mo_sortOf_65 (by decide) ?_
              refine sx_goto (tgt := 70) dc_Mo_sortOf_66 (by decide) ?_
              exact jk20 (0 : Int32) hk
  · refine sx_icmp_ne (tgt := 28) dc_Mo_sortOf_14 (by decide) (fun c30 => ?_) (fun c30 => ?_)
    · replace hk := hk.f c30
      exact jk17 () hk
    · replace hk := hk.t c30
      refine sx_aload_n dc_Mo_sortOf_17 rfl ?_
      refine sx_get (ci := 11) (k := 30) rfl (by decide) wF_Mo_41 g12 dc_Mo_sortOf_18 ?_
      refine sx_iload_n dc_Mo_sortOf_21 rfl ?_
      obtain ⟨g31, hk⟩ := hk.g
      obtain ⟨g32, hk⟩ := hk.g
      refine sx_zald g31 g32 dc_Mo_sortOf_22 ?_
      refine sx_if_eq (tgt := 28) dc_Mo_sortOf_23 (by decide) (fun c33 => ?_) (fun c33 => ?_)
      · replace hk := hk.t c33
        exact jk17 () hk
      · replace hk := hk.f c33
        refine sx_iconst (v := (1 : Int32)) dc_Mo_sortOf_26 (by decide) ?_
        exact sx_retI dc_Mo_sortOf_27 rfl hk.val
theorem dc_Mo_allThrees_0 : decode M_Mo_allThrees.2.1 0 = .ok (.iconst 0, 1) := by decide +kernel
theorem dc_Mo_allThrees_1 : decode M_Mo_allThrees.2.1 1 = .ok (.istore_n 3, 1) := by decide +kernel
theorem dc_Mo_allThrees_2 : decode M_Mo_allThrees.2.1 2 = .ok (.iconst 0, 1) := by decide +kernel
theorem dc_Mo_allThrees_3 : decode M_Mo_allThrees.2.1 3 = .ok (.istore 4, 2) := by decide +kernel
theorem dc_Mo_allThrees_5 : decode M_Mo_allThrees.2.1 5 = .ok (.iload 4, 2) := by decide +kernel
theorem dc_Mo_allThrees_7 : decode M_Mo_allThrees.2.1 7 = .ok (.aload_n 0, 1) := by decide +kernel
theorem dc_Mo_allThrees_8 : decode M_Mo_allThrees.2.1 8 = .ok (.getfield 245, 3) := by decide +kernel
theorem dc_Mo_allThrees_11 : decode M_Mo_allThrees.2.1 11 = .ok (.if_icmp .ge 29, 3) := by decide +kernel
theorem dc_Mo_allThrees_14 : decode M_Mo_allThrees.2.1 14 = .ok (.iload_n 3, 1) := by decide +kernel
theorem dc_Mo_allThrees_15 : decode M_Mo_allThrees.2.1 15 = .ok (.aload_n 0, 1) := by decide +kernel
theorem dc_Mo_allThrees_16 : decode M_Mo_allThrees.2.1 16 = .ok (.iload 4, 2) := by decide +kernel
theorem dc_Mo_allThrees_18 : decode M_Mo_allThrees.2.1 18 = .ok (.iload_n 1, 1) := by decide +kernel
theorem dc_Mo_allThrees_19 : decode M_Mo_allThrees.2.1 19 = .ok (.iload_n 2, 1) := by decide +kernel
theorem dc_Mo_allThrees_20 : decode M_Mo_allThrees.2.1 20 = .ok (.invokevirtual 252, 3) := by decide +kernel
theorem dc_Mo_allThrees_23 : decode M_Mo_allThrees.2.1 23 = .ok (.iconst (-1), 1) := by decide +kernel
theorem dc_Mo_allThrees_24 : decode M_Mo_allThrees.2.1 24 = .ok (.if_icmp .ne 7, 3) := by decide +kernel
theorem dc_Mo_allThrees_27 : decode M_Mo_allThrees.2.1 27 = .ok (.iconst 0, 1) := by decide +kernel
theorem dc_Mo_allThrees_28 : decode M_Mo_allThrees.2.1 28 = .ok (.goto 4, 3) := by decide +kernel
theorem dc_Mo_allThrees_31 : decode M_Mo_allThrees.2.1 31 = .ok (.iconst 1, 1) := by decide +kernel
theorem dc_Mo_allThrees_32 : decode M_Mo_allThrees.2.1 32 = .ok (.iadd, 1) := by decide +kernel
theorem dc_Mo_allThrees_33 : decode M_Mo_allThrees.2.1 33 = .ok (.istore_n 3, 1) := by decide +kernel
theorem dc_Mo_allThrees_34 : decode M_Mo_allThrees.2.1 34 = .ok (.iinc 4 1, 3) := by decide +kernel
theorem dc_Mo_allThrees_37 : decode M_Mo_allThrees.2.1 37 = .ok (.goto (-32), 3) := by decide +kernel
theorem dc_Mo_allThrees_40 : decode M_Mo_allThrees.2.1 40 = .ok (.iload_n 3, 1) := by decide +kernel
theorem dc_Mo_allThrees_41 : decode M_Mo_allThrees.2.1 41 = .ok (.ireturn, 1) := by decide +kernel
def f_Mo_allThrees_L5 (a0 : Nat) (a1 : Int32) (a2 : Int32) : Nat → Int32 → Int32 → xH → (Int32 → Int32 → xH → Option (Int32 × xH)) → Option (Int32 × xH)
  | 0, _, _, _, _ => none
  | n + 1, a3, a4, h, K => gd (hK h a0 = 11) (if (hI h a0 32) ≤ a4 then K a3 a4 h else Option.bind (f_Mo_sortOf a0 a4 a1 a2 h) (fun q5 => f_Mo_allThrees_L5 a0 a1 a2 n (a3 + (if q5.1 = (-1 : Int32) then (0 : Int32) else (1 : Int32))) (a4 + (1 : Int32)) q5.2 K))
def f_Mo_allThrees (a0 : Nat) (a1 : Int32) (a2 : Int32) (h : xH) : Option (Int32 × xH) := f_Mo_allThrees_L5 a0 a1 a2 fu (0 : Int32) (0 : Int32) h (fun v8 v9 h10 => some (v8, h10))
theorem t_Mo_allThrees_L5 {l : Launch} {z : xZ} {d mc ms : Nat} {Ph : Option xV → xH → Prop} {a0 : Nat} {a1 : Int32} {a2 : Int32}  (hd : 2 ≤ d) : ∀ (n : Nat) (a3 : Int32) (a4 : Int32) (h : xH) (K : Int32 → Int32 → xH → Option (Int32 × xH)), OK (f_Mo_allThrees_L5 a0 a1 a2 n a3 a4 h K) (fun q => Ph (some (xI q.1)) q.2) → (∀ (a3 : Int32) (a4 : Int32) (h : xH), OK (K a3 a4 h) (fun q => Ph (some (xI q.1)) q.2) → Sx l z d mc ms M_Mo_allThrees 40 [some (xR a0), some (xI a1), some (xI a2), some (xI a3), some (xI a4)] [] h Ph) → Sx l z d mc ms M_Mo_allThrees 5 [some (xR a0), some (xI a1), some (xI a2), some (xI a3), some (xI a4)] [] h Ph := by
  intro n
  induction n with
  | zero => intro a3 a4 h K hk hE; exact hk.no
  | succ n ih =>
    intro a3 a4 h K hk hE
    rw [f_Mo_allThrees_L5] at hk
    refine sx_iload dc_Mo_allThrees_5 rfl ?_
    refine sx_aload_n dc_Mo_allThrees_7 rfl ?_
    obtain ⟨g3, hk⟩ := hk.g
    refine sx_get (ci := 11) (k := 32) rfl (by decide) wF_Mo_245 g3 dc_Mo_allThrees_8 ?_
    refine sx_icmp_ge (tgt := 40) dc_Mo_allThrees_11 (by decide) (fun c4 => ?_) (fun c4 => ?_)
    · replace hk := hk.t c4
      exact hE a3 a4 h hk
    · replace hk := hk.f c4
      refine sx_iload_n dc_Mo_allThrees_14 rfl ?_
      refine sx_aload_n dc_Mo_allThrees_15 rfl ?_
      refine sx_iload dc_Mo_allThrees_16 rfl ?_
      refine sx_iload_n dc_Mo_allThrees_18 rfl ?_
      refine sx_iload_n dc_Mo_allThrees_19 rfl ?_
      obtain ⟨q5, eq5, hk⟩ := hk.bind
      refine sx_callV (d2 := d - 1) (mc2 := 0) (ms2 := 0) (as := [xI a4, xI a1, xI a2]) mk_Mo_sortOf rfl (x_rk (ci := 11) g3 rfl rfl) wM_Mo_252 mi_Mo_sortOf me_Mo_sortOf rfl (Nat.le_of_ble_eq_true rfl) (Nat.le_of_ble_eq_true rfl) dc_Mo_allThrees_20 (by omega) (Nat.zero_le _) (Nat.zero_le _) ?_
      refine t_Mo_sortOf (by omega) ⟨q5, eq5, ?_⟩
      refine sx_eq0 (lc2 := [some (xR a0), some (xI a1), some (xI a2), some (xI a3), some (xI a4)]) (st2 := [xI q5.1, xI a3]) rfl rfl ?_
      refine sx_iconst (v := (-1 : Int32)) dc_Mo_allThrees_23 (by decide) ?_
      refine sx_mg (pc2 := 32) (lc2 := [some (xR a0), some (xI a1), some (xI a2), some (xI a3), some (xI a4)]) (st2 := [xI (if q5.1 = (-1 : Int32) then (0 : Int32) else (1 : Int32)), xI a3]) (h2 := q5.2) ?_ (fun J6 => ?_)
      · refine sx_iadd dc_Mo_allThrees_32 ?_
        refine sx_istore_n dc_Mo_allThrees_33 (by decide) (sx_eq (lc2 := [some (xR a0), some (xI a1), some (xI a2), some (xI (a3 + (if q5.1 = (-1 : Int32) then (0 : Int32) else (1 : Int32)))), some (xI a4)]) rfl rfl ?_)
        refine sx_iinc (v := (1 : Int32)) dc_Mo_allThrees_34 rfl (by decide) (by decide) (sx_eq (lc2 := [some (xR a0), some (xI a1), some (xI a2), some (xI (a3 + (if q5.1 = (-1 : Int32) then (0 : Int32) else (1 : Int32)))), some (xI (a4 + (1 : Int32)))]) rfl rfl ?_)
        refine sx_goto (tgt := 5) dc_Mo_allThrees_37 (by decide) ?_
        exact ih (a3 + (if q5.1 = (-1 : Int32) then (0 : Int32) else (1 : Int32))) (a4 + (1 : Int32)) q5.2 _ hk hE
      · refine sx_icmp_ne (tgt := 31) dc_Mo_allThrees_24 (by decide) (fun c7 => ?_) (fun c7 => ?_)
        · try simp only [if_neg c7] at J6
          refine sx_iconst (v := (1 : Int32)) dc_Mo_allThrees_31 (by decide) ?_
          exact J6
        · try simp only [if_pos c7] at J6
          refine sx_iconst (v := (0 : Int32)) dc_Mo_allThrees_27 (by decide) ?_
          refine sx_goto (tgt := 32) dc_Mo_allThrees_28 (by decide) ?_
          exact J6
theorem t_Mo_allThrees {l : Launch} {z : xZ} {d mc ms : Nat} {Ph : Option xV → xH → Prop} {a0 : Nat} {a1 : Int32} {a2 : Int32}  {h : xH} (hd : 2 ≤ d) (hk : OK (f_Mo_allThrees a0 a1 a2 h) (fun q => Ph (some (xI q.1)) q.2)) : Sx l z d mc ms M_Mo_allThrees 0 (x_en [xR a0, xI a1, xI a2] 5) [] h Ph := by
  unfold f_Mo_allThrees at hk
  refine sx_eq (lc2 := [some (xR a0), some (xI a1), some (xI a2), none, none]) rfl rfl ?_
  refine sx_iconst (v := (0 : Int32)) dc_Mo_allThrees_0 (by decide) ?_
  refine sx_istore_n dc_Mo_allThrees_1 (by decide) (sx_eq (lc2 := [some (xR a0), some (xI a1), some (xI a2), some (xI (0 : Int32)), none]) rfl rfl ?_)
  refine sx_iconst (v := (0 : Int32)) dc_Mo_allThrees_2 (by decide) ?_
  refine sx_istore dc_Mo_allThrees_3 (by decide) (sx_eq (lc2 := [some (xR a0), some (xI a1), some (xI a2), some (xI (0 : Int32)), some (xI (0 : Int32))]) rfl rfl ?_)
  refine t_Mo_allThrees_L5 (by omega) _ _ _ _ _ hk (fun v8 v9 h10 hk => ?_)
  refine sx_iload_n dc_Mo_allThrees_40 rfl ?_
  exact sx_retI dc_Mo_allThrees_41 rfl hk.val
theorem dc_Mo_degree_0 : decode M_Mo_degree.2.1 0 = .ok (.iconst 0, 1) := by decide +kernel
theorem dc_Mo_degree_1 : decode M_Mo_degree.2.1 1 = .ok (.istore_n 2, 1) := by decide +kernel
theorem dc_Mo_degree_2 : decode M_Mo_degree.2.1 2 = .ok (.iconst 0, 1) := by decide +kernel
theorem dc_Mo_degree_3 : decode M_Mo_degree.2.1 3 = .ok (.istore_n 3, 1) := by decide +kernel
theorem dc_Mo_degree_4 : decode M_Mo_degree.2.1 4 = .ok (.iload_n 3, 1) := by decide +kernel
theorem dc_Mo_degree_5 : decode M_Mo_degree.2.1 5 = .ok (.aload_n 0, 1) := by decide +kernel
theorem dc_Mo_degree_6 : decode M_Mo_degree.2.1 6 = .ok (.getfield 23, 3) := by decide +kernel
theorem dc_Mo_degree_9 : decode M_Mo_degree.2.1 9 = .ok (.if_icmp .ge 31, 3) := by decide +kernel
theorem dc_Mo_degree_12 : decode M_Mo_degree.2.1 12 = .ok (.iload_n 2, 1) := by decide +kernel
theorem dc_Mo_degree_13 : decode M_Mo_degree.2.1 13 = .ok (.iload_n 3, 1) := by decide +kernel
theorem dc_Mo_degree_14 : decode M_Mo_degree.2.1 14 = .ok (.iload_n 1, 1) := by decide +kernel
theorem dc_Mo_degree_15 : decode M_Mo_degree.2.1 15 = .ok (.if_icmp .eq 16, 3) := by decide +kernel
theorem dc_Mo_degree_18 : decode M_Mo_degree.2.1 18 = .ok (.aload_n 0, 1) := by decide +kernel
theorem dc_Mo_degree_19 : decode M_Mo_degree.2.1 19 = .ok (.iload_n 1, 1) := by decide +kernel
theorem dc_Mo_degree_20 : decode M_Mo_degree.2.1 20 = .ok (.iload_n 3, 1) := by decide +kernel
theorem dc_Mo_degree_21 : decode M_Mo_degree.2.1 21 = .ok (.invokevirtual 255, 3) := by decide +kernel
theorem dc_Mo_degree_24 : decode M_Mo_degree.2.1 24 = .ok (.ifCond .eq 7, 3) := by decide +kernel
theorem dc_Mo_degree_27 : decode M_Mo_degree.2.1 27 = .ok (.iconst 1, 1) := by decide +kernel
theorem dc_Mo_degree_28 : decode M_Mo_degree.2.1 28 = .ok (.goto 4, 3) := by decide +kernel
theorem dc_Mo_degree_31 : decode M_Mo_degree.2.1 31 = .ok (.iconst 0, 1) := by decide +kernel
theorem dc_Mo_degree_32 : decode M_Mo_degree.2.1 32 = .ok (.iadd, 1) := by decide +kernel
theorem dc_Mo_degree_33 : decode M_Mo_degree.2.1 33 = .ok (.istore_n 2, 1) := by decide +kernel
theorem dc_Mo_degree_34 : decode M_Mo_degree.2.1 34 = .ok (.iinc 3 1, 3) := by decide +kernel
theorem dc_Mo_degree_37 : decode M_Mo_degree.2.1 37 = .ok (.goto (-33), 3) := by decide +kernel
theorem dc_Mo_degree_40 : decode M_Mo_degree.2.1 40 = .ok (.iload_n 2, 1) := by decide +kernel
theorem dc_Mo_degree_41 : decode M_Mo_degree.2.1 41 = .ok (.ireturn, 1) := by decide +kernel
def f_Mo_degree_L4 (a0 : Nat) (a1 : Int32) : Nat → Int32 → Int32 → xH → (Int32 → Int32 → xH → Option (Int32 × xH)) → Option (Int32 × xH)
  | 0, _, _, _, _ => none
  | n + 1, a2, a3, h, K => gd (hK h a0 = 11) (if (hI h a0 7) ≤ a3 then K a2 a3 h else jn (fun (x5 : Int32 × xH) => f_Mo_degree_L4 a0 a1 n (a2 + x5.1) (a3 + (1 : Int32)) x5.2 K) (fun k6 => jn (fun (x7 : xH) => k6 ((0 : Int32), x7)) (fun k8 => if a3 = a1 then k8 h else Option.bind (f_Mo_know a0 a1 a3 h) (fun q10 => if q10.1 = 0 then k8 q10.2 else k6 ((1 : Int32), q10.2)))))
def f_Mo_degree (a0 : Nat) (a1 : Int32) (h : xH) : Option (Int32 × xH) := f_Mo_degree_L4 a0 a1 fu (0 : Int32) (0 : Int32) h (fun v12 v13 h14 => some (v12, h14))
theorem t_Mo_degree_L4 {l : Launch} {z : xZ} {d mc ms : Nat} {Ph : Option xV → xH → Prop} {a0 : Nat} {a1 : Int32}  (hd : 3 ≤ d) : ∀ (n : Nat) (a2 : Int32) (a3 : Int32) (h : xH) (K : Int32 → Int32 → xH → Option (Int32 × xH)), OK (f_Mo_degree_L4 a0 a1 n a2 a3 h K) (fun q => Ph (some (xI q.1)) q.2) → (∀ (a2 : Int32) (a3 : Int32) (h : xH), OK (K a2 a3 h) (fun q => Ph (some (xI q.1)) q.2) → Sx l z d mc ms M_Mo_degree 40 [some (xR a0), some (xI a1), some (xI a2), some (xI a3)] [] h Ph) → Sx l z d mc ms M_Mo_degree 4 [some (xR a0), some (xI a1), some (xI a2), some (xI a3)] [] h Ph := by
  intro n
  induction n with
  | zero => intro a2 a3 h K hk hE; exact hk.no
  | succ n ih =>
    intro a2 a3 h K hk hE
    rw [f_Mo_degree_L4] at hk
    refine sx_iload_n dc_Mo_degree_4 rfl ?_
    refine sx_aload_n dc_Mo_degree_5 rfl ?_
    obtain ⟨g3, hk⟩ := hk.g
    refine sx_get (ci := 11) (k := 7) rfl (by decide) wF_Mo_23 g3 dc_Mo_degree_6 ?_
    refine sx_icmp_ge (tgt := 40) dc_Mo_degree_9 (by decide) (fun c4 => ?_) (fun c4 => ?_)
    · replace hk := hk.t c4
      exact hE a2 a3 h hk
    · replace hk := hk.f c4
      refine sx_iload_n dc_Mo_degree_12 rfl ?_
      refine sx_iload_n dc_Mo_degree_13 rfl ?_
      refine sx_iload_n dc_Mo_degree_14 rfl ?_
      refine hk.j (X := fun x5 => Sx l z d mc ms M_Mo_degree 32 [some (xR a0), some (xI a1), some (xI a2), some (xI a3)] [xI x5.1, xI a2] x5.2 Ph) (fun x5 hk => ?_) (fun k6 jk6 hk => ?_)
      · refine sx_iadd dc_Mo_degree_32 ?_
        refine sx_istore_n dc_Mo_degree_33 (by decide) (sx_eq (lc2 := [some (xR a0), some (xI a1), some (xI (a2 + x5.1)), some (xI a3)]) rfl rfl ?_)
        refine sx_iinc (v := (1 : Int32)) dc_Mo_degree_34 rfl (by decide) (by decide) (sx_eq (lc2 := [some (xR a0), some (xI a1), some (xI (a2 + x5.1)), some (xI (a3 + (1 : Int32)))]) rfl rfl ?_)
        refine sx_goto (tgt := 4) dc_Mo_degree_37 (by decide) ?_
        exact ih (a2 + x5.1) (a3 + (1 : Int32)) x5.2 _ hk hE
      · refine hk.j (X := fun x7 => Sx l z d mc ms M_Mo_degree 31 [some (xR a0), some (xI a1), some (xI a2), some (xI a3)] [xI a2] x7 Ph) (fun x7 hk => ?_) (fun k8 jk8 hk => ?_)
        · refine sx_iconst (v := (0 : Int32)) dc_Mo_degree_31 (by decide) ?_
          exact jk6 ((0 : Int32), x7) hk
        · refine sx_icmp_eq (tgt := 31) dc_Mo_degree_15 (by decide) (fun c9 => ?_) (fun c9 => ?_)
          · replace hk := hk.t c9
            exact jk8 h hk
          · replace hk := hk.f c9
            refine sx_aload_n dc_Mo_degree_18 rfl ?_
            refine sx_iload_n dc_Mo_degree_19 rfl ?_
            refine sx_iload_n dc_Mo_degree_20 rfl ?_
            obtain ⟨q10, eq10, hk⟩ := hk.bind
            refine sx_callV (d2 := d - 1) (mc2 := 0) (ms2 := 0) (as := [xI a1, xI a3]) mk_Mo_know rfl (x_rk (ci := 11) g3 rfl rfl) wM_Mo_255 mi_Mo_know me_Mo_know rfl (Nat.le_of_ble_eq_true rfl) (Nat.le_of_ble_eq_true rfl) dc_Mo_degree_21 (by omega) (Nat.zero_le _) (Nat.zero_le _) ?_
            refine t_Mo_know (by omega) ⟨q10, eq10, ?_⟩
            refine sx_eq0 (lc2 := [some (xR a0), some (xI a1), some (xI a2), some (xI a3)]) (st2 := [xI q10.1, xI a2]) rfl rfl ?_
            refine sx_if_eq (tgt := 31) dc_Mo_degree_24 (by decide) (fun c11 => ?_) (fun c11 => ?_)
            · replace hk := hk.t c11
              exact jk8 q10.2 hk
            · replace hk := hk.f c11
              refine sx_iconst (v := (1 : Int32)) dc_Mo_degree_27 (by decide) ?_
              refine sx_goto (tgt := 32) dc_Mo_degree_28 (by decide) ?_
              exact jk6 ((1 : Int32), q10.2) hk
theorem t_Mo_degree {l : Launch} {z : xZ} {d mc ms : Nat} {Ph : Option xV → xH → Prop} {a0 : Nat} {a1 : Int32}  {h : xH} (hd : 3 ≤ d) (hk : OK (f_Mo_degree a0 a1 h) (fun q => Ph (some (xI q.1)) q.2)) : Sx l z d mc ms M_Mo_degree 0 (x_en [xR a0, xI a1] 4) [] h Ph := by
  unfold f_Mo_degree at hk
  refine sx_eq (lc2 := [some (xR a0), some (xI a1), none, none]) rfl rfl ?_
  refine sx_iconst (v := (0 : Int32)) dc_Mo_degree_0 (by decide) ?_
  refine sx_istore_n dc_Mo_degree_1 (by decide) (sx_eq (lc2 := [some (xR a0), some (xI a1), some (xI (0 : Int32)), none]) rfl rfl ?_)
  refine sx_iconst (v := (0 : Int32)) dc_Mo_degree_2 (by decide) ?_
  refine sx_istore_n dc_Mo_degree_3 (by decide) (sx_eq (lc2 := [some (xR a0), some (xI a1), some (xI (0 : Int32)), some (xI (0 : Int32))]) rfl rfl ?_)
  refine t_Mo_degree_L4 (by omega) _ _ _ _ _ hk (fun v12 v13 h14 hk => ?_)
  refine sx_iload_n dc_Mo_degree_40 rfl ?_
  exact sx_retI dc_Mo_degree_41 rfl hk.val
theorem dc_Mo_threes_0 : decode M_Mo_threes.2.1 0 = .ok (.iload_n 1, 1) := by decide +kernel
theorem dc_Mo_threes_1 : decode M_Mo_threes.2.1 1 = .ok (.i2l, 1) := by decide +kernel
theorem dc_Mo_threes_2 : decode M_Mo_threes.2.1 2 = .ok (.lconst 0, 1) := by decide +kernel
theorem dc_Mo_threes_3 : decode M_Mo_threes.2.1 3 = .ok (.ldc2_w 258, 3) := by decide +kernel
theorem dc_Mo_threes_6 : decode M_Mo_threes.2.1 6 = .ok (.invokestatic 73, 3) := by decide +kernel
theorem dc_Mo_threes_9 : decode M_Mo_threes.2.1 9 = .ok (.ifCond .ne 6, 3) := by decide +kernel
theorem dc_Mo_threes_12 : decode M_Mo_threes.2.1 12 = .ok (.bipush (-2), 2) := by decide +kernel
theorem dc_Mo_threes_14 : decode M_Mo_threes.2.1 14 = .ok (.ireturn, 1) := by decide +kernel
theorem dc_Mo_threes_15 : decode M_Mo_threes.2.1 15 = .ok (.iload_n 1, 1) := by decide +kernel
theorem dc_Mo_threes_16 : decode M_Mo_threes.2.1 16 = .ok (.iconst 4, 1) := by decide +kernel
theorem dc_Mo_threes_17 : decode M_Mo_threes.2.1 17 = .ok (.if_icmp .ne 68, 3) := by decide +kernel
theorem dc_Mo_threes_20 : decode M_Mo_threes.2.1 20 = .ok (.iconst 0, 1) := by decide +kernel
theorem dc_Mo_threes_21 : decode M_Mo_threes.2.1 21 = .ok (.istore_n 2, 1) := by decide +kernel
theorem dc_Mo_threes_22 : decode M_Mo_threes.2.1 22 = .ok (.iconst 0, 1) := by decide +kernel
theorem dc_Mo_threes_23 : decode M_Mo_threes.2.1 23 = .ok (.istore_n 3, 1) := by decide +kernel
theorem dc_Mo_threes_24 : decode M_Mo_threes.2.1 24 = .ok (.iload_n 3, 1) := by decide +kernel
theorem dc_Mo_threes_25 : decode M_Mo_threes.2.1 25 = .ok (.aload_n 0, 1) := by decide +kernel
theorem dc_Mo_threes_26 : decode M_Mo_threes.2.1 26 = .ok (.getfield 23, 3) := by decide +kernel
theorem dc_Mo_threes_29 : decode M_Mo_threes.2.1 29 = .ok (.if_icmp .ge 30, 3) := by decide +kernel
theorem dc_Mo_threes_32 : decode M_Mo_threes.2.1 32 = .ok (.iload_n 2, 1) := by decide +kernel
theorem dc_Mo_threes_33 : decode M_Mo_threes.2.1 33 = .ok (.aload_n 0, 1) := by decide +kernel
theorem dc_Mo_threes_34 : decode M_Mo_threes.2.1 34 = .ok (.iload_n 3, 1) := by decide +kernel
theorem dc_Mo_threes_35 : decode M_Mo_threes.2.1 35 = .ok (.invokevirtual 260, 3) := by decide +kernel
theorem dc_Mo_threes_38 : decode M_Mo_threes.2.1 38 = .ok (.aload_n 0, 1) := by decide +kernel
theorem dc_Mo_threes_39 : decode M_Mo_threes.2.1 39 = .ok (.getfield 23, 3) := by decide +kernel
theorem dc_Mo_threes_42 : decode M_Mo_threes.2.1 42 = .ok (.iconst 1, 1) := by decide +kernel
theorem dc_Mo_threes_43 : decode M_Mo_threes.2.1 43 = .ok (.isub, 1) := by decide +kernel
theorem dc_Mo_threes_44 : decode M_Mo_threes.2.1 44 = .ok (.aload_n 0, 1) := by decide +kernel
theorem dc_Mo_threes_45 : decode M_Mo_threes.2.1 45 = .ok (.iload_n 3, 1) := by decide +kernel
theorem dc_Mo_threes_46 : decode M_Mo_threes.2.1 46 = .ok (.invokevirtual 260, 3) := by decide +kernel
theorem dc_Mo_threes_49 : decode M_Mo_threes.2.1 49 = .ok (.isub, 1) := by decide +kernel
theorem dc_Mo_threes_50 : decode M_Mo_threes.2.1 50 = .ok (.imul, 1) := by decide +kernel
theorem dc_Mo_threes_51 : decode M_Mo_threes.2.1 51 = .ok (.iadd, 1) := by decide +kernel
theorem dc_Mo_threes_52 : decode M_Mo_threes.2.1 52 = .ok (.istore_n 2, 1) := by decide +kernel
theorem dc_Mo_threes_53 : decode M_Mo_threes.2.1 53 = .ok (.iinc 3 1, 3) := by decide +kernel
theorem dc_Mo_threes_56 : decode M_Mo_threes.2.1 56 = .ok (.goto (-32), 3) := by decide +kernel
theorem dc_Mo_threes_59 : decode M_Mo_threes.2.1 59 = .ok (.aload_n 0, 1) := by decide +kernel
theorem dc_Mo_threes_60 : decode M_Mo_threes.2.1 60 = .ok (.getfield 23, 3) := by decide +kernel
theorem dc_Mo_threes_63 : decode M_Mo_threes.2.1 63 = .ok (.aload_n 0, 1) := by decide +kernel
theorem dc_Mo_threes_64 : decode M_Mo_threes.2.1 64 = .ok (.getfield 23, 3) := by decide +kernel
theorem dc_Mo_threes_67 : decode M_Mo_threes.2.1 67 = .ok (.iconst 1, 1) := by decide +kernel
theorem dc_Mo_threes_68 : decode M_Mo_threes.2.1 68 = .ok (.isub, 1) := by decide +kernel
theorem dc_Mo_threes_69 : decode M_Mo_threes.2.1 69 = .ok (.imul, 1) := by decide +kernel
theorem dc_Mo_threes_70 : decode M_Mo_threes.2.1 70 = .ok (.aload_n 0, 1) := by decide +kernel
theorem dc_Mo_threes_71 : decode M_Mo_threes.2.1 71 = .ok (.getfield 23, 3) := by decide +kernel
theorem dc_Mo_threes_74 : decode M_Mo_threes.2.1 74 = .ok (.iconst 2, 1) := by decide +kernel
theorem dc_Mo_threes_75 : decode M_Mo_threes.2.1 75 = .ok (.isub, 1) := by decide +kernel
theorem dc_Mo_threes_76 : decode M_Mo_threes.2.1 76 = .ok (.imul, 1) := by decide +kernel
theorem dc_Mo_threes_77 : decode M_Mo_threes.2.1 77 = .ok (.bipush 6, 2) := by decide +kernel
theorem dc_Mo_threes_79 : decode M_Mo_threes.2.1 79 = .ok (.idiv, 1) := by decide +kernel
theorem dc_Mo_threes_80 : decode M_Mo_threes.2.1 80 = .ok (.iload_n 2, 1) := by decide +kernel
theorem dc_Mo_threes_81 : decode M_Mo_threes.2.1 81 = .ok (.iconst 2, 1) := by decide +kernel
theorem dc_Mo_threes_82 : decode M_Mo_threes.2.1 82 = .ok (.idiv, 1) := by decide +kernel
theorem dc_Mo_threes_83 : decode M_Mo_threes.2.1 83 = .ok (.isub, 1) := by decide +kernel
theorem dc_Mo_threes_84 : decode M_Mo_threes.2.1 84 = .ok (.ireturn, 1) := by decide +kernel
theorem dc_Mo_threes_85 : decode M_Mo_threes.2.1 85 = .ok (.aload_n 0, 1) := by decide +kernel
theorem dc_Mo_threes_86 : decode M_Mo_threes.2.1 86 = .ok (.invokevirtual 263, 3) := by decide +kernel
theorem dc_Mo_threes_89 : decode M_Mo_threes.2.1 89 = .ok (.iconst 0, 1) := by decide +kernel
theorem dc_Mo_threes_90 : decode M_Mo_threes.2.1 90 = .ok (.istore_n 2, 1) := by decide +kernel
theorem dc_Mo_threes_91 : decode M_Mo_threes.2.1 91 = .ok (.iconst 0, 1) := by decide +kernel
theorem dc_Mo_threes_92 : decode M_Mo_threes.2.1 92 = .ok (.istore_n 3, 1) := by decide +kernel
theorem dc_Mo_threes_93 : decode M_Mo_threes.2.1 93 = .ok (.iconst (-1), 1) := by decide +kernel
theorem dc_Mo_threes_94 : decode M_Mo_threes.2.1 94 = .ok (.istore 4, 2) := by decide +kernel
theorem dc_Mo_threes_96 : decode M_Mo_threes.2.1 96 = .ok (.iconst 0, 1) := by decide +kernel
theorem dc_Mo_threes_97 : decode M_Mo_threes.2.1 97 = .ok (.istore 5, 2) := by decide +kernel
theorem dc_Mo_threes_99 : decode M_Mo_threes.2.1 99 = .ok (.iload 5, 2) := by decide +kernel
theorem dc_Mo_threes_101 : decode M_Mo_threes.2.1 101 = .ok (.aload_n 0, 1) := by decide +kernel
theorem dc_Mo_threes_102 : decode M_Mo_threes.2.1 102 = .ok (.getfield 245, 3) := by decide +kernel
theorem dc_Mo_threes_105 : decode M_Mo_threes.2.1 105 = .ok (.if_icmp .ge 73, 3) := by decide +kernel
theorem dc_Mo_threes_108 : decode M_Mo_threes.2.1 108 = .ok (.aload_n 0, 1) := by decide +kernel
theorem dc_Mo_threes_109 : decode M_Mo_threes.2.1 109 = .ok (.iload 5, 2) := by decide +kernel
theorem dc_Mo_threes_111 : decode M_Mo_threes.2.1 111 = .ok (.aload_n 0, 1) := by decide +kernel
theorem dc_Mo_threes_112 : decode M_Mo_threes.2.1 112 = .ok (.getfield 77, 3) := by decide +kernel
theorem dc_Mo_threes_115 : decode M_Mo_threes.2.1 115 = .ok (.aload_n 0, 1) := by decide +kernel
theorem dc_Mo_threes_116 : decode M_Mo_threes.2.1 116 = .ok (.getfield 26, 3) := by decide +kernel
theorem dc_Mo_threes_119 : decode M_Mo_threes.2.1 119 = .ok (.invokevirtual 252, 3) := by decide +kernel
theorem dc_Mo_threes_122 : decode M_Mo_threes.2.1 122 = .ok (.istore 6, 2) := by decide +kernel
theorem dc_Mo_threes_124 : decode M_Mo_threes.2.1 124 = .ok (.iload_n 2, 1) := by decide +kernel
theorem dc_Mo_threes_125 : decode M_Mo_threes.2.1 125 = .ok (.iload 6, 2) := by decide +kernel
theorem dc_Mo_threes_127 : decode M_Mo_threes.2.1 127 = .ok (.iconst 1, 1) := by decide +kernel
theorem dc_Mo_threes_128 : decode M_Mo_threes.2.1 128 = .ok (.if_icmp .ne 7, 3) := by decide +kernel
theorem dc_Mo_threes_131 : decode M_Mo_threes.2.1 131 = .ok (.iconst 1, 1) := by decide +kernel
theorem dc_Mo_threes_132 : decode M_Mo_threes.2.1 132 = .ok (.goto 4, 3) := by decide +kernel
theorem dc_Mo_threes_135 : decode M_Mo_threes.2.1 135 = .ok (.iconst 0, 1) := by decide +kernel
theorem dc_Mo_threes_136 : decode M_Mo_threes.2.1 136 = .ok (.iadd, 1) := by decide +kernel
theorem dc_Mo_threes_137 : decode M_Mo_threes.2.1 137 = .ok (.istore_n 2, 1) := by decide +kernel
theorem dc_Mo_threes_138 : decode M_Mo_threes.2.1 138 = .ok (.iload_n 3, 1) := by decide +kernel
theorem dc_Mo_threes_139 : decode M_Mo_threes.2.1 139 = .ok (.iload 6, 2) := by decide +kernel
theorem dc_Mo_threes_141 : decode M_Mo_threes.2.1 141 = .ok (.ifCond .ne 7, 3) := by decide +kernel
theorem dc_Mo_threes_144 : decode M_Mo_threes.2.1 144 = .ok (.iconst 1, 1) := by decide +kernel
theorem dc_Mo_threes_145 : decode M_Mo_threes.2.1 145 = .ok (.goto 4, 3) := by decide +kernel
theorem dc_Mo_threes_148 : decode M_Mo_threes.2.1 148 = .ok (.iconst 0, 1) := by decide +kernel
theorem dc_Mo_threes_149 : decode M_Mo_threes.2.1 149 = .ok (.iadd, 1) := by decide +kernel
theorem dc_Mo_threes_150 : decode M_Mo_threes.2.1 150 = .ok (.istore_n 3, 1) := by decide +kernel
theorem dc_Mo_threes_151 : decode M_Mo_threes.2.1 151 = .ok (.iload 6, 2) := by decide +kernel
theorem dc_Mo_threes_153 : decode M_Mo_threes.2.1 153 = .ok (.iconst (-1), 1) := by decide +kernel
theorem dc_Mo_threes_154 : decode M_Mo_threes.2.1 154 = .ok (.if_icmp .eq 18, 3) := by decide +kernel
theorem dc_Mo_threes_157 : decode M_Mo_threes.2.1 157 = .ok (.iload 4, 2) := by decide +kernel
theorem dc_Mo_threes_159 : decode M_Mo_threes.2.1 159 = .ok (.iconst (-1), 1) := by decide +kernel
theorem dc_Mo_threes_160 : decode M_Mo_threes.2.1 160 = .ok (.if_icmp .ne 12, 3) := by decide +kernel
theorem dc_Mo_threes_163 : decode M_Mo_threes.2.1 163 = .ok (.aload_n 0, 1) := by decide +kernel
theorem dc_Mo_threes_164 : decode M_Mo_threes.2.1 164 = .ok (.getfield 38, 3) := by decide +kernel
theorem dc_Mo_threes_167 : decode M_Mo_threes.2.1 167 = .ok (.iload 5, 2) := by decide +kernel
theorem dc_Mo_threes_169 : decode M_Mo_threes.2.1 169 = .ok (.iaload, 1) := by decide +kernel
theorem dc_Mo_threes_170 : decode M_Mo_threes.2.1 170 = .ok (.istore 4, 2) := by decide +kernel
theorem dc_Mo_threes_172 : decode M_Mo_threes.2.1 172 = .ok (.iinc 5 1, 3) := by decide +kernel
theorem dc_Mo_threes_175 : decode M_Mo_threes.2.1 175 = .ok (.goto (-76), 3) := by decide +kernel
theorem dc_Mo_threes_178 : decode M_Mo_threes.2.1 178 = .ok (.iload_n 1, 1) := by decide +kernel
theorem dc_Mo_threes_179 : decode M_Mo_threes.2.1 179 = .ok (.ifCond .ne 7, 3) := by decide +kernel
theorem dc_Mo_threes_182 : decode M_Mo_threes.2.1 182 = .ok (.iload_n 2, 1) := by decide +kernel
theorem dc_Mo_threes_183 : decode M_Mo_threes.2.1 183 = .ok (.goto 25, 3) := by decide +kernel
theorem dc_Mo_threes_186 : decode M_Mo_threes.2.1 186 = .ok (.iload_n 1, 1) := by decide +kernel
theorem dc_Mo_threes_187 : decode M_Mo_threes.2.1 187 = .ok (.iconst 1, 1) := by decide +kernel
theorem dc_Mo_threes_188 : decode M_Mo_threes.2.1 188 = .ok (.if_icmp .ne 7, 3) := by decide +kernel
theorem dc_Mo_threes_191 : decode M_Mo_threes.2.1 191 = .ok (.iload_n 3, 1) := by decide +kernel
theorem dc_Mo_threes_192 : decode M_Mo_threes.2.1 192 = .ok (.goto 16, 3) := by decide +kernel
theorem dc_Mo_threes_195 : decode M_Mo_threes.2.1 195 = .ok (.iload_n 1, 1) := by decide +kernel
theorem dc_Mo_threes_196 : decode M_Mo_threes.2.1 196 = .ok (.iconst 2, 1) := by decide +kernel
theorem dc_Mo_threes_197 : decode M_Mo_threes.2.1 197 = .ok (.if_icmp .ne 9, 3) := by decide +kernel
theorem dc_Mo_threes_200 : decode M_Mo_threes.2.1 200 = .ok (.iload_n 2, 1) := by decide +kernel
theorem dc_Mo_threes_201 : decode M_Mo_threes.2.1 201 = .ok (.iload_n 3, 1) := by decide +kernel
theorem dc_Mo_threes_202 : decode M_Mo_threes.2.1 202 = .ok (.iadd, 1) := by decide +kernel
theorem dc_Mo_threes_203 : decode M_Mo_threes.2.1 203 = .ok (.goto 5, 3) := by decide +kernel
theorem dc_Mo_threes_206 : decode M_Mo_threes.2.1 206 = .ok (.iload 4, 2) := by decide +kernel
theorem dc_Mo_threes_208 : decode M_Mo_threes.2.1 208 = .ok (.ireturn, 1) := by decide +kernel
def f_Mo_threes_L99 (a0 : Nat) (a1 : Int32) : Nat → Int32 → Int32 → Int32 → Int32 → xH → (Int32 → Int32 → Int32 → Int32 → xH → Option (Int32 × xH)) → Option (Int32 × xH)
  | 0, _, _, _, _, _, _ => none
  | n + 1, a2, a3, a4, a5, h, K => gd (hK h a0 = 11) (if (hI h a0 32) ≤ a5 then K a2 a3 a4 a5 h else Option.bind (f_Mo_sortOf a0 a5 (hI h a0 8) (hI h a0 9) h) (fun q20 => jn (fun (x25 : Int32) => f_Mo_threes_L99 a0 a1 n (a2 + (if q20.1 = (1 : Int32) then (1 : Int32) else (0 : Int32))) (a3 + (if q20.1 = 0 then (1 : Int32) else (0 : Int32))) x25 (a5 + (1 : Int32)) q20.2 K) (fun k26 => if q20.1 = (-1 : Int32) then k26 a4 else if a4 = (-1 : Int32) then gd (hK q20.2 a0 = 11) (gd (hK q20.2 (hR q20.2 a0 29) = 12) (gd (¬ (a5 < 0 ∨ hL q20.2 (hR q20.2 a0 29) ≤ a5.toNatClampNeg)) (k26 (hI q20.2 (hR q20.2 a0 29) a5.toNatClampNeg)))) else k26 a4)))
def f_Mo_threes_L24 (a0 : Nat) (a1 : Int32) : Nat → Int32 → Int32 → xH → (Int32 → Int32 → xH → Option (Int32 × xH)) → Option (Int32 × xH)
  | 0, _, _, _, _ => none
  | n + 1, a2, a3, h, K => gd (hK h a0 = 11) (if (hI h a0 7) ≤ a3 then K a2 a3 h else Option.bind (f_Mo_degree a0 a3 h) (fun q43 => gd (hK q43.2 a0 = 11) (Option.bind (f_Mo_degree a0 a3 q43.2) (fun q45 => f_Mo_threes_L24 a0 a1 n (a2 + (q43.1 * (((hI q43.2 a0 7) - (1 : Int32)) - q45.1))) (a3 + (1 : Int32)) q45.2 K))))
def f_Mo_threes (a0 : Nat) (a1 : Int32) (h : xH) : Option (Int32 × xH) := Option.bind (f_Mo_in a1.toInt64 (0 : Int64) (4 : Int64) h) (fun q13 => if q13.1 = 0 then some ((-2 : Int32), q13.2) else if a1 = (4 : Int32) then f_Mo_threes_L24 a0 a1 fu (0 : Int32) (0 : Int32) q13.2 (fun v46 v47 h48 => gd (hK h48 a0 = 11) (some (((((hI h48 a0 7) * ((hI h48 a0 7) - (1 : Int32))) * ((hI h48 a0 7) - (2 : Int32))) / (6 : Int32)) - (v46 / (2 : Int32)), h48))) else gd (hK q13.2 a0 = 11) (Option.bind (f_Mo_gathers a0 q13.2) (fun q16 => f_Mo_threes_L99 a0 a1 fu (0 : Int32) (0 : Int32) (-1 : Int32) (0 : Int32) q16.2 (fun v32 v33 v34 v35 h36 => some ((if a1 = 0 then v32 else if a1 = (1 : Int32) then v33 else if a1 = (2 : Int32) then v32 + v33 else v34), h36)))))
theorem t_Mo_threes_L99 {l : Launch} {z : xZ} {d mc ms : Nat} {Ph : Option xV → xH → Prop} {a0 : Nat} {a1 : Int32}  (hd : 2 ≤ d) : ∀ (n : Nat) (a2 : Int32) (a3 : Int32) (a4 : Int32) (a5 : Int32) (h : xH) (K : Int32 → Int32 → Int32 → Int32 → xH → Option (Int32 × xH)), OK (f_Mo_threes_L99 a0 a1 n a2 a3 a4 a5 h K) (fun q => Ph (some (xI q.1)) q.2) → (∀ (a2 : Int32) (a3 : Int32) (a4 : Int32) (a5 : Int32) (h : xH), OK (K a2 a3 a4 a5 h) (fun q => Ph (some (xI q.1)) q.2) → Sx l z d mc ms M_Mo_threes 178 [some (xR a0), some (xI a1), some (xI a2), some (xI a3), some (xI a4), some (xI a5), none] [] h Ph) → Sx l z d mc ms M_Mo_threes 99 [some (xR a0), some (xI a1), some (xI a2), some (xI a3), some (xI a4), some (xI a5), none] [] h Ph := by
  intro n
  induction n with
  | zero => intro a2 a3 a4 a5 h K hk hE; exact hk.no
  | succ n ih =>
    intro a2 a3 a4 a5 h K hk hE
    rw [f_Mo_threes_L99] at hk
    refine sx_iload dc_Mo_threes_99 rfl ?_
    refine sx_aload_n dc_Mo_threes_101 rfl ?_
    obtain ⟨g18, hk⟩ := hk.g
    refine sx_get (ci := 11) (k := 32) rfl (by decide) wF_Mo_245 g18 dc_Mo_threes_102 ?_
    refine sx_icmp_ge (tgt := 178) dc_Mo_threes_105 (by decide) (fun c19 => ?_) (fun c19 => ?_)
    · replace hk := hk.t c19
      exact hE a2 a3 a4 a5 h hk
    · replace hk := hk.f c19
      refine sx_aload_n dc_Mo_threes_108 rfl ?_
      refine sx_iload dc_Mo_threes_109 rfl ?_
      refine sx_aload_n dc_Mo_threes_111 rfl ?_
      refine sx_get (ci := 11) (k := 8) rfl (by decide) wF_Mo_77 g18 dc_Mo_threes_112 ?_
      refine sx_aload_n dc_Mo_threes_115 rfl ?_
      refine sx_get (ci := 11) (k := 9) rfl (by decide) wF_Mo_26 g18 dc_Mo_threes_116 ?_
      obtain ⟨q20, eq20, hk⟩ := hk.bind
      refine sx_callV (d2 := d - 1) (mc2 := 0) (ms2 := 0) (as := [xI a5, xI (hI h a0 8), xI (hI h a0 9)]) mk_Mo_sortOf rfl (x_rk (ci := 11) g18 rfl rfl) wM_Mo_252 mi_Mo_sortOf me_Mo_sortOf rfl (Nat.le_of_ble_eq_true rfl) (Nat.le_of_ble_eq_true rfl) dc_Mo_threes_119 (by omega) (Nat.zero_le _) (Nat.zero_le _) ?_
      refine t_Mo_sortOf (by omega) ⟨q20, eq20, ?_⟩
      refine sx_eq0 (lc2 := [some (xR a0), some (xI a1), some (xI a2), some (xI a3), some (xI a4), some (xI a5), none]) (st2 := [xI q20.1]) rfl rfl ?_
      refine sx_istore dc_Mo_threes_122 (by decide) (sx_eq (lc2 := [some (xR a0), some (xI a1), some (xI a2), some (xI a3), some (xI a4), some (xI a5), some (xI q20.1)]) rfl rfl ?_)
      refine sx_iload_n dc_Mo_threes_124 rfl ?_
      refine sx_iload dc_Mo_threes_125 rfl ?_
      refine sx_iconst (v := (1 : Int32)) dc_Mo_threes_127 (by decide) ?_
      refine sx_mg (pc2 := 136) (lc2 := [some (xR a0), some (xI a1), some (xI a2), some (xI a3), some (xI a4), some (xI a5), some (xI q20.1)]) (st2 := [xI (if q20.1 = (1 : Int32) then (1 : Int32) else (0 : Int32)), xI a2]) (h2 := q20.2) ?_ (fun J21 => ?_)
      · refine sx_iadd dc_Mo_threes_136 ?_
        refine sx_istore_n dc_Mo_threes_137 (by decide) (sx_eq (lc2 := [some (xR a0), some (xI a1), some (xI (a2 + (if q20.1 = (1 : Int32) then (1 : Int32) else (0 : Int32)))), some (xI a3), some (xI a4), some (xI a5), some (xI q20.1)]) rfl rfl ?_)
        refine sx_iload_n dc_Mo_threes_138 rfl ?_
        refine sx_iload dc_Mo_threes_139 rfl ?_
        refine sx_mg (pc2 := 149) (lc2 := [some (xR a0), some (xI a1), some (xI (a2 + (if q20.1 = (1 : Int32) then (1 : Int32) else (0 : Int32)))), some (xI a3), some (xI a4), some (xI a5), some (xI q20.1)]) (st2 := [xI (if q20.1 = 0 then (1 : Int32) else (0 : Int32)), xI a3]) (h2 := q20.2) ?_ (fun J23 => ?_)
        · refine sx_iadd dc_Mo_threes_149 ?_
          refine sx_istore_n dc_Mo_threes_150 (by decide) (sx_eq (lc2 := [some (xR a0), some (xI a1), some (xI (a2 + (if q20.1 = (1 : Int32) then (1 : Int32) else (0 : Int32)))), some (xI (a3 + (if q20.1 = 0 then (1 : Int32) else (0 : Int32)))), some (xI a4), some (xI a5), some (xI q20.1)]) rfl rfl ?_)
          refine sx_iload dc_Mo_threes_151 rfl ?_
          refine sx_iconst (v := (-1 : Int32)) dc_Mo_threes_153 (by decide) ?_
          refine hk.j (X := fun x25 => Sx l z d mc ms M_Mo_threes 172 [some (xR a0), some (xI a1), some (xI (a2 + (if q20.1 = (1 : Int32) then (1 : Int32) else (0 : Int32)))), some (xI (a3 + (if q20.1 = 0 then (1 : Int32) else (0 : Int32)))), some (xI x25), some (xI a5), some (xI q20.1)] [] q20.2 Ph) (fun x25 hk => ?_) (fun k26 jk26 hk => ?_)
          · refine sx_iinc (v := (1 : Int32)) dc_Mo_threes_172 rfl (by decide) (by decide) (sx_eq (lc2 := [some (xR a0), some (xI a1), some (xI (a2 + (if q20.1 = (1 : Int32) then (1 : Int32) else (0 : Int32)))), some (xI (a3 + (if q20.1 = 0 then (1 : Int32) else (0 : Int32)))), some (xI x25), some (xI (a5 + (1 : Int32))), some (xI q20.1)]) rfl rfl ?_)
            refine sx_goto (tgt := 99) dc_Mo_threes_175 (by decide) ?_
            exact sx_less (by simp [x_le]) (ih (a2 + (if q20.1 = (1 : Int32) then (1 : Int32) else (0 : Int32))) (a3 + (if q20.1 = 0 then (1 : Int32) else (0 : Int32))) x25 (a5 + (1 : Int32)) q20.2 _ hk hE)
          · refine sx_icmp_eq (tgt := 172) dc_Mo_threes_154 (by decide) (fun c27 => ?_) (fun c27 => ?_)
            · replace hk := hk.t c27
              exact jk26 a4 hk
            · replace hk := hk.f c27
              refine sx_iload dc_Mo_threes_157 rfl ?_
              refine sx_iconst (v := (-1 : Int32)) dc_Mo_threes_159 (by decide) ?_
              refine sx_icmp_ne (tgt := 172) dc_Mo_threes_160 (by decide) (fun c28 => ?_) (fun c28 => ?_)
              · replace hk := hk.f c28
                exact jk26 a4 hk
              · replace hk := hk.t c28
                refine sx_aload_n dc_Mo_threes_163 rfl ?_
                obtain ⟨g29, hk⟩ := hk.g
                refine sx_get (ci := 11) (k := 29) rfl (by decide) wF_Mo_38 g29 dc_Mo_threes_164 ?_
                refine sx_iload dc_Mo_threes_167 rfl ?_
                obtain ⟨g30, hk⟩ := hk.g
                obtain ⟨g31, hk⟩ := hk.g
                refine sx_iald g30 g31 dc_Mo_threes_169 ?_
                refine sx_istore dc_Mo_threes_170 (by decide) (sx_eq (lc2 := [some (xR a0), some (xI a1), some (xI (a2 + (if q20.1 = (1 : Int32) then (1 : Int32) else (0 : Int32)))), some (xI (a3 + (if q20.1 = 0 then (1 : Int32) else (0 : Int32)))), some (xI (hI q20.2 (hR q20.2 a0 29) a5.toNatClampNeg)), some (xI a5), some (xI q20.1)]) rfl rfl ?_)
                exact jk26 (hI q20.2 (hR q20.2 a0 29) a5.toNatClampNeg) hk
        · refine sx_if_ne (tgt := 148) dc_Mo_threes_141 (by decide) (fun c24 => ?_) (fun c24 => ?_)
          · try simp only [if_neg c24] at J23
            refine sx_iconst (v := (0 : Int32)) dc_Mo_threes_148 (by decide) ?_
            exact J23
          · try simp only [if_pos c24] at J23
            refine sx_iconst (v := (1 : Int32)) dc_Mo_threes_144 (by decide) ?_
            refine sx_goto (tgt := 149) dc_Mo_threes_145 (by decide) ?_
            exact J23
      · refine sx_icmp_ne (tgt := 135) dc_Mo_threes_128 (by decide) (fun c22 => ?_) (fun c22 => ?_)
        · try simp only [if_neg c22] at J21
          refine sx_iconst (v := (0 : Int32)) dc_Mo_threes_135 (by decide) ?_
          exact J21
        · try simp only [if_pos c22] at J21
          refine sx_iconst (v := (1 : Int32)) dc_Mo_threes_131 (by decide) ?_
          refine sx_goto (tgt := 136) dc_Mo_threes_132 (by decide) ?_
          exact J21
theorem t_Mo_threes_L24 {l : Launch} {z : xZ} {d mc ms : Nat} {Ph : Option xV → xH → Prop} {a0 : Nat} {a1 : Int32}  (hd : 4 ≤ d) : ∀ (n : Nat) (a2 : Int32) (a3 : Int32) (h : xH) (K : Int32 → Int32 → xH → Option (Int32 × xH)), OK (f_Mo_threes_L24 a0 a1 n a2 a3 h K) (fun q => Ph (some (xI q.1)) q.2) → (∀ (a2 : Int32) (a3 : Int32) (h : xH), OK (K a2 a3 h) (fun q => Ph (some (xI q.1)) q.2) → Sx l z d mc ms M_Mo_threes 59 [some (xR a0), some (xI a1), some (xI a2), some (xI a3), none, none, none] [] h Ph) → Sx l z d mc ms M_Mo_threes 24 [some (xR a0), some (xI a1), some (xI a2), some (xI a3), none, none, none] [] h Ph := by
  intro n
  induction n with
  | zero => intro a2 a3 h K hk hE; exact hk.no
  | succ n ih =>
    intro a2 a3 h K hk hE
    rw [f_Mo_threes_L24] at hk
    refine sx_iload_n dc_Mo_threes_24 rfl ?_
    refine sx_aload_n dc_Mo_threes_25 rfl ?_
    obtain ⟨g41, hk⟩ := hk.g
    refine sx_get (ci := 11) (k := 7) rfl (by decide) wF_Mo_23 g41 dc_Mo_threes_26 ?_
    refine sx_icmp_ge (tgt := 59) dc_Mo_threes_29 (by decide) (fun c42 => ?_) (fun c42 => ?_)
    · replace hk := hk.t c42
      exact hE a2 a3 h hk
    · replace hk := hk.f c42
      refine sx_iload_n dc_Mo_threes_32 rfl ?_
      refine sx_aload_n dc_Mo_threes_33 rfl ?_
      refine sx_iload_n dc_Mo_threes_34 rfl ?_
      obtain ⟨q43, eq43, hk⟩ := hk.bind
      refine sx_callV (d2 := d - 1) (mc2 := 0) (ms2 := 0) (as := [xI a3]) mk_Mo_degree rfl (x_rk (ci := 11) g41 rfl rfl) wM_Mo_260 mi_Mo_degree me_Mo_degree rfl (Nat.le_of_ble_eq_true rfl) (Nat.le_of_ble_eq_true rfl) dc_Mo_threes_35 (by omega) (Nat.zero_le _) (Nat.zero_le _) ?_
      refine t_Mo_degree (by omega) ⟨q43, eq43, ?_⟩
      refine sx_eq0 (lc2 := [some (xR a0), some (xI a1), some (xI a2), some (xI a3), none, none, none]) (st2 := [xI q43.1, xI a2]) rfl rfl ?_
      refine sx_aload_n dc_Mo_threes_38 rfl ?_
      obtain ⟨g44, hk⟩ := hk.g
      refine sx_get (ci := 11) (k := 7) rfl (by decide) wF_Mo_23 g44 dc_Mo_threes_39 ?_
      refine sx_iconst (v := (1 : Int32)) dc_Mo_threes_42 (by decide) ?_
      refine sx_isub dc_Mo_threes_43 ?_
      refine sx_aload_n dc_Mo_threes_44 rfl ?_
      refine sx_iload_n dc_Mo_threes_45 rfl ?_
      obtain ⟨q45, eq45, hk⟩ := hk.bind
      refine sx_callV (d2 := d - 1) (mc2 := 0) (ms2 := 0) (as := [xI a3]) mk_Mo_degree rfl (x_rk (ci := 11) g44 rfl rfl) wM_Mo_260 mi_Mo_degree me_Mo_degree rfl (Nat.le_of_ble_eq_true rfl) (Nat.le_of_ble_eq_true rfl) dc_Mo_threes_46 (by omega) (Nat.zero_le _) (Nat.zero_le _) ?_
      refine t_Mo_degree (by omega) ⟨q45, eq45, ?_⟩
      refine sx_eq0 (lc2 := [some (xR a0), some (xI a1), some (xI a2), some (xI a3), none, none, none]) (st2 := [xI q45.1, xI ((hI q43.2 a0 7) - (1 : Int32)), xI q43.1, xI a2]) rfl rfl ?_
      refine sx_isub dc_Mo_threes_49 ?_
      refine sx_imul dc_Mo_threes_50 ?_
      refine sx_iadd dc_Mo_threes_51 ?_
      refine sx_istore_n dc_Mo_threes_52 (by decide) (sx_eq (lc2 := [some (xR a0), some (xI a1), some (xI (a2 + (q43.1 * (((hI q43.2 a0 7) - (1 : Int32)) - q45.1)))), some (xI a3), none, none, none]) rfl rfl ?_)
      refine sx_iinc (v := (1 : Int32)) dc_Mo_threes_53 rfl (by decide) (by decide) (sx_eq (lc2 := [some (xR a0), some (xI a1), some (xI (a2 + (q43.1 * (((hI q43.2 a0 7) - (1 : Int32)) - q45.1)))), some (xI (a3 + (1 : Int32))), none, none, none]) rfl rfl ?_)
      refine sx_goto (tgt := 24) dc_Mo_threes_56 (by decide) ?_
      exact ih (a2 + (q43.1 * (((hI q43.2 a0 7) - (1 : Int32)) - q45.1))) (a3 + (1 : Int32)) q45.2 _ hk hE
theorem t_Mo_threes {l : Launch} {z : xZ} {d mc ms : Nat} {Ph : Option xV → xH → Prop} {a0 : Nat} {a1 : Int32}  {h : xH} (hd : 154 ≤ d) (hk : OK (f_Mo_threes a0 a1 h) (fun q => Ph (some (xI q.1)) q.2)) : Sx l z d mc ms M_Mo_threes 0 (x_en [xR a0, xI a1] 7) [] h Ph := by
  unfold f_Mo_threes at hk
  refine sx_eq (lc2 := [some (xR a0), some (xI a1), none, none, none, none, none]) rfl rfl ?_
  refine sx_iload_n dc_Mo_threes_0 rfl ?_
  refine sx_i2l dc_Mo_threes_1 ?_
  refine sx_lconst (v := 0) dc_Mo_threes_2 (by decide) ?_
  refine sx_ldc2 (v := 4) wJ_Mo_258 dc_Mo_threes_3 ?_
  obtain ⟨q13, eq13, hk⟩ := hk.bind
  refine sx_callS (d2 := d - 1) (mc2 := 0) (ms2 := 0) (as := [xJ a1.toInt64, xJ (0 : Int64), xJ (4 : Int64)]) mk_Mo_in rfl wM_Mo_73 mt_Mo_in rfl (Nat.le_of_ble_eq_true rfl) (Nat.le_of_ble_eq_true rfl) dc_Mo_threes_6 (by omega) (Nat.zero_le _) (Nat.zero_le _) ?_
  refine t_Mo_in (by omega) ⟨q13, eq13, ?_⟩
  refine sx_eq0 (lc2 := [some (xR a0), some (xI a1), none, none, none, none, none]) (st2 := [xI q13.1]) rfl rfl ?_
  refine sx_if_ne (tgt := 15) dc_Mo_threes_9 (by decide) (fun c14 => ?_) (fun c14 => ?_)
  · replace hk := hk.f c14
    refine sx_iload_n dc_Mo_threes_15 rfl ?_
    refine sx_iconst (v := (4 : Int32)) dc_Mo_threes_16 (by decide) ?_
    refine sx_icmp_ne (tgt := 85) dc_Mo_threes_17 (by decide) (fun c15 => ?_) (fun c15 => ?_)
    · replace hk := hk.f c15
      refine sx_aload_n dc_Mo_threes_85 rfl ?_
      obtain ⟨g17, hk⟩ := hk.g
      obtain ⟨q16, eq16, hk⟩ := hk.bind
      refine sx_callV (d2 := d - 1) (mc2 := 0) (ms2 := 0) (as := []) mk_Mo_gathers rfl (x_rk (ci := 11) g17 rfl rfl) wM_Mo_263 mi_Mo_gathers me_Mo_gathers rfl (Nat.le_of_ble_eq_true rfl) (Nat.le_of_ble_eq_true rfl) dc_Mo_threes_86 (by omega) (Nat.zero_le _) (Nat.zero_le _) ?_
      refine t_Mo_gathers (by omega) ⟨q16, eq16, ?_⟩
      refine sx_eq0 (lc2 := [some (xR a0), some (xI a1), none, none, none, none, none]) (st2 := []) rfl rfl ?_
      refine sx_iconst (v := (0 : Int32)) dc_Mo_threes_89 (by decide) ?_
      refine sx_istore_n dc_Mo_threes_90 (by decide) (sx_eq (lc2 := [some (xR a0), some (xI a1), some (xI (0 : Int32)), none, none, none, none]) rfl rfl ?_)
      refine sx_iconst (v := (0 : Int32)) dc_Mo_threes_91 (by decide) ?_
      refine sx_istore_n dc_Mo_threes_92 (by decide) (sx_eq (lc2 := [some (xR a0), some (xI a1), some (xI (0 : Int32)), some (xI (0 : Int32)), none, none, none]) rfl rfl ?_)
      refine sx_iconst (v := (-1 : Int32)) dc_Mo_threes_93 (by decide) ?_
      refine sx_istore dc_Mo_threes_94 (by decide) (sx_eq (lc2 := [some (xR a0), some (xI a1), some (xI (0 : Int32)), some (xI (0 : Int32)), some (xI (-1 : Int32)), none, none]) rfl rfl ?_)
      refine sx_iconst (v := (0 : Int32)) dc_Mo_threes_96 (by decide) ?_
      refine sx_istore dc_Mo_threes_97 (by decide) (sx_eq (lc2 := [some (xR a0), some (xI a1), some (xI (0 : Int32)), some (xI (0 : Int32)), some (xI (-1 : Int32)), some (xI (0 : Int32)), none]) rfl rfl ?_)
      refine t_Mo_threes_L99 (by omega) _ _ _ _ _ _ _ hk (fun v32 v33 v34 v35 h36 hk => ?_)
      refine sx_iload_n dc_Mo_threes_178 rfl ?_
      refine sx_mg (pc2 := 208) (lc2 := [some (xR a0), some (xI a1), some (xI v32), some (xI v33), some (xI v34), some (xI v35), none]) (st2 := [xI (if a1 = 0 then v32 else if a1 = (1 : Int32) then v33 else if a1 = (2 : Int32) then v32 + v33 else v34)]) (h2 := h36) ?_ (fun J37 => ?_)
      · exact sx_retI dc_Mo_threes_208 rfl hk.val
      · refine sx_if_ne (tgt := 186) dc_Mo_threes_179 (by decide) (fun c38 => ?_) (fun c38 => ?_)
        · try simp only [if_neg c38] at J37
          refine sx_iload_n dc_Mo_threes_186 rfl ?_
          refine sx_iconst (v := (1 : Int32)) dc_Mo_threes_187 (by decide) ?_
          refine sx_icmp_ne (tgt := 195) dc_Mo_threes_188 (by decide) (fun c39 => ?_) (fun c39 => ?_)
          · try simp only [if_neg c39] at J37
            refine sx_iload_n dc_Mo_threes_195 rfl ?_
            refine sx_iconst (v := (2 : Int32)) dc_Mo_threes_196 (by decide) ?_
            refine sx_icmp_ne (tgt := 206) dc_Mo_threes_197 (by decide) (fun c40 => ?_) (fun c40 => ?_)
            · try simp only [if_neg c40] at J37
              refine sx_iload dc_Mo_threes_206 rfl ?_
              exact J37
            · try simp only [if_pos c40] at J37
              refine sx_iload_n dc_Mo_threes_200 rfl ?_
              refine sx_iload_n dc_Mo_threes_201 rfl ?_
              refine sx_iadd dc_Mo_threes_202 ?_
              refine sx_goto (tgt := 208) dc_Mo_threes_203 (by decide) ?_
              exact J37
          · try simp only [if_pos c39] at J37
            refine sx_iload_n dc_Mo_threes_191 rfl ?_
            refine sx_goto (tgt := 208) dc_Mo_threes_192 (by decide) ?_
            exact J37
        · try simp only [if_pos c38] at J37
          refine sx_iload_n dc_Mo_threes_182 rfl ?_
          refine sx_goto (tgt := 208) dc_Mo_threes_183 (by decide) ?_
          exact J37
    · replace hk := hk.t c15
      refine sx_iconst (v := (0 : Int32)) dc_Mo_threes_20 (by decide) ?_
      refine sx_istore_n dc_Mo_threes_21 (by decide) (sx_eq (lc2 := [some (xR a0), some (xI a1), some (xI (0 : Int32)), none, none, none, none]) rfl rfl ?_)
      refine sx_iconst (v := (0 : Int32)) dc_Mo_threes_22 (by decide) ?_
      refine sx_istore_n dc_Mo_threes_23 (by decide) (sx_eq (lc2 := [some (xR a0), some (xI a1), some (xI (0 : Int32)), some (xI (0 : Int32)), none, none, none]) rfl rfl ?_)
      refine t_Mo_threes_L24 (by omega) _ _ _ _ _ hk (fun v46 v47 h48 hk => ?_)
      refine sx_aload_n dc_Mo_threes_59 rfl ?_
      obtain ⟨g49, hk⟩ := hk.g
      refine sx_get (ci := 11) (k := 7) rfl (by decide) wF_Mo_23 g49 dc_Mo_threes_60 ?_
      refine sx_aload_n dc_Mo_threes_63 rfl ?_
      refine sx_get (ci := 11) (k := 7) rfl (by decide) wF_Mo_23 g49 dc_Mo_threes_64 ?_
      refine sx_iconst (v := (1 : Int32)) dc_Mo_threes_67 (by decide) ?_
      refine sx_isub dc_Mo_threes_68 ?_
      refine sx_imul dc_Mo_threes_69 ?_
      refine sx_aload_n dc_Mo_threes_70 rfl ?_
      refine sx_get (ci := 11) (k := 7) rfl (by decide) wF_Mo_23 g49 dc_Mo_threes_71 ?_
      refine sx_iconst (v := (2 : Int32)) dc_Mo_threes_74 (by decide) ?_
      refine sx_isub dc_Mo_threes_75 ?_
      refine sx_imul dc_Mo_threes_76 ?_
      refine sx_bipush (v := (6 : Int32)) dc_Mo_threes_77 (by decide) ?_
      refine sx_idiv dc_Mo_threes_79 (by decide) ?_
      refine sx_iload_n dc_Mo_threes_80 rfl ?_
      refine sx_iconst (v := (2 : Int32)) dc_Mo_threes_81 (by decide) ?_
      refine sx_idiv dc_Mo_threes_82 (by decide) ?_
      refine sx_isub dc_Mo_threes_83 ?_
      exact sx_retI dc_Mo_threes_84 rfl hk.val
  · replace hk := hk.t c14
    refine sx_bipush (v := (-2 : Int32)) dc_Mo_threes_12 (by decide) ?_
    exact sx_retI dc_Mo_threes_14 rfl hk.val
theorem dc_Mo_isIn_0 : decode M_Mo_isIn.2.1 0 = .ok (.iload_n 0, 1) := by decide +kernel
theorem dc_Mo_isIn_1 : decode M_Mo_isIn.2.1 1 = .ok (.bipush 100, 2) := by decide +kernel
theorem dc_Mo_isIn_3 : decode M_Mo_isIn.2.1 3 = .ok (.idiv, 1) := by decide +kernel
theorem dc_Mo_isIn_4 : decode M_Mo_isIn.2.1 4 = .ok (.iload_n 1, 1) := by decide +kernel
theorem dc_Mo_isIn_5 : decode M_Mo_isIn.2.1 5 = .ok (.if_icmp .eq 22, 3) := by decide +kernel
theorem dc_Mo_isIn_8 : decode M_Mo_isIn.2.1 8 = .ok (.iload_n 0, 1) := by decide +kernel
theorem dc_Mo_isIn_9 : decode M_Mo_isIn.2.1 9 = .ok (.bipush 10, 2) := by decide +kernel
theorem dc_Mo_isIn_11 : decode M_Mo_isIn.2.1 11 = .ok (.idiv, 1) := by decide +kernel
theorem dc_Mo_isIn_12 : decode M_Mo_isIn.2.1 12 = .ok (.bipush 10, 2) := by decide +kernel
theorem dc_Mo_isIn_14 : decode M_Mo_isIn.2.1 14 = .ok (.irem, 1) := by decide +kernel
theorem dc_Mo_isIn_15 : decode M_Mo_isIn.2.1 15 = .ok (.iload_n 1, 1) := by decide +kernel
theorem dc_Mo_isIn_16 : decode M_Mo_isIn.2.1 16 = .ok (.if_icmp .eq 11, 3) := by decide +kernel
theorem dc_Mo_isIn_19 : decode M_Mo_isIn.2.1 19 = .ok (.iload_n 0, 1) := by decide +kernel
theorem dc_Mo_isIn_20 : decode M_Mo_isIn.2.1 20 = .ok (.bipush 10, 2) := by decide +kernel
theorem dc_Mo_isIn_22 : decode M_Mo_isIn.2.1 22 = .ok (.irem, 1) := by decide +kernel
theorem dc_Mo_isIn_23 : decode M_Mo_isIn.2.1 23 = .ok (.iload_n 1, 1) := by decide +kernel
theorem dc_Mo_isIn_24 : decode M_Mo_isIn.2.1 24 = .ok (.if_icmp .ne 7, 3) := by decide +kernel
theorem dc_Mo_isIn_27 : decode M_Mo_isIn.2.1 27 = .ok (.iconst 1, 1) := by decide +kernel
theorem dc_Mo_isIn_28 : decode M_Mo_isIn.2.1 28 = .ok (.goto 4, 3) := by decide +kernel
theorem dc_Mo_isIn_31 : decode M_Mo_isIn.2.1 31 = .ok (.iconst 0, 1) := by decide +kernel
theorem dc_Mo_isIn_32 : decode M_Mo_isIn.2.1 32 = .ok (.ireturn, 1) := by decide +kernel
def f_Mo_isIn (a0 : Int32) (a1 : Int32) (h : xH) : Option (Int32 × xH) := jn (fun (x1 : Int32) => some (nb x1, h)) (fun k2 => jn (fun (x3 : Unit) => k2 (1 : Int32)) (fun k4 => if (a0 / (100 : Int32)) = a1 then k4 () else if (jRem (a0 / (10 : Int32)) (10 : Int32)) = a1 then k4 () else if (jRem a0 (10 : Int32)) = a1 then k4 () else k2 (0 : Int32)))
theorem t_Mo_isIn {l : Launch} {z : xZ} {d mc ms : Nat} {Ph : Option xV → xH → Prop} {a0 : Int32} {a1 : Int32}  {h : xH} (hd : 1 ≤ d) (hk : OK (f_Mo_isIn a0 a1 h) (fun q => Ph (some (xI q.1)) q.2)) : Sx l z d mc ms M_Mo_isIn 0 (x_en [xI a0, xI a1] 2) [] h Ph := by
  unfold f_Mo_isIn at hk
  refine sx_eq (lc2 := [some (xI a0), some (xI a1)]) rfl rfl ?_
  refine sx_iload_n dc_Mo_isIn_0 rfl ?_
  refine sx_bipush (v := (100 : Int32)) dc_Mo_isIn_1 (by decide) ?_
  refine sx_idiv dc_Mo_isIn_3 (by decide) ?_
  refine sx_iload_n dc_Mo_isIn_4 rfl ?_
  refine hk.j (X := fun x1 => Sx l z d mc ms M_Mo_isIn 32 [some (xI a0), some (xI a1)] [xI x1] h Ph) (fun x1 hk => ?_) (fun k2 jk2 hk => ?_)
  · exact sx_retT dc_Mo_isIn_32 (Or.inl ⟨rfl, rfl⟩) rfl hk.val
  · refine hk.j (X := fun x3 => Sx l z d mc ms M_Mo_isIn 27 [some (xI a0), some (xI a1)] [] h Ph) (fun x3 hk => ?_) (fun k4 jk4 hk => ?_)
    · refine sx_iconst (v := (1 : Int32)) dc_Mo_isIn_27 (by decide) ?_
      refine sx_goto (tgt := 32) dc_Mo_isIn_28 (by decide) ?_
      exact jk2 (1 : Int32) hk
    · refine sx_icmp_eq (tgt := 27) dc_Mo_isIn_5 (by decide) (fun c5 => ?_) (fun c5 => ?_)
      · replace hk := hk.t c5
        exact jk4 () hk
      · replace hk := hk.f c5
        refine sx_iload_n dc_Mo_isIn_8 rfl ?_
        refine sx_bipush (v := (10 : Int32)) dc_Mo_isIn_9 (by decide) ?_
        refine sx_idiv dc_Mo_isIn_11 (by decide) ?_
        refine sx_bipush (v := (10 : Int32)) dc_Mo_isIn_12 (by decide) ?_
        refine sx_irem dc_Mo_isIn_14 (by decide) ?_
        refine sx_iload_n dc_Mo_isIn_15 rfl ?_
        refine sx_icmp_eq (tgt := 27) dc_Mo_isIn_16 (by decide) (fun c6 => ?_) (fun c6 => ?_)
        · replace hk := hk.t c6
          exact jk4 () hk
        · replace hk := hk.f c6
          refine sx_iload_n dc_Mo_isIn_19 rfl ?_
          refine sx_bipush (v := (10 : Int32)) dc_Mo_isIn_20 (by decide) ?_
          refine sx_irem dc_Mo_isIn_22 (by decide) ?_
          refine sx_iload_n dc_Mo_isIn_23 rfl ?_
          refine sx_icmp_ne (tgt := 31) dc_Mo_isIn_24 (by decide) (fun c7 => ?_) (fun c7 => ?_)
          · replace hk := hk.f c7
            refine sx_iconst (v := (0 : Int32)) dc_Mo_isIn_31 (by decide) ?_
            exact jk2 (0 : Int32) hk
          · replace hk := hk.t c7
            exact jk4 () hk
theorem dc_Mo_threesOf_0 : decode M_Mo_threesOf.2.1 0 = .ok (.iconst 0, 1) := by decide +kernel
theorem dc_Mo_threesOf_1 : decode M_Mo_threesOf.2.1 1 = .ok (.istore_n 2, 1) := by decide +kernel
theorem dc_Mo_threesOf_2 : decode M_Mo_threesOf.2.1 2 = .ok (.iconst 0, 1) := by decide +kernel
theorem dc_Mo_threesOf_3 : decode M_Mo_threesOf.2.1 3 = .ok (.istore_n 3, 1) := by decide +kernel
theorem dc_Mo_threesOf_4 : decode M_Mo_threesOf.2.1 4 = .ok (.iload_n 3, 1) := by decide +kernel
theorem dc_Mo_threesOf_5 : decode M_Mo_threesOf.2.1 5 = .ok (.aload_n 0, 1) := by decide +kernel
theorem dc_Mo_threesOf_6 : decode M_Mo_threesOf.2.1 6 = .ok (.getfield 245, 3) := by decide +kernel
theorem dc_Mo_threesOf_9 : decode M_Mo_threesOf.2.1 9 = .ok (.if_icmp .ge 47, 3) := by decide +kernel
theorem dc_Mo_threesOf_12 : decode M_Mo_threesOf.2.1 12 = .ok (.iload_n 2, 1) := by decide +kernel
theorem dc_Mo_threesOf_13 : decode M_Mo_threesOf.2.1 13 = .ok (.aload_n 0, 1) := by decide +kernel
theorem dc_Mo_threesOf_14 : decode M_Mo_threesOf.2.1 14 = .ok (.getfield 38, 3) := by decide +kernel
theorem dc_Mo_threesOf_17 : decode M_Mo_threesOf.2.1 17 = .ok (.iload_n 3, 1) := by decide +kernel
theorem dc_Mo_threesOf_18 : decode M_Mo_threesOf.2.1 18 = .ok (.iaload, 1) := by decide +kernel
theorem dc_Mo_threesOf_19 : decode M_Mo_threesOf.2.1 19 = .ok (.iload_n 1, 1) := by decide +kernel
theorem dc_Mo_threesOf_20 : decode M_Mo_threesOf.2.1 20 = .ok (.invokestatic 266, 3) := by decide +kernel
theorem dc_Mo_threesOf_23 : decode M_Mo_threesOf.2.1 23 = .ok (.ifCond .eq 24, 3) := by decide +kernel
theorem dc_Mo_threesOf_26 : decode M_Mo_threesOf.2.1 26 = .ok (.aload_n 0, 1) := by decide +kernel
theorem dc_Mo_threesOf_27 : decode M_Mo_threesOf.2.1 27 = .ok (.iload_n 3, 1) := by decide +kernel
theorem dc_Mo_threesOf_28 : decode M_Mo_threesOf.2.1 28 = .ok (.aload_n 0, 1) := by decide +kernel
theorem dc_Mo_threesOf_29 : decode M_Mo_threesOf.2.1 29 = .ok (.getfield 77, 3) := by decide +kernel
theorem dc_Mo_threesOf_32 : decode M_Mo_threesOf.2.1 32 = .ok (.aload_n 0, 1) := by decide +kernel
theorem dc_Mo_threesOf_33 : decode M_Mo_threesOf.2.1 33 = .ok (.getfield 26, 3) := by decide +kernel
theorem dc_Mo_threesOf_36 : decode M_Mo_threesOf.2.1 36 = .ok (.invokevirtual 252, 3) := by decide +kernel
theorem dc_Mo_threesOf_39 : decode M_Mo_threesOf.2.1 39 = .ok (.iconst (-1), 1) := by decide +kernel
theorem dc_Mo_threesOf_40 : decode M_Mo_threesOf.2.1 40 = .ok (.if_icmp .eq 7, 3) := by decide +kernel
theorem dc_Mo_threesOf_43 : decode M_Mo_threesOf.2.1 43 = .ok (.iconst 1, 1) := by decide +kernel
theorem dc_Mo_threesOf_44 : decode M_Mo_threesOf.2.1 44 = .ok (.goto 4, 3) := by decide +kernel
theorem dc_Mo_threesOf_47 : decode M_Mo_threesOf.2.1 47 = .ok (.iconst 0, 1) := by decide +kernel
theorem dc_Mo_threesOf_48 : decode M_Mo_threesOf.2.1 48 = .ok (.iadd, 1) := by decide +kernel
theorem dc_Mo_threesOf_49 : decode M_Mo_threesOf.2.1 49 = .ok (.istore_n 2, 1) := by decide +kernel
theorem dc_Mo_threesOf_50 : decode M_Mo_threesOf.2.1 50 = .ok (.iinc 3 1, 3) := by decide +kernel
theorem dc_Mo_threesOf_53 : decode M_Mo_threesOf.2.1 53 = .ok (.goto (-49), 3) := by decide +kernel
theorem dc_Mo_threesOf_56 : decode M_Mo_threesOf.2.1 56 = .ok (.iload_n 2, 1) := by decide +kernel
theorem dc_Mo_threesOf_57 : decode M_Mo_threesOf.2.1 57 = .ok (.ireturn, 1) := by decide +kernel
def f_Mo_threesOf_L4 (a0 : Nat) (a1 : Int32) : Nat → Int32 → Int32 → xH → (Int32 → Int32 → xH → Option (Int32 × xH)) → Option (Int32 × xH)
  | 0, _, _, _, _ => none
  | n + 1, a2, a3, h, K => gd (hK h a0 = 11) (if (hI h a0 32) ≤ a3 then K a2 a3 h else gd (hK h (hR h a0 29) = 12) (gd (¬ (a3 < 0 ∨ hL h (hR h a0 29) ≤ a3.toNatClampNeg)) (Option.bind (f_Mo_isIn (hI h (hR h a0 29) a3.toNatClampNeg) a1 h) (fun q11 => jn (fun (x12 : Int32 × xH) => f_Mo_threesOf_L4 a0 a1 n (a2 + x12.1) (a3 + (1 : Int32)) x12.2 K) (fun k13 => jn (fun (x14 : xH) => k13 ((0 : Int32), x14)) (fun k15 => if q11.1 = 0 then k15 q11.2 else gd (hK q11.2 a0 = 11) (Option.bind (f_Mo_sortOf a0 a3 (hI q11.2 a0 8) (hI q11.2 a0 9) q11.2) (fun q18 => if q18.1 = (-1 : Int32) then k15 q18.2 else k13 ((1 : Int32), q18.2)))))))))
def f_Mo_threesOf (a0 : Nat) (a1 : Int32) (h : xH) : Option (Int32 × xH) := f_Mo_threesOf_L4 a0 a1 fu (0 : Int32) (0 : Int32) h (fun v20 v21 h22 => some (v20, h22))
theorem t_Mo_threesOf_L4 {l : Launch} {z : xZ} {d mc ms : Nat} {Ph : Option xV → xH → Prop} {a0 : Nat} {a1 : Int32}  (hd : 2 ≤ d) : ∀ (n : Nat) (a2 : Int32) (a3 : Int32) (h : xH) (K : Int32 → Int32 → xH → Option (Int32 × xH)), OK (f_Mo_threesOf_L4 a0 a1 n a2 a3 h K) (fun q => Ph (some (xI q.1)) q.2) → (∀ (a2 : Int32) (a3 : Int32) (h : xH), OK (K a2 a3 h) (fun q => Ph (some (xI q.1)) q.2) → Sx l z d mc ms M_Mo_threesOf 56 [some (xR a0), some (xI a1), some (xI a2), some (xI a3)] [] h Ph) → Sx l z d mc ms M_Mo_threesOf 4 [some (xR a0), some (xI a1), some (xI a2), some (xI a3)] [] h Ph := by
  intro n
  induction n with
  | zero => intro a2 a3 h K hk hE; exact hk.no
  | succ n ih =>
    intro a2 a3 h K hk hE
    rw [f_Mo_threesOf_L4] at hk
    refine sx_iload_n dc_Mo_threesOf_4 rfl ?_
    refine sx_aload_n dc_Mo_threesOf_5 rfl ?_
    obtain ⟨g7, hk⟩ := hk.g
    refine sx_get (ci := 11) (k := 32) rfl (by decide) wF_Mo_245 g7 dc_Mo_threesOf_6 ?_
    refine sx_icmp_ge (tgt := 56) dc_Mo_threesOf_9 (by decide) (fun c8 => ?_) (fun c8 => ?_)
    · replace hk := hk.t c8
      exact hE a2 a3 h hk
    · replace hk := hk.f c8
      refine sx_iload_n dc_Mo_threesOf_12 rfl ?_
      refine sx_aload_n dc_Mo_threesOf_13 rfl ?_
      refine sx_get (ci := 11) (k := 29) rfl (by decide) wF_Mo_38 g7 dc_Mo_threesOf_14 ?_
      refine sx_iload_n dc_Mo_threesOf_17 rfl ?_
      obtain ⟨g9, hk⟩ := hk.g
      obtain ⟨g10, hk⟩ := hk.g
      refine sx_iald g9 g10 dc_Mo_threesOf_18 ?_
      refine sx_iload_n dc_Mo_threesOf_19 rfl ?_
      obtain ⟨q11, eq11, hk⟩ := hk.bind
      refine sx_callS (d2 := d - 1) (mc2 := 0) (ms2 := 0) (as := [xI (hI h (hR h a0 29) a3.toNatClampNeg), xI a1]) mk_Mo_isIn rfl wM_Mo_266 mt_Mo_isIn rfl (Nat.le_of_ble_eq_true rfl) (Nat.le_of_ble_eq_true rfl) dc_Mo_threesOf_20 (by omega) (Nat.zero_le _) (Nat.zero_le _) ?_
      refine t_Mo_isIn (by omega) ⟨q11, eq11, ?_⟩
      refine sx_eq0 (lc2 := [some (xR a0), some (xI a1), some (xI a2), some (xI a3)]) (st2 := [xI q11.1, xI a2]) rfl rfl ?_
      refine hk.j (X := fun x12 => Sx l z d mc ms M_Mo_threesOf 48 [some (xR a0), some (xI a1), some (xI a2), some (xI a3)] [xI x12.1, xI a2] x12.2 Ph) (fun x12 hk => ?_) (fun k13 jk13 hk => ?_)
      · refine sx_iadd dc_Mo_threesOf_48 ?_
        refine sx_istore_n dc_Mo_threesOf_49 (by decide) (sx_eq (lc2 := [some (xR a0), some (xI a1), some (xI (a2 + x12.1)), some (xI a3)]) rfl rfl ?_)
        refine sx_iinc (v := (1 : Int32)) dc_Mo_threesOf_50 rfl (by decide) (by decide) (sx_eq (lc2 := [some (xR a0), some (xI a1), some (xI (a2 + x12.1)), some (xI (a3 + (1 : Int32)))]) rfl rfl ?_)
        refine sx_goto (tgt := 4) dc_Mo_threesOf_53 (by decide) ?_
        exact ih (a2 + x12.1) (a3 + (1 : Int32)) x12.2 _ hk hE
      · refine hk.j (X := fun x14 => Sx l z d mc ms M_Mo_threesOf 47 [some (xR a0), some (xI a1), some (xI a2), some (xI a3)] [xI a2] x14 Ph) (fun x14 hk => ?_) (fun k15 jk15 hk => ?_)
        · refine sx_iconst (v := (0 : Int32)) dc_Mo_threesOf_47 (by decide) ?_
          exact jk13 ((0 : Int32), x14) hk
        · refine sx_if_eq (tgt := 47) dc_Mo_threesOf_23 (by decide) (fun c16 => ?_) (fun c16 => ?_)
          · replace hk := hk.t c16
            exact jk15 q11.2 hk
          · replace hk := hk.f c16
            refine sx_aload_n dc_Mo_threesOf_26 rfl ?_
            refine sx_iload_n dc_Mo_threesOf_27 rfl ?_
            refine sx_aload_n dc_Mo_threesOf_28 rfl ?_
            obtain ⟨g17, hk⟩ := hk.g
            refine sx_get (ci := 11) (k := 8) rfl (by decide) wF_Mo_77 g17 dc_Mo_threesOf_29 ?_
            refine sx_aload_n dc_Mo_threesOf_32 rfl ?_
            refine sx_get (ci := 11) (k := 9) rfl (by decide) wF_Mo_26 g17 dc_Mo_threesOf_33 ?_
            obtain ⟨q18, eq18, hk⟩ := hk.bind
            refine sx_callV (d2 := d - 1) (mc2 := 0) (ms2 := 0) (as := [xI a3, xI (hI q11.2 a0 8), xI (hI q11.2 a0 9)]) mk_Mo_sortOf rfl (x_rk (ci := 11) g17 rfl rfl) wM_Mo_252 mi_Mo_sortOf me_Mo_sortOf rfl (Nat.le_of_ble_eq_true rfl) (Nat.le_of_ble_eq_true rfl) dc_Mo_threesOf_36 (by omega) (Nat.zero_le _) (Nat.zero_le _) ?_
            refine t_Mo_sortOf (by omega) ⟨q18, eq18, ?_⟩
            refine sx_eq0 (lc2 := [some (xR a0), some (xI a1), some (xI a2), some (xI a3)]) (st2 := [xI q18.1, xI a2]) rfl rfl ?_
            refine sx_iconst (v := (-1 : Int32)) dc_Mo_threesOf_39 (by decide) ?_
            refine sx_icmp_eq (tgt := 47) dc_Mo_threesOf_40 (by decide) (fun c19 => ?_) (fun c19 => ?_)
            · replace hk := hk.t c19
              exact jk15 q18.2 hk
            · replace hk := hk.f c19
              refine sx_iconst (v := (1 : Int32)) dc_Mo_threesOf_43 (by decide) ?_
              refine sx_goto (tgt := 48) dc_Mo_threesOf_44 (by decide) ?_
              exact jk13 ((1 : Int32), q18.2) hk
theorem t_Mo_threesOf {l : Launch} {z : xZ} {d mc ms : Nat} {Ph : Option xV → xH → Prop} {a0 : Nat} {a1 : Int32}  {h : xH} (hd : 2 ≤ d) (hk : OK (f_Mo_threesOf a0 a1 h) (fun q => Ph (some (xI q.1)) q.2)) : Sx l z d mc ms M_Mo_threesOf 0 (x_en [xR a0, xI a1] 4) [] h Ph := by
  unfold f_Mo_threesOf at hk
  refine sx_eq (lc2 := [some (xR a0), some (xI a1), none, none]) rfl rfl ?_
  refine sx_iconst (v := (0 : Int32)) dc_Mo_threesOf_0 (by decide) ?_
  refine sx_istore_n dc_Mo_threesOf_1 (by decide) (sx_eq (lc2 := [some (xR a0), some (xI a1), some (xI (0 : Int32)), none]) rfl rfl ?_)
  refine sx_iconst (v := (0 : Int32)) dc_Mo_threesOf_2 (by decide) ?_
  refine sx_istore_n dc_Mo_threesOf_3 (by decide) (sx_eq (lc2 := [some (xR a0), some (xI a1), some (xI (0 : Int32)), some (xI (0 : Int32))]) rfl rfl ?_)
  refine t_Mo_threesOf_L4 (by omega) _ _ _ _ _ hk (fun v20 v21 h22 hk => ?_)
  refine sx_iload_n dc_Mo_threesOf_56 rfl ?_
  exact sx_retI dc_Mo_threesOf_57 rfl hk.val
theorem dc_Mo_joy_0 : decode M_Mo_joy.2.1 0 = .ok (.aload_n 0, 1) := by decide +kernel
theorem dc_Mo_joy_1 : decode M_Mo_joy.2.1 1 = .ok (.iconst 2, 1) := by decide +kernel
theorem dc_Mo_joy_2 : decode M_Mo_joy.2.1 2 = .ok (.iload_n 1, 1) := by decide +kernel
theorem dc_Mo_joy_3 : decode M_Mo_joy.2.1 3 = .ok (.iconst 0, 1) := by decide +kernel
theorem dc_Mo_joy_4 : decode M_Mo_joy.2.1 4 = .ok (.iconst 0, 1) := by decide +kernel
theorem dc_Mo_joy_5 : decode M_Mo_joy.2.1 5 = .ok (.aload_n 0, 1) := by decide +kernel
theorem dc_Mo_joy_6 : decode M_Mo_joy.2.1 6 = .ok (.iload_n 1, 1) := by decide +kernel
theorem dc_Mo_joy_7 : decode M_Mo_joy.2.1 7 = .ok (.invokevirtual 260, 3) := by decide +kernel
theorem dc_Mo_joy_10 : decode M_Mo_joy.2.1 10 = .ok (.iconst 0, 1) := by decide +kernel
theorem dc_Mo_joy_11 : decode M_Mo_joy.2.1 11 = .ok (.invokevirtual 248, 3) := by decide +kernel
theorem dc_Mo_joy_14 : decode M_Mo_joy.2.1 14 = .ok (.iconst 0, 1) := by decide +kernel
theorem dc_Mo_joy_15 : decode M_Mo_joy.2.1 15 = .ok (.bipush 99, 2) := by decide +kernel
theorem dc_Mo_joy_17 : decode M_Mo_joy.2.1 17 = .ok (.invokestatic 269, 3) := by decide +kernel
theorem dc_Mo_joy_20 : decode M_Mo_joy.2.1 20 = .ok (.ireturn, 1) := by decide +kernel
def f_Mo_joy (a0 : Nat) (a1 : Int32) (h : xH) : Option (Int32 × xH) := gd (hK h a0 = 11) (Option.bind (f_Mo_degree a0 a1 h) (fun q6 => gd (hK q6.2 a0 = 11) (Option.bind (f_Mo_says a0 (2 : Int32) a1 (0 : Int32) (0 : Int32) q6.1 (0 : Int32) q6.2) (fun q8 => Option.bind (f_Mo_within q8.1 (0 : Int32) (99 : Int32) q8.2) (fun q10 => some (q10.1, q10.2))))))
theorem t_Mo_joy {l : Launch} {z : xZ} {d mc ms : Nat} {Ph : Option xV → xH → Prop} {a0 : Nat} {a1 : Int32}  {h : xH} (hd : 153 ≤ d) (hk : OK (f_Mo_joy a0 a1 h) (fun q => Ph (some (xI q.1)) q.2)) : Sx l z d mc ms M_Mo_joy 0 (x_en [xR a0, xI a1] 2) [] h Ph := by
  unfold f_Mo_joy at hk
  refine sx_eq (lc2 := [some (xR a0), some (xI a1)]) rfl rfl ?_
  refine sx_aload_n dc_Mo_joy_0 rfl ?_
  refine sx_iconst (v := (2 : Int32)) dc_Mo_joy_1 (by decide) ?_
  refine sx_iload_n dc_Mo_joy_2 rfl ?_
  refine sx_iconst (v := (0 : Int32)) dc_Mo_joy_3 (by decide) ?_
  refine sx_iconst (v := (0 : Int32)) dc_Mo_joy_4 (by decide) ?_
  refine sx_aload_n dc_Mo_joy_5 rfl ?_
  refine sx_iload_n dc_Mo_joy_6 rfl ?_
  obtain ⟨g7, hk⟩ := hk.g
  obtain ⟨q6, eq6, hk⟩ := hk.bind
  refine sx_callV (d2 := d - 1) (mc2 := 0) (ms2 := 0) (as := [xI a1]) mk_Mo_degree rfl (x_rk (ci := 11) g7 rfl rfl) wM_Mo_260 mi_Mo_degree me_Mo_degree rfl (Nat.le_of_ble_eq_true rfl) (Nat.le_of_ble_eq_true rfl) dc_Mo_joy_7 (by omega) (Nat.zero_le _) (Nat.zero_le _) ?_
  refine t_Mo_degree (by omega) ⟨q6, eq6, ?_⟩
  refine sx_eq0 (lc2 := [some (xR a0), some (xI a1)]) (st2 := [xI q6.1, xI (0 : Int32), xI (0 : Int32), xI a1, xI (2 : Int32), xR a0]) rfl rfl ?_
  refine sx_iconst (v := (0 : Int32)) dc_Mo_joy_10 (by decide) ?_
  obtain ⟨g9, hk⟩ := hk.g
  obtain ⟨q8, eq8, hk⟩ := hk.bind
  refine sx_callV (d2 := d - 1) (mc2 := 0) (ms2 := 0) (as := [xI (2 : Int32), xI a1, xI (0 : Int32), xI (0 : Int32), xI q6.1, xI (0 : Int32)]) mk_Mo_says rfl (x_rk (ci := 11) g9 rfl rfl) wM_Mo_248 mi_Mo_says me_Mo_says rfl (Nat.le_of_ble_eq_true rfl) (Nat.le_of_ble_eq_true rfl) dc_Mo_joy_11 (by omega) (Nat.zero_le _) (Nat.zero_le _) ?_
  refine t_Mo_says (by omega) ⟨q8, eq8, ?_⟩
  refine sx_eq0 (lc2 := [some (xR a0), some (xI a1)]) (st2 := [xI q8.1]) rfl rfl ?_
  refine sx_iconst (v := (0 : Int32)) dc_Mo_joy_14 (by decide) ?_
  refine sx_bipush (v := (99 : Int32)) dc_Mo_joy_15 (by decide) ?_
  obtain ⟨q10, eq10, hk⟩ := hk.bind
  refine sx_callS (d2 := d - 1) (mc2 := 0) (ms2 := 0) (as := [xI q8.1, xI (0 : Int32), xI (99 : Int32)]) mk_Mo_within rfl wM_Mo_269 mt_Mo_within rfl (Nat.le_of_ble_eq_true rfl) (Nat.le_of_ble_eq_true rfl) dc_Mo_joy_17 (by omega) (Nat.zero_le _) (Nat.zero_le _) ?_
  refine t_Mo_within (by omega) ⟨q10, eq10, ?_⟩
  refine sx_eq0 (lc2 := [some (xR a0), some (xI a1)]) (st2 := [xI q10.1]) rfl rfl ?_
  exact sx_retI dc_Mo_joy_20 rfl hk.val
theorem dc_Mo_guest_0 : decode M_Mo_guest.2.1 0 = .ok (.aload_n 0, 1) := by decide +kernel
theorem dc_Mo_guest_1 : decode M_Mo_guest.2.1 1 = .ok (.iload_n 1, 1) := by decide +kernel
theorem dc_Mo_guest_2 : decode M_Mo_guest.2.1 2 = .ok (.invokevirtual 84, 3) := by decide +kernel
theorem dc_Mo_guest_5 : decode M_Mo_guest.2.1 5 = .ok (.ifCond .eq 15, 3) := by decide +kernel
theorem dc_Mo_guest_8 : decode M_Mo_guest.2.1 8 = .ok (.iload_n 2, 1) := by decide +kernel
theorem dc_Mo_guest_9 : decode M_Mo_guest.2.1 9 = .ok (.i2l, 1) := by decide +kernel
theorem dc_Mo_guest_10 : decode M_Mo_guest.2.1 10 = .ok (.lconst 0, 1) := by decide +kernel
theorem dc_Mo_guest_11 : decode M_Mo_guest.2.1 11 = .ok (.ldc2_w 98, 3) := by decide +kernel
theorem dc_Mo_guest_14 : decode M_Mo_guest.2.1 14 = .ok (.invokestatic 73, 3) := by decide +kernel
theorem dc_Mo_guest_17 : decode M_Mo_guest.2.1 17 = .ok (.ifCond .ne 6, 3) := by decide +kernel
theorem dc_Mo_guest_20 : decode M_Mo_guest.2.1 20 = .ok (.bipush (-2), 2) := by decide +kernel
theorem dc_Mo_guest_22 : decode M_Mo_guest.2.1 22 = .ok (.ireturn, 1) := by decide +kernel
theorem dc_Mo_guest_23 : decode M_Mo_guest.2.1 23 = .ok (.iload_n 2, 1) := by decide +kernel
theorem dc_Mo_guest_24 : decode M_Mo_guest.2.1 24 = .ok (.ifCond .ne 9, 3) := by decide +kernel
theorem dc_Mo_guest_27 : decode M_Mo_guest.2.1 27 = .ok (.aload_n 0, 1) := by decide +kernel
theorem dc_Mo_guest_28 : decode M_Mo_guest.2.1 28 = .ok (.iload_n 1, 1) := by decide +kernel
theorem dc_Mo_guest_29 : decode M_Mo_guest.2.1 29 = .ok (.invokevirtual 260, 3) := by decide +kernel
theorem dc_Mo_guest_32 : decode M_Mo_guest.2.1 32 = .ok (.ireturn, 1) := by decide +kernel
theorem dc_Mo_guest_33 : decode M_Mo_guest.2.1 33 = .ok (.iload_n 2, 1) := by decide +kernel
theorem dc_Mo_guest_34 : decode M_Mo_guest.2.1 34 = .ok (.iconst 2, 1) := by decide +kernel
theorem dc_Mo_guest_35 : decode M_Mo_guest.2.1 35 = .ok (.if_icmp .ne 9, 3) := by decide +kernel
theorem dc_Mo_guest_38 : decode M_Mo_guest.2.1 38 = .ok (.aload_n 0, 1) := by decide +kernel
theorem dc_Mo_guest_39 : decode M_Mo_guest.2.1 39 = .ok (.iload_n 1, 1) := by decide +kernel
theorem dc_Mo_guest_40 : decode M_Mo_guest.2.1 40 = .ok (.invokevirtual 272, 3) := by decide +kernel
theorem dc_Mo_guest_43 : decode M_Mo_guest.2.1 43 = .ok (.ireturn, 1) := by decide +kernel
theorem dc_Mo_guest_44 : decode M_Mo_guest.2.1 44 = .ok (.aload_n 0, 1) := by decide +kernel
theorem dc_Mo_guest_45 : decode M_Mo_guest.2.1 45 = .ok (.invokevirtual 263, 3) := by decide +kernel
theorem dc_Mo_guest_48 : decode M_Mo_guest.2.1 48 = .ok (.aload_n 0, 1) := by decide +kernel
theorem dc_Mo_guest_49 : decode M_Mo_guest.2.1 49 = .ok (.iload_n 1, 1) := by decide +kernel
theorem dc_Mo_guest_50 : decode M_Mo_guest.2.1 50 = .ok (.invokevirtual 275, 3) := by decide +kernel
theorem dc_Mo_guest_53 : decode M_Mo_guest.2.1 53 = .ok (.ireturn, 1) := by decide +kernel
def f_Mo_guest (a0 : Nat) (a1 : Int32) (a2 : Int32) (h : xH) : Option (Int32 × xH) := gd (hK h a0 = 11) (Option.bind (f_Mo_isGuest a0 a1 h) (fun q12 => jn (fun (x14 : xH) => some ((-2 : Int32), x14)) (fun k15 => if q12.1 = 0 then k15 q12.2 else Option.bind (f_Mo_in a2.toInt64 (0 : Int64) (2 : Int64) q12.2) (fun q17 => if q17.1 = 0 then k15 q17.2 else if a2 = 0 then gd (hK q17.2 a0 = 11) (Option.bind (f_Mo_degree a0 a1 q17.2) (fun q27 => some (q27.1, q27.2))) else if a2 = (2 : Int32) then gd (hK q17.2 a0 = 11) (Option.bind (f_Mo_joy a0 a1 q17.2) (fun q25 => some (q25.1, q25.2))) else gd (hK q17.2 a0 = 11) (Option.bind (f_Mo_gathers a0 q17.2) (fun q21 => gd (hK q21.2 a0 = 11) (Option.bind (f_Mo_threesOf a0 a1 q21.2) (fun q23 => some (q23.1, q23.2)))))))))
theorem t_Mo_guest {l : Launch} {z : xZ} {d mc ms : Nat} {Ph : Option xV → xH → Prop} {a0 : Nat} {a1 : Int32} {a2 : Int32}  {h : xH} (hd : 154 ≤ d) (hk : OK (f_Mo_guest a0 a1 a2 h) (fun q => Ph (some (xI q.1)) q.2)) : Sx l z d mc ms M_Mo_guest 0 (x_en [xR a0, xI a1, xI a2] 3) [] h Ph := by
  unfold f_Mo_guest at hk
  refine sx_eq (lc2 := [some (xR a0), some (xI a1), some (xI a2)]) rfl rfl ?_
  refine sx_aload_n dc_Mo_guest_0 rfl ?_
  refine sx_iload_n dc_Mo_guest_1 rfl ?_
  obtain ⟨g13, hk⟩ := hk.g
  obtain ⟨q12, eq12, hk⟩ := hk.bind
  refine sx_callV (d2 := d - 1) (mc2 := 0) (ms2 := 0) (as := [xI a1]) mk_Mo_isGuest rfl (x_rk (ci := 11) g13 rfl rfl) wM_Mo_84 mi_Mo_isGuest me_Mo_isGuest rfl (Nat.le_of_ble_eq_true rfl) (Nat.le_of_ble_eq_true rfl) dc_Mo_guest_2 (by omega) (Nat.zero_le _) (Nat.zero_le _) ?_
  refine t_Mo_isGuest (by omega) ⟨q12, eq12, ?_⟩
  refine sx_eq0 (lc2 := [some (xR a0), some (xI a1), some (xI a2)]) (st2 := [xI q12.1]) rfl rfl ?_
  refine hk.j (X := fun x14 => Sx l z d mc ms M_Mo_guest 20 [some (xR a0), some (xI a1), some (xI a2)] [] x14 Ph) (fun x14 hk => ?_) (fun k15 jk15 hk => ?_)
  · refine sx_bipush (v := (-2 : Int32)) dc_Mo_guest_20 (by decide) ?_
    exact sx_retI dc_Mo_guest_22 rfl hk.val
  · refine sx_if_eq (tgt := 20) dc_Mo_guest_5 (by decide) (fun c16 => ?_) (fun c16 => ?_)
    · replace hk := hk.t c16
      exact jk15 q12.2 hk
    · replace hk := hk.f c16
      refine sx_iload_n dc_Mo_guest_8 rfl ?_
      refine sx_i2l dc_Mo_guest_9 ?_
      refine sx_lconst (v := 0) dc_Mo_guest_10 (by decide) ?_
      refine sx_ldc2 (v := 2) wJ_Mo_98 dc_Mo_guest_11 ?_
      obtain ⟨q17, eq17, hk⟩ := hk.bind
      refine sx_callS (d2 := d - 1) (mc2 := 0) (ms2 := 0) (as := [xJ a2.toInt64, xJ (0 : Int64), xJ (2 : Int64)]) mk_Mo_in rfl wM_Mo_73 mt_Mo_in rfl (Nat.le_of_ble_eq_true rfl) (Nat.le_of_ble_eq_true rfl) dc_Mo_guest_14 (by omega) (Nat.zero_le _) (Nat.zero_le _) ?_
      refine t_Mo_in (by omega) ⟨q17, eq17, ?_⟩
      refine sx_eq0 (lc2 := [some (xR a0), some (xI a1), some (xI a2)]) (st2 := [xI q17.1]) rfl rfl ?_
      refine sx_if_ne (tgt := 23) dc_Mo_guest_17 (by decide) (fun c18 => ?_) (fun c18 => ?_)
      · replace hk := hk.f c18
        refine sx_iload_n dc_Mo_guest_23 rfl ?_
        refine sx_if_ne (tgt := 33) dc_Mo_guest_24 (by decide) (fun c19 => ?_) (fun c19 => ?_)
        · replace hk := hk.f c19
          refine sx_iload_n dc_Mo_guest_33 rfl ?_
          refine sx_iconst (v := (2 : Int32)) dc_Mo_guest_34 (by decide) ?_
          refine sx_icmp_ne (tgt := 44) dc_Mo_guest_35 (by decide) (fun c20 => ?_) (fun c20 => ?_)
          · replace hk := hk.f c20
            refine sx_aload_n dc_Mo_guest_44 rfl ?_
            obtain ⟨g22, hk⟩ := hk.g
            obtain ⟨q21, eq21, hk⟩ := hk.bind
            refine sx_callV (d2 := d - 1) (mc2 := 0) (ms2 := 0) (as := []) mk_Mo_gathers rfl (x_rk (ci := 11) g22 rfl rfl) wM_Mo_263 mi_Mo_gathers me_Mo_gathers rfl (Nat.le_of_ble_eq_true rfl) (Nat.le_of_ble_eq_true rfl) dc_Mo_guest_45 (by omega) (Nat.zero_le _) (Nat.zero_le _) ?_
            refine t_Mo_gathers (by omega) ⟨q21, eq21, ?_⟩
            refine sx_eq0 (lc2 := [some (xR a0), some (xI a1), some (xI a2)]) (st2 := []) rfl rfl ?_
            refine sx_aload_n dc_Mo_guest_48 rfl ?_
            refine sx_iload_n dc_Mo_guest_49 rfl ?_
            obtain ⟨g24, hk⟩ := hk.g
            obtain ⟨q23, eq23, hk⟩ := hk.bind
            refine sx_callV (d2 := d - 1) (mc2 := 0) (ms2 := 0) (as := [xI a1]) mk_Mo_threesOf rfl (x_rk (ci := 11) g24 rfl rfl) wM_Mo_275 mi_Mo_threesOf me_Mo_threesOf rfl (Nat.le_of_ble_eq_true rfl) (Nat.le_of_ble_eq_true rfl) dc_Mo_guest_50 (by omega) (Nat.zero_le _) (Nat.zero_le _) ?_
            refine t_Mo_threesOf (by omega) ⟨q23, eq23, ?_⟩
            refine sx_eq0 (lc2 := [some (xR a0), some (xI a1), some (xI a2)]) (st2 := [xI q23.1]) rfl rfl ?_
            exact sx_retI dc_Mo_guest_53 rfl hk.val
          · replace hk := hk.t c20
            refine sx_aload_n dc_Mo_guest_38 rfl ?_
            refine sx_iload_n dc_Mo_guest_39 rfl ?_
            obtain ⟨g26, hk⟩ := hk.g
            obtain ⟨q25, eq25, hk⟩ := hk.bind
            refine sx_callV (d2 := d - 1) (mc2 := 0) (ms2 := 0) (as := [xI a1]) mk_Mo_joy rfl (x_rk (ci := 11) g26 rfl rfl) wM_Mo_272 mi_Mo_joy me_Mo_joy rfl (Nat.le_of_ble_eq_true rfl) (Nat.le_of_ble_eq_true rfl) dc_Mo_guest_40 (by omega) (Nat.zero_le _) (Nat.zero_le _) ?_
            refine t_Mo_joy (by omega) ⟨q25, eq25, ?_⟩
            refine sx_eq0 (lc2 := [some (xR a0), some (xI a1), some (xI a2)]) (st2 := [xI q25.1]) rfl rfl ?_
            exact sx_retI dc_Mo_guest_43 rfl hk.val
        · replace hk := hk.t c19
          refine sx_aload_n dc_Mo_guest_27 rfl ?_
          refine sx_iload_n dc_Mo_guest_28 rfl ?_
          obtain ⟨g28, hk⟩ := hk.g
          obtain ⟨q27, eq27, hk⟩ := hk.bind
          refine sx_callV (d2 := d - 1) (mc2 := 0) (ms2 := 0) (as := [xI a1]) mk_Mo_degree rfl (x_rk (ci := 11) g28 rfl rfl) wM_Mo_260 mi_Mo_degree me_Mo_degree rfl (Nat.le_of_ble_eq_true rfl) (Nat.le_of_ble_eq_true rfl) dc_Mo_guest_29 (by omega) (Nat.zero_le _) (Nat.zero_le _) ?_
          refine t_Mo_degree (by omega) ⟨q27, eq27, ?_⟩
          refine sx_eq0 (lc2 := [some (xR a0), some (xI a1), some (xI a2)]) (st2 := [xI q27.1]) rfl rfl ?_
          exact sx_retI dc_Mo_guest_32 rfl hk.val
      · replace hk := hk.t c18
        exact jk15 q17.2 hk
theorem dc_Mo_most_0 : decode M_Mo_most.2.1 0 = .ok (.aload_n 0, 1) := by decide +kernel
theorem dc_Mo_most_1 : decode M_Mo_most.2.1 1 = .ok (.invokevirtual 263, 3) := by decide +kernel
theorem dc_Mo_most_4 : decode M_Mo_most.2.1 4 = .ok (.iconst (-1), 1) := by decide +kernel
theorem dc_Mo_most_5 : decode M_Mo_most.2.1 5 = .ok (.istore_n 1, 1) := by decide +kernel
theorem dc_Mo_most_6 : decode M_Mo_most.2.1 6 = .ok (.iconst 0, 1) := by decide +kernel
theorem dc_Mo_most_7 : decode M_Mo_most.2.1 7 = .ok (.istore_n 2, 1) := by decide +kernel
theorem dc_Mo_most_8 : decode M_Mo_most.2.1 8 = .ok (.iconst 0, 1) := by decide +kernel
theorem dc_Mo_most_9 : decode M_Mo_most.2.1 9 = .ok (.istore_n 3, 1) := by decide +kernel
theorem dc_Mo_most_10 : decode M_Mo_most.2.1 10 = .ok (.iload_n 3, 1) := by decide +kernel
theorem dc_Mo_most_11 : decode M_Mo_most.2.1 11 = .ok (.aload_n 0, 1) := by decide +kernel
theorem dc_Mo_most_12 : decode M_Mo_most.2.1 12 = .ok (.getfield 23, 3) := by decide +kernel
theorem dc_Mo_most_15 : decode M_Mo_most.2.1 15 = .ok (.if_icmp .ge 27, 3) := by decide +kernel
theorem dc_Mo_most_18 : decode M_Mo_most.2.1 18 = .ok (.aload_n 0, 1) := by decide +kernel
theorem dc_Mo_most_19 : decode M_Mo_most.2.1 19 = .ok (.iload_n 3, 1) := by decide +kernel
theorem dc_Mo_most_20 : decode M_Mo_most.2.1 20 = .ok (.invokevirtual 275, 3) := by decide +kernel
theorem dc_Mo_most_23 : decode M_Mo_most.2.1 23 = .ok (.istore 4, 2) := by decide +kernel
theorem dc_Mo_most_25 : decode M_Mo_most.2.1 25 = .ok (.iload 4, 2) := by decide +kernel
theorem dc_Mo_most_27 : decode M_Mo_most.2.1 27 = .ok (.iload_n 2, 1) := by decide +kernel
theorem dc_Mo_most_28 : decode M_Mo_most.2.1 28 = .ok (.if_icmp .le 8, 3) := by decide +kernel
theorem dc_Mo_most_31 : decode M_Mo_most.2.1 31 = .ok (.iload_n 3, 1) := by decide +kernel
theorem dc_Mo_most_32 : decode M_Mo_most.2.1 32 = .ok (.istore_n 1, 1) := by decide +kernel
theorem dc_Mo_most_33 : decode M_Mo_most.2.1 33 = .ok (.iload 4, 2) := by decide +kernel
theorem dc_Mo_most_35 : decode M_Mo_most.2.1 35 = .ok (.istore_n 2, 1) := by decide +kernel
theorem dc_Mo_most_36 : decode M_Mo_most.2.1 36 = .ok (.iinc 3 1, 3) := by decide +kernel
theorem dc_Mo_most_39 : decode M_Mo_most.2.1 39 = .ok (.goto (-29), 3) := by decide +kernel
theorem dc_Mo_most_42 : decode M_Mo_most.2.1 42 = .ok (.iload_n 1, 1) := by decide +kernel
theorem dc_Mo_most_43 : decode M_Mo_most.2.1 43 = .ok (.ireturn, 1) := by decide +kernel
def f_Mo_most_L10 (a0 : Nat) : Nat → Int32 → Int32 → Int32 → xH → (Int32 → Int32 → Int32 → xH → Option (Int32 × xH)) → Option (Int32 × xH)
  | 0, _, _, _, _, _ => none
  | n + 1, a1, a2, a3, h, K => gd (hK h a0 = 11) (if (hI h a0 7) ≤ a3 then K a1 a2 a3 h else Option.bind (f_Mo_threesOf a0 a3 h) (fun q9 => f_Mo_most_L10 a0 n (if q9.1 ≤ a2 then a1 else a3) (if q9.1 ≤ a2 then a2 else q9.1) (a3 + (1 : Int32)) q9.2 K))
def f_Mo_most (a0 : Nat) (h : xH) : Option (Int32 × xH) := gd (hK h a0 = 11) (Option.bind (f_Mo_gathers a0 h) (fun q5 => f_Mo_most_L10 a0 fu (-1 : Int32) (0 : Int32) (0 : Int32) q5.2 (fun v12 v13 v14 h15 => some (v12, h15))))
theorem t_Mo_most_L10 {l : Launch} {z : xZ} {d mc ms : Nat} {Ph : Option xV → xH → Prop} {a0 : Nat}  (hd : 3 ≤ d) : ∀ (n : Nat) (a1 : Int32) (a2 : Int32) (a3 : Int32) (h : xH) (K : Int32 → Int32 → Int32 → xH → Option (Int32 × xH)), OK (f_Mo_most_L10 a0 n a1 a2 a3 h K) (fun q => Ph (some (xI q.1)) q.2) → (∀ (a1 : Int32) (a2 : Int32) (a3 : Int32) (h : xH), OK (K a1 a2 a3 h) (fun q => Ph (some (xI q.1)) q.2) → Sx l z d mc ms M_Mo_most 42 [some (xR a0), some (xI a1), some (xI a2), some (xI a3), none] [] h Ph) → Sx l z d mc ms M_Mo_most 10 [some (xR a0), some (xI a1), some (xI a2), some (xI a3), none] [] h Ph := by
  intro n
  induction n with
  | zero => intro a1 a2 a3 h K hk hE; exact hk.no
  | succ n ih =>
    intro a1 a2 a3 h K hk hE
    rw [f_Mo_most_L10] at hk
    refine sx_iload_n dc_Mo_most_10 rfl ?_
    refine sx_aload_n dc_Mo_most_11 rfl ?_
    obtain ⟨g7, hk⟩ := hk.g
    refine sx_get (ci := 11) (k := 7) rfl (by decide) wF_Mo_23 g7 dc_Mo_most_12 ?_
    refine sx_icmp_ge (tgt := 42) dc_Mo_most_15 (by decide) (fun c8 => ?_) (fun c8 => ?_)
    · replace hk := hk.t c8
      exact hE a1 a2 a3 h hk
    · replace hk := hk.f c8
      refine sx_aload_n dc_Mo_most_18 rfl ?_
      refine sx_iload_n dc_Mo_most_19 rfl ?_
      obtain ⟨q9, eq9, hk⟩ := hk.bind
      refine sx_callV (d2 := d - 1) (mc2 := 0) (ms2 := 0) (as := [xI a3]) mk_Mo_threesOf rfl (x_rk (ci := 11) g7 rfl rfl) wM_Mo_275 mi_Mo_threesOf me_Mo_threesOf rfl (Nat.le_of_ble_eq_true rfl) (Nat.le_of_ble_eq_true rfl) dc_Mo_most_20 (by omega) (Nat.zero_le _) (Nat.zero_le _) ?_
      refine t_Mo_threesOf (by omega) ⟨q9, eq9, ?_⟩
      refine sx_eq0 (lc2 := [some (xR a0), some (xI a1), some (xI a2), some (xI a3), none]) (st2 := [xI q9.1]) rfl rfl ?_
      refine sx_istore dc_Mo_most_23 (by decide) (sx_eq (lc2 := [some (xR a0), some (xI a1), some (xI a2), some (xI a3), some (xI q9.1)]) rfl rfl ?_)
      refine sx_iload dc_Mo_most_25 rfl ?_
      refine sx_iload_n dc_Mo_most_27 rfl ?_
      refine sx_mg (pc2 := 36) (lc2 := [some (xR a0), some (xI (if q9.1 ≤ a2 then a1 else a3)), some (xI (if q9.1 ≤ a2 then a2 else q9.1)), some (xI a3), some (xI q9.1)]) (st2 := []) (h2 := q9.2) ?_ (fun J10 => ?_)
      · refine sx_iinc (v := (1 : Int32)) dc_Mo_most_36 rfl (by decide) (by decide) (sx_eq (lc2 := [some (xR a0), some (xI (if q9.1 ≤ a2 then a1 else a3)), some (xI (if q9.1 ≤ a2 then a2 else q9.1)), some (xI (a3 + (1 : Int32))), some (xI q9.1)]) rfl rfl ?_)
        refine sx_goto (tgt := 10) dc_Mo_most_39 (by decide) ?_
        exact sx_less (by simp [x_le]) (ih (if q9.1 ≤ a2 then a1 else a3) (if q9.1 ≤ a2 then a2 else q9.1) (a3 + (1 : Int32)) q9.2 _ hk hE)
      · refine sx_icmp_le (tgt := 36) dc_Mo_most_28 (by decide) (fun c11 => ?_) (fun c11 => ?_)
        · try simp only [if_pos c11] at J10
          exact J10
        · try simp only [if_neg c11] at J10
          refine sx_iload_n dc_Mo_most_31 rfl ?_
          refine sx_istore_n dc_Mo_most_32 (by decide) (sx_eq (lc2 := [some (xR a0), some (xI a3), some (xI a2), some (xI a3), some (xI q9.1)]) rfl rfl ?_)
          refine sx_iload dc_Mo_most_33 rfl ?_
          refine sx_istore_n dc_Mo_most_35 (by decide) (sx_eq (lc2 := [some (xR a0), some (xI a3), some (xI q9.1), some (xI a3), some (xI q9.1)]) rfl rfl ?_)
          exact J10
theorem t_Mo_most {l : Launch} {z : xZ} {d mc ms : Nat} {Ph : Option xV → xH → Prop} {a0 : Nat}  {h : xH} (hd : 154 ≤ d) (hk : OK (f_Mo_most a0 h) (fun q => Ph (some (xI q.1)) q.2)) : Sx l z d mc ms M_Mo_most 0 (x_en [xR a0] 5) [] h Ph := by
  unfold f_Mo_most at hk
  refine sx_eq (lc2 := [some (xR a0), none, none, none, none]) rfl rfl ?_
  refine sx_aload_n dc_Mo_most_0 rfl ?_
  obtain ⟨g6, hk⟩ := hk.g
  obtain ⟨q5, eq5, hk⟩ := hk.bind
  refine sx_callV (d2 := d - 1) (mc2 := 0) (ms2 := 0) (as := []) mk_Mo_gathers rfl (x_rk (ci := 11) g6 rfl rfl) wM_Mo_263 mi_Mo_gathers me_Mo_gathers rfl (Nat.le_of_ble_eq_true rfl) (Nat.le_of_ble_eq_true rfl) dc_Mo_most_1 (by omega) (Nat.zero_le _) (Nat.zero_le _) ?_
  refine t_Mo_gathers (by omega) ⟨q5, eq5, ?_⟩
  refine sx_eq0 (lc2 := [some (xR a0), none, none, none, none]) (st2 := []) rfl rfl ?_
  refine sx_iconst (v := (-1 : Int32)) dc_Mo_most_4 (by decide) ?_
  refine sx_istore_n dc_Mo_most_5 (by decide) (sx_eq (lc2 := [some (xR a0), some (xI (-1 : Int32)), none, none, none]) rfl rfl ?_)
  refine sx_iconst (v := (0 : Int32)) dc_Mo_most_6 (by decide) ?_
  refine sx_istore_n dc_Mo_most_7 (by decide) (sx_eq (lc2 := [some (xR a0), some (xI (-1 : Int32)), some (xI (0 : Int32)), none, none]) rfl rfl ?_)
  refine sx_iconst (v := (0 : Int32)) dc_Mo_most_8 (by decide) ?_
  refine sx_istore_n dc_Mo_most_9 (by decide) (sx_eq (lc2 := [some (xR a0), some (xI (-1 : Int32)), some (xI (0 : Int32)), some (xI (0 : Int32)), none]) rfl rfl ?_)
  refine t_Mo_most_L10 (by omega) _ _ _ _ _ _ hk (fun v12 v13 v14 h15 hk => ?_)
  refine sx_iload_n dc_Mo_most_42 rfl ?_
  exact sx_retI dc_Mo_most_43 rfl hk.val
theorem dc_Mo_meetsAll_0 : decode M_Mo_meetsAll.2.1 0 = .ok (.iconst 0, 1) := by decide +kernel
theorem dc_Mo_meetsAll_1 : decode M_Mo_meetsAll.2.1 1 = .ok (.istore_n 2, 1) := by decide +kernel
theorem dc_Mo_meetsAll_2 : decode M_Mo_meetsAll.2.1 2 = .ok (.iload_n 2, 1) := by decide +kernel
theorem dc_Mo_meetsAll_3 : decode M_Mo_meetsAll.2.1 3 = .ok (.aload_n 0, 1) := by decide +kernel
theorem dc_Mo_meetsAll_4 : decode M_Mo_meetsAll.2.1 4 = .ok (.getfield 245, 3) := by decide +kernel
theorem dc_Mo_meetsAll_7 : decode M_Mo_meetsAll.2.1 7 = .ok (.if_icmp .ge 86, 3) := by decide +kernel
theorem dc_Mo_meetsAll_10 : decode M_Mo_meetsAll.2.1 10 = .ok (.aload_n 0, 1) := by decide +kernel
theorem dc_Mo_meetsAll_11 : decode M_Mo_meetsAll.2.1 11 = .ok (.getfield 38, 3) := by decide +kernel
theorem dc_Mo_meetsAll_14 : decode M_Mo_meetsAll.2.1 14 = .ok (.iload_n 2, 1) := by decide +kernel
theorem dc_Mo_meetsAll_15 : decode M_Mo_meetsAll.2.1 15 = .ok (.iaload, 1) := by decide +kernel
theorem dc_Mo_meetsAll_16 : decode M_Mo_meetsAll.2.1 16 = .ok (.istore_n 3, 1) := by decide +kernel
theorem dc_Mo_meetsAll_17 : decode M_Mo_meetsAll.2.1 17 = .ok (.iload_n 1, 1) := by decide +kernel
theorem dc_Mo_meetsAll_18 : decode M_Mo_meetsAll.2.1 18 = .ok (.iload_n 3, 1) := by decide +kernel
theorem dc_Mo_meetsAll_19 : decode M_Mo_meetsAll.2.1 19 = .ok (.bipush 100, 2) := by decide +kernel
theorem dc_Mo_meetsAll_21 : decode M_Mo_meetsAll.2.1 21 = .ok (.idiv, 1) := by decide +kernel
theorem dc_Mo_meetsAll_22 : decode M_Mo_meetsAll.2.1 22 = .ok (.ishr, 1) := by decide +kernel
theorem dc_Mo_meetsAll_23 : decode M_Mo_meetsAll.2.1 23 = .ok (.iconst 1, 1) := by decide +kernel
theorem dc_Mo_meetsAll_24 : decode M_Mo_meetsAll.2.1 24 = .ok (.iand, 1) := by decide +kernel
theorem dc_Mo_meetsAll_25 : decode M_Mo_meetsAll.2.1 25 = .ok (.iconst 1, 1) := by decide +kernel
theorem dc_Mo_meetsAll_26 : decode M_Mo_meetsAll.2.1 26 = .ok (.if_icmp .eq 30, 3) := by decide +kernel
theorem dc_Mo_meetsAll_29 : decode M_Mo_meetsAll.2.1 29 = .ok (.iload_n 1, 1) := by decide +kernel
theorem dc_Mo_meetsAll_30 : decode M_Mo_meetsAll.2.1 30 = .ok (.iload_n 3, 1) := by decide +kernel
theorem dc_Mo_meetsAll_31 : decode M_Mo_meetsAll.2.1 31 = .ok (.bipush 10, 2) := by decide +kernel
theorem dc_Mo_meetsAll_33 : decode M_Mo_meetsAll.2.1 33 = .ok (.idiv, 1) := by decide +kernel
theorem dc_Mo_meetsAll_34 : decode M_Mo_meetsAll.2.1 34 = .ok (.bipush 10, 2) := by decide +kernel
theorem dc_Mo_meetsAll_36 : decode M_Mo_meetsAll.2.1 36 = .ok (.irem, 1) := by decide +kernel
theorem dc_Mo_meetsAll_37 : decode M_Mo_meetsAll.2.1 37 = .ok (.ishr, 1) := by decide +kernel
theorem dc_Mo_meetsAll_38 : decode M_Mo_meetsAll.2.1 38 = .ok (.iconst 1, 1) := by decide +kernel
theorem dc_Mo_meetsAll_39 : decode M_Mo_meetsAll.2.1 39 = .ok (.iand, 1) := by decide +kernel
theorem dc_Mo_meetsAll_40 : decode M_Mo_meetsAll.2.1 40 = .ok (.iconst 1, 1) := by decide +kernel
theorem dc_Mo_meetsAll_41 : decode M_Mo_meetsAll.2.1 41 = .ok (.if_icmp .eq 15, 3) := by decide +kernel
theorem dc_Mo_meetsAll_44 : decode M_Mo_meetsAll.2.1 44 = .ok (.iload_n 1, 1) := by decide +kernel
theorem dc_Mo_meetsAll_45 : decode M_Mo_meetsAll.2.1 45 = .ok (.iload_n 3, 1) := by decide +kernel
theorem dc_Mo_meetsAll_46 : decode M_Mo_meetsAll.2.1 46 = .ok (.bipush 10, 2) := by decide +kernel
theorem dc_Mo_meetsAll_48 : decode M_Mo_meetsAll.2.1 48 = .ok (.irem, 1) := by decide +kernel
theorem dc_Mo_meetsAll_49 : decode M_Mo_meetsAll.2.1 49 = .ok (.ishr, 1) := by decide +kernel
theorem dc_Mo_meetsAll_50 : decode M_Mo_meetsAll.2.1 50 = .ok (.iconst 1, 1) := by decide +kernel
theorem dc_Mo_meetsAll_51 : decode M_Mo_meetsAll.2.1 51 = .ok (.iand, 1) := by decide +kernel
theorem dc_Mo_meetsAll_52 : decode M_Mo_meetsAll.2.1 52 = .ok (.iconst 1, 1) := by decide +kernel
theorem dc_Mo_meetsAll_53 : decode M_Mo_meetsAll.2.1 53 = .ok (.if_icmp .ne 7, 3) := by decide +kernel
theorem dc_Mo_meetsAll_56 : decode M_Mo_meetsAll.2.1 56 = .ok (.iconst 1, 1) := by decide +kernel
theorem dc_Mo_meetsAll_57 : decode M_Mo_meetsAll.2.1 57 = .ok (.goto 4, 3) := by decide +kernel
theorem dc_Mo_meetsAll_60 : decode M_Mo_meetsAll.2.1 60 = .ok (.iconst 0, 1) := by decide +kernel
theorem dc_Mo_meetsAll_61 : decode M_Mo_meetsAll.2.1 61 = .ok (.istore 4, 2) := by decide +kernel
theorem dc_Mo_meetsAll_63 : decode M_Mo_meetsAll.2.1 63 = .ok (.iload 4, 2) := by decide +kernel
theorem dc_Mo_meetsAll_65 : decode M_Mo_meetsAll.2.1 65 = .ok (.ifCond .ne 22, 3) := by decide +kernel
theorem dc_Mo_meetsAll_68 : decode M_Mo_meetsAll.2.1 68 = .ok (.aload_n 0, 1) := by decide +kernel
theorem dc_Mo_meetsAll_69 : decode M_Mo_meetsAll.2.1 69 = .ok (.iload_n 2, 1) := by decide +kernel
theorem dc_Mo_meetsAll_70 : decode M_Mo_meetsAll.2.1 70 = .ok (.aload_n 0, 1) := by decide +kernel
theorem dc_Mo_meetsAll_71 : decode M_Mo_meetsAll.2.1 71 = .ok (.getfield 77, 3) := by decide +kernel
theorem dc_Mo_meetsAll_74 : decode M_Mo_meetsAll.2.1 74 = .ok (.aload_n 0, 1) := by decide +kernel
theorem dc_Mo_meetsAll_75 : decode M_Mo_meetsAll.2.1 75 = .ok (.getfield 26, 3) := by decide +kernel
theorem dc_Mo_meetsAll_78 : decode M_Mo_meetsAll.2.1 78 = .ok (.invokevirtual 252, 3) := by decide +kernel
theorem dc_Mo_meetsAll_81 : decode M_Mo_meetsAll.2.1 81 = .ok (.iconst (-1), 1) := by decide +kernel
theorem dc_Mo_meetsAll_82 : decode M_Mo_meetsAll.2.1 82 = .ok (.if_icmp .eq 5, 3) := by decide +kernel
theorem dc_Mo_meetsAll_85 : decode M_Mo_meetsAll.2.1 85 = .ok (.iconst 0, 1) := by decide +kernel
theorem dc_Mo_meetsAll_86 : decode M_Mo_meetsAll.2.1 86 = .ok (.ireturn, 1) := by decide +kernel
theorem dc_Mo_meetsAll_87 : decode M_Mo_meetsAll.2.1 87 = .ok (.iinc 2 1, 3) := by decide +kernel
theorem dc_Mo_meetsAll_90 : decode M_Mo_meetsAll.2.1 90 = .ok (.goto (-88), 3) := by decide +kernel
theorem dc_Mo_meetsAll_93 : decode M_Mo_meetsAll.2.1 93 = .ok (.iconst 1, 1) := by decide +kernel
theorem dc_Mo_meetsAll_94 : decode M_Mo_meetsAll.2.1 94 = .ok (.ireturn, 1) := by decide +kernel
def f_Mo_meetsAll_L2 (a0 : Nat) (a1 : Int32) : Nat → Int32 → xH → (Int32 → xH → Option (Int32 × xH)) → Option (Int32 × xH)
  | 0, _, _, _ => none
  | n + 1, a2, h, K => gd (hK h a0 = 11) (if (hI h a0 32) ≤ a2 then K a2 h else gd (hK h (hR h a0 29) = 12) (gd (¬ (a2 < 0 ∨ hL h (hR h a0 29) ≤ a2.toNatClampNeg)) (jn (fun (x9 : Int32) => jn (fun (x11 : xH) => f_Mo_meetsAll_L2 a0 a1 n (a2 + (1 : Int32)) x11 K) (fun k12 => if x9 = 0 then Option.bind (f_Mo_sortOf a0 a2 (hI h a0 8) (hI h a0 9) h) (fun q14 => if q14.1 = (-1 : Int32) then k12 q14.2 else some ((0 : Int32), q14.2)) else k12 h)) (fun k10 => jn (fun (x16 : Unit) => k10 (1 : Int32)) (fun k17 => if ((jShr a1 ((hI h (hR h a0 29) a2.toNatClampNeg) / (100 : Int32))) &&& (1 : Int32)) = (1 : Int32) then k17 () else if ((jShr a1 (jRem ((hI h (hR h a0 29) a2.toNatClampNeg) / (10 : Int32)) (10 : Int32))) &&& (1 : Int32)) = (1 : Int32) then k17 () else if ((jShr a1 (jRem (hI h (hR h a0 29) a2.toNatClampNeg) (10 : Int32))) &&& (1 : Int32)) = (1 : Int32) then k17 () else k10 (0 : Int32))))))
def f_Mo_meetsAll (a0 : Nat) (a1 : Int32) (h : xH) : Option (Int32 × xH) := f_Mo_meetsAll_L2 a0 a1 fu (0 : Int32) h (fun v21 h22 => some ((1 : Int32), h22))
theorem t_Mo_meetsAll_L2 {l : Launch} {z : xZ} {d mc ms : Nat} {Ph : Option xV → xH → Prop} {a0 : Nat} {a1 : Int32}  (hd : 2 ≤ d) : ∀ (n : Nat) (a2 : Int32) (h : xH) (K : Int32 → xH → Option (Int32 × xH)), OK (f_Mo_meetsAll_L2 a0 a1 n a2 h K) (fun q => Ph (some (xI q.1)) q.2) → (∀ (a2 : Int32) (h : xH), OK (K a2 h) (fun q => Ph (some (xI q.1)) q.2) → Sx l z d mc ms M_Mo_meetsAll 93 [some (xR a0), some (xI a1), some (xI a2), none, none] [] h Ph) → Sx l z d mc ms M_Mo_meetsAll 2 [some (xR a0), some (xI a1), some (xI a2), none, none] [] h Ph := by
  intro n
  induction n with
  | zero => intro a2 h K hk hE; exact hk.no
  | succ n ih =>
    intro a2 h K hk hE
    rw [f_Mo_meetsAll_L2] at hk
    refine sx_iload_n dc_Mo_meetsAll_2 rfl ?_
    refine sx_aload_n dc_Mo_meetsAll_3 rfl ?_
    obtain ⟨g5, hk⟩ := hk.g
    refine sx_get (ci := 11) (k := 32) rfl (by decide) wF_Mo_245 g5 dc_Mo_meetsAll_4 ?_
    refine sx_icmp_ge (tgt := 93) dc_Mo_meetsAll_7 (by decide) (fun c6 => ?_) (fun c6 => ?_)
    · replace hk := hk.t c6
      exact hE a2 h hk
    · replace hk := hk.f c6
      refine sx_aload_n dc_Mo_meetsAll_10 rfl ?_
      refine sx_get (ci := 11) (k := 29) rfl (by decide) wF_Mo_38 g5 dc_Mo_meetsAll_11 ?_
      refine sx_iload_n dc_Mo_meetsAll_14 rfl ?_
      obtain ⟨g7, hk⟩ := hk.g
      obtain ⟨g8, hk⟩ := hk.g
      refine sx_iald g7 g8 dc_Mo_meetsAll_15 ?_
      refine sx_istore_n dc_Mo_meetsAll_16 (by decide) (sx_eq (lc2 := [some (xR a0), some (xI a1), some (xI a2), some (xI (hI h (hR h a0 29) a2.toNatClampNeg)), none]) rfl rfl ?_)
      refine sx_iload_n dc_Mo_meetsAll_17 rfl ?_
      refine sx_iload_n dc_Mo_meetsAll_18 rfl ?_
      refine sx_bipush (v := (100 : Int32)) dc_Mo_meetsAll_19 (by decide) ?_
      refine sx_idiv dc_Mo_meetsAll_21 (by decide) ?_
      refine sx_ishr dc_Mo_meetsAll_22 ?_
      refine sx_iconst (v := (1 : Int32)) dc_Mo_meetsAll_23 (by decide) ?_
      refine sx_iand dc_Mo_meetsAll_24 ?_
      refine sx_iconst (v := (1 : Int32)) dc_Mo_meetsAll_25 (by decide) ?_
      refine hk.j (X := fun x9 => Sx l z d mc ms M_Mo_meetsAll 61 [some (xR a0), some (xI a1), some (xI a2), some (xI (hI h (hR h a0 29) a2.toNatClampNeg)), none] [xI x9] h Ph) (fun x9 hk => ?_) (fun k10 jk10 hk => ?_)
      · refine sx_istore dc_Mo_meetsAll_61 (by decide) (sx_eq (lc2 := [some (xR a0), some (xI a1), some (xI a2), some (xI (hI h (hR h a0 29) a2.toNatClampNeg)), some (xI x9)]) rfl rfl ?_)
        refine sx_iload dc_Mo_meetsAll_63 rfl ?_
        refine hk.j (X := fun x11 => Sx l z d mc ms M_Mo_meetsAll 87 [some (xR a0), some (xI a1), some (xI a2), some (xI (hI h (hR h a0 29) a2.toNatClampNeg)), some (xI x9)] [] x11 Ph) (fun x11 hk => ?_) (fun k12 jk12 hk => ?_)
        · refine sx_iinc (v := (1 : Int32)) dc_Mo_meetsAll_87 rfl (by decide) (by decide) (sx_eq (lc2 := [some (xR a0), some (xI a1), some (xI (a2 + (1 : Int32))), some (xI (hI h (hR h a0 29) a2.toNatClampNeg)), some (xI x9)]) rfl rfl ?_)
          refine sx_goto (tgt := 2) dc_Mo_meetsAll_90 (by decide) ?_
          exact sx_less (by simp [x_le]) (ih (a2 + (1 : Int32)) x11 _ hk hE)
        · refine sx_if_ne (tgt := 87) dc_Mo_meetsAll_65 (by decide) (fun c13 => ?_) (fun c13 => ?_)
          · replace hk := hk.f c13
            exact jk12 h hk
          · replace hk := hk.t c13
            refine sx_aload_n dc_Mo_meetsAll_68 rfl ?_
            refine sx_iload_n dc_Mo_meetsAll_69 rfl ?_
            refine sx_aload_n dc_Mo_meetsAll_70 rfl ?_
            refine sx_get (ci := 11) (k := 8) rfl (by decide) wF_Mo_77 g5 dc_Mo_meetsAll_71 ?_
            refine sx_aload_n dc_Mo_meetsAll_74 rfl ?_
            refine sx_get (ci := 11) (k := 9) rfl (by decide) wF_Mo_26 g5 dc_Mo_meetsAll_75 ?_
            obtain ⟨q14, eq14, hk⟩ := hk.bind
            refine sx_callV (d2 := d - 1) (mc2 := 0) (ms2 := 0) (as := [xI a2, xI (hI h a0 8), xI (hI h a0 9)]) mk_Mo_sortOf rfl (x_rk (ci := 11) g5 rfl rfl) wM_Mo_252 mi_Mo_sortOf me_Mo_sortOf rfl (Nat.le_of_ble_eq_true rfl) (Nat.le_of_ble_eq_true rfl) dc_Mo_meetsAll_78 (by omega) (Nat.zero_le _) (Nat.zero_le _) ?_
            refine t_Mo_sortOf (by omega) ⟨q14, eq14, ?_⟩
            refine sx_eq0 (lc2 := [some (xR a0), some (xI a1), some (xI a2), some (xI (hI h (hR h a0 29) a2.toNatClampNeg)), some (xI x9)]) (st2 := [xI q14.1]) rfl rfl ?_
            refine sx_iconst (v := (-1 : Int32)) dc_Mo_meetsAll_81 (by decide) ?_
            refine sx_icmp_eq (tgt := 87) dc_Mo_meetsAll_82 (by decide) (fun c15 => ?_) (fun c15 => ?_)
            · replace hk := hk.t c15
              exact jk12 q14.2 hk
            · replace hk := hk.f c15
              refine sx_iconst (v := (0 : Int32)) dc_Mo_meetsAll_85 (by decide) ?_
              exact sx_retT (v := (0 : Int32)) dc_Mo_meetsAll_86 (Or.inl ⟨rfl, rfl⟩) (by decide) hk.val
      · refine hk.j (X := fun x16 => Sx l z d mc ms M_Mo_meetsAll 56 [some (xR a0), some (xI a1), some (xI a2), some (xI (hI h (hR h a0 29) a2.toNatClampNeg)), none] [] h Ph) (fun x16 hk => ?_) (fun k17 jk17 hk => ?_)
        · refine sx_iconst (v := (1 : Int32)) dc_Mo_meetsAll_56 (by decide) ?_
          refine sx_goto (tgt := 61) dc_Mo_meetsAll_57 (by decide) ?_
          exact jk10 (1 : Int32) hk
        · refine sx_icmp_eq (tgt := 56) dc_Mo_meetsAll_26 (by decide) (fun c18 => ?_) (fun c18 => ?_)
          · replace hk := hk.t c18
            exact jk17 () hk
          · replace hk := hk.f c18
            refine sx_iload_n dc_Mo_meetsAll_29 rfl ?_
            refine sx_iload_n dc_Mo_meetsAll_30 rfl ?_
            refine sx_bipush (v := (10 : Int32)) dc_Mo_meetsAll_31 (by decide) ?_
            refine sx_idiv dc_Mo_meetsAll_33 (by decide) ?_
            refine sx_bipush (v := (10 : Int32)) dc_Mo_meetsAll_34 (by decide) ?_
            refine sx_irem dc_Mo_meetsAll_36 (by decide) ?_
            refine sx_ishr dc_Mo_meetsAll_37 ?_
            refine sx_iconst (v := (1 : Int32)) dc_Mo_meetsAll_38 (by decide) ?_
            refine sx_iand dc_Mo_meetsAll_39 ?_
            refine sx_iconst (v := (1 : Int32)) dc_Mo_meetsAll_40 (by decide) ?_
            refine sx_icmp_eq (tgt := 56) dc_Mo_meetsAll_41 (by decide) (fun c19 => ?_) (fun c19 => ?_)
            · replace hk := hk.t c19
              exact jk17 () hk
            · replace hk := hk.f c19
              refine sx_iload_n dc_Mo_meetsAll_44 rfl ?_
              refine sx_iload_n dc_Mo_meetsAll_45 rfl ?_
              refine sx_bipush (v := (10 : Int32)) dc_Mo_meetsAll_46 (by decide) ?_
              refine sx_irem dc_Mo_meetsAll_48 (by decide) ?_
              refine sx_ishr dc_Mo_meetsAll_49 ?_
              refine sx_iconst (v := (1 : Int32)) dc_Mo_meetsAll_50 (by decide) ?_
              refine sx_iand dc_Mo_meetsAll_51 ?_
              refine sx_iconst (v := (1 : Int32)) dc_Mo_meetsAll_52 (by decide) ?_
              refine sx_icmp_ne (tgt := 60) dc_Mo_meetsAll_53 (by decide) (fun c20 => ?_) (fun c20 => ?_)
              · replace hk := hk.f c20
                refine sx_iconst (v := (0 : Int32)) dc_Mo_meetsAll_60 (by decide) ?_
                exact jk10 (0 : Int32) hk
              · replace hk := hk.t c20
                exact jk17 () hk
theorem t_Mo_meetsAll {l : Launch} {z : xZ} {d mc ms : Nat} {Ph : Option xV → xH → Prop} {a0 : Nat} {a1 : Int32}  {h : xH} (hd : 2 ≤ d) (hk : OK (f_Mo_meetsAll a0 a1 h) (fun q => Ph (some (xI q.1)) q.2)) : Sx l z d mc ms M_Mo_meetsAll 0 (x_en [xR a0, xI a1] 5) [] h Ph := by
  unfold f_Mo_meetsAll at hk
  refine sx_eq (lc2 := [some (xR a0), some (xI a1), none, none, none]) rfl rfl ?_
  refine sx_iconst (v := (0 : Int32)) dc_Mo_meetsAll_0 (by decide) ?_
  refine sx_istore_n dc_Mo_meetsAll_1 (by decide) (sx_eq (lc2 := [some (xR a0), some (xI a1), some (xI (0 : Int32)), none, none]) rfl rfl ?_)
  refine t_Mo_meetsAll_L2 (by omega) _ _ _ _ hk (fun v21 h22 hk => ?_)
  refine sx_iconst (v := (1 : Int32)) dc_Mo_meetsAll_93 (by decide) ?_
  exact sx_retT (v := (1 : Int32)) dc_Mo_meetsAll_94 (Or.inl ⟨rfl, rfl⟩) (by decide) hk.val
theorem dc_Mo_home_0 : decode M_Mo_home.2.1 0 = .ok (.iload_n 1, 1) := by decide +kernel
theorem dc_Mo_home_1 : decode M_Mo_home.2.1 1 = .ok (.i2l, 1) := by decide +kernel
theorem dc_Mo_home_2 : decode M_Mo_home.2.1 2 = .ok (.lconst 0, 1) := by decide +kernel
theorem dc_Mo_home_3 : decode M_Mo_home.2.1 3 = .ok (.ldc2_w 98, 3) := by decide +kernel
theorem dc_Mo_home_6 : decode M_Mo_home.2.1 6 = .ok (.invokestatic 73, 3) := by decide +kernel
theorem dc_Mo_home_9 : decode M_Mo_home.2.1 9 = .ok (.ifCond .ne 6, 3) := by decide +kernel
theorem dc_Mo_home_12 : decode M_Mo_home.2.1 12 = .ok (.bipush (-2), 2) := by decide +kernel
theorem dc_Mo_home_14 : decode M_Mo_home.2.1 14 = .ok (.ireturn, 1) := by decide +kernel
theorem dc_Mo_home_15 : decode M_Mo_home.2.1 15 = .ok (.aload_n 0, 1) := by decide +kernel
theorem dc_Mo_home_16 : decode M_Mo_home.2.1 16 = .ok (.invokevirtual 263, 3) := by decide +kernel
theorem dc_Mo_home_19 : decode M_Mo_home.2.1 19 = .ok (.iconst (-1), 1) := by decide +kernel
theorem dc_Mo_home_20 : decode M_Mo_home.2.1 20 = .ok (.istore_n 2, 1) := by decide +kernel
theorem dc_Mo_home_21 : decode M_Mo_home.2.1 21 = .ok (.iconst 0, 1) := by decide +kernel
theorem dc_Mo_home_22 : decode M_Mo_home.2.1 22 = .ok (.istore_n 3, 1) := by decide +kernel
theorem dc_Mo_home_23 : decode M_Mo_home.2.1 23 = .ok (.iload_n 3, 1) := by decide +kernel
theorem dc_Mo_home_24 : decode M_Mo_home.2.1 24 = .ok (.iconst 1, 1) := by decide +kernel
theorem dc_Mo_home_25 : decode M_Mo_home.2.1 25 = .ok (.aload_n 0, 1) := by decide +kernel
theorem dc_Mo_home_26 : decode M_Mo_home.2.1 26 = .ok (.getfield 23, 3) := by decide +kernel
theorem dc_Mo_home_29 : decode M_Mo_home.2.1 29 = .ok (.ishl, 1) := by decide +kernel
theorem dc_Mo_home_30 : decode M_Mo_home.2.1 30 = .ok (.if_icmp .ge 35, 3) := by decide +kernel
theorem dc_Mo_home_33 : decode M_Mo_home.2.1 33 = .ok (.iload_n 2, 1) := by decide +kernel
theorem dc_Mo_home_34 : decode M_Mo_home.2.1 34 = .ok (.iconst (-1), 1) := by decide +kernel
theorem dc_Mo_home_35 : decode M_Mo_home.2.1 35 = .ok (.if_icmp .eq 14, 3) := by decide +kernel
theorem dc_Mo_home_38 : decode M_Mo_home.2.1 38 = .ok (.iload_n 3, 1) := by decide +kernel
theorem dc_Mo_home_39 : decode M_Mo_home.2.1 39 = .ok (.invokestatic 117, 3) := by decide +kernel
theorem dc_Mo_home_42 : decode M_Mo_home.2.1 42 = .ok (.iload_n 2, 1) := by decide +kernel
theorem dc_Mo_home_43 : decode M_Mo_home.2.1 43 = .ok (.invokestatic 117, 3) := by decide +kernel
theorem dc_Mo_home_46 : decode M_Mo_home.2.1 46 = .ok (.if_icmp .ge 13, 3) := by decide +kernel
theorem dc_Mo_home_49 : decode M_Mo_home.2.1 49 = .ok (.aload_n 0, 1) := by decide +kernel
theorem dc_Mo_home_50 : decode M_Mo_home.2.1 50 = .ok (.iload_n 3, 1) := by decide +kernel
theorem dc_Mo_home_51 : decode M_Mo_home.2.1 51 = .ok (.invokevirtual 278, 3) := by decide +kernel
theorem dc_Mo_home_54 : decode M_Mo_home.2.1 54 = .ok (.ifCond .eq 5, 3) := by decide +kernel
theorem dc_Mo_home_57 : decode M_Mo_home.2.1 57 = .ok (.iload_n 3, 1) := by decide +kernel
theorem dc_Mo_home_58 : decode M_Mo_home.2.1 58 = .ok (.istore_n 2, 1) := by decide +kernel
theorem dc_Mo_home_59 : decode M_Mo_home.2.1 59 = .ok (.iinc 3 1, 3) := by decide +kernel
theorem dc_Mo_home_62 : decode M_Mo_home.2.1 62 = .ok (.goto (-39), 3) := by decide +kernel
theorem dc_Mo_home_65 : decode M_Mo_home.2.1 65 = .ok (.iload_n 1, 1) := by decide +kernel
theorem dc_Mo_home_66 : decode M_Mo_home.2.1 66 = .ok (.iconst 2, 1) := by decide +kernel
theorem dc_Mo_home_67 : decode M_Mo_home.2.1 67 = .ok (.if_icmp .ge 16, 3) := by decide +kernel
theorem dc_Mo_home_70 : decode M_Mo_home.2.1 70 = .ok (.iload_n 1, 1) := by decide +kernel
theorem dc_Mo_home_71 : decode M_Mo_home.2.1 71 = .ok (.ifCond .ne 10, 3) := by decide +kernel
theorem dc_Mo_home_74 : decode M_Mo_home.2.1 74 = .ok (.iload_n 2, 1) := by decide +kernel
theorem dc_Mo_home_75 : decode M_Mo_home.2.1 75 = .ok (.invokestatic 117, 3) := by decide +kernel
theorem dc_Mo_home_78 : decode M_Mo_home.2.1 78 = .ok (.goto 4, 3) := by decide +kernel
theorem dc_Mo_home_81 : decode M_Mo_home.2.1 81 = .ok (.iload_n 2, 1) := by decide +kernel
theorem dc_Mo_home_82 : decode M_Mo_home.2.1 82 = .ok (.ireturn, 1) := by decide +kernel
theorem dc_Mo_home_83 : decode M_Mo_home.2.1 83 = .ok (.iconst 0, 1) := by decide +kernel
theorem dc_Mo_home_84 : decode M_Mo_home.2.1 84 = .ok (.istore_n 3, 1) := by decide +kernel
theorem dc_Mo_home_85 : decode M_Mo_home.2.1 85 = .ok (.iconst 0, 1) := by decide +kernel
theorem dc_Mo_home_86 : decode M_Mo_home.2.1 86 = .ok (.istore 4, 2) := by decide +kernel
theorem dc_Mo_home_88 : decode M_Mo_home.2.1 88 = .ok (.iload 4, 2) := by decide +kernel
theorem dc_Mo_home_90 : decode M_Mo_home.2.1 90 = .ok (.aload_n 0, 1) := by decide +kernel
theorem dc_Mo_home_91 : decode M_Mo_home.2.1 91 = .ok (.getfield 23, 3) := by decide +kernel
theorem dc_Mo_home_94 : decode M_Mo_home.2.1 94 = .ok (.if_icmp .ge 32, 3) := by decide +kernel
theorem dc_Mo_home_97 : decode M_Mo_home.2.1 97 = .ok (.iload_n 3, 1) := by decide +kernel
theorem dc_Mo_home_98 : decode M_Mo_home.2.1 98 = .ok (.iload_n 2, 1) := by decide +kernel
theorem dc_Mo_home_99 : decode M_Mo_home.2.1 99 = .ok (.iload 4, 2) := by decide +kernel
theorem dc_Mo_home_101 : decode M_Mo_home.2.1 101 = .ok (.ishr, 1) := by decide +kernel
theorem dc_Mo_home_102 : decode M_Mo_home.2.1 102 = .ok (.iconst 1, 1) := by decide +kernel
theorem dc_Mo_home_103 : decode M_Mo_home.2.1 103 = .ok (.iand, 1) := by decide +kernel
theorem dc_Mo_home_104 : decode M_Mo_home.2.1 104 = .ok (.iconst 1, 1) := by decide +kernel
theorem dc_Mo_home_105 : decode M_Mo_home.2.1 105 = .ok (.if_icmp .ne 7, 3) := by decide +kernel
theorem dc_Mo_home_108 : decode M_Mo_home.2.1 108 = .ok (.iconst 0, 1) := by decide +kernel
theorem dc_Mo_home_109 : decode M_Mo_home.2.1 109 = .ok (.goto 9, 3) := by decide +kernel
theorem dc_Mo_home_112 : decode M_Mo_home.2.1 112 = .ok (.aload_n 0, 1) := by decide +kernel
theorem dc_Mo_home_113 : decode M_Mo_home.2.1 113 = .ok (.iload 4, 2) := by decide +kernel
theorem dc_Mo_home_115 : decode M_Mo_home.2.1 115 = .ok (.invokevirtual 272, 3) := by decide +kernel
theorem dc_Mo_home_118 : decode M_Mo_home.2.1 118 = .ok (.iadd, 1) := by decide +kernel
theorem dc_Mo_home_119 : decode M_Mo_home.2.1 119 = .ok (.istore_n 3, 1) := by decide +kernel
theorem dc_Mo_home_120 : decode M_Mo_home.2.1 120 = .ok (.iinc 4 1, 3) := by decide +kernel
theorem dc_Mo_home_123 : decode M_Mo_home.2.1 123 = .ok (.goto (-35), 3) := by decide +kernel
theorem dc_Mo_home_126 : decode M_Mo_home.2.1 126 = .ok (.iload_n 3, 1) := by decide +kernel
theorem dc_Mo_home_127 : decode M_Mo_home.2.1 127 = .ok (.ireturn, 1) := by decide +kernel
def f_Mo_home_L23 (a0 : Nat) (a1 : Int32) : Nat → Int32 → Int32 → xH → (Int32 → Int32 → xH → Option (Int32 × xH)) → Option (Int32 × xH)
  | 0, _, _, _, _ => none
  | n + 1, a2, a3, h, K => gd (hK h a0 = 11) (if (jShl (1 : Int32) (hI h a0 7)) ≤ a3 then K a2 a3 h else jn (fun (x16 : Int32 × xH) => f_Mo_home_L23 a0 a1 n x16.1 (a3 + (1 : Int32)) x16.2 K) (fun k17 => jn (fun (x18 : xH) => gd (hK x18 a0 = 11) (Option.bind (f_Mo_meetsAll a0 a3 x18) (fun q20 => if q20.1 = 0 then k17 (a2, q20.2) else k17 (a3, q20.2)))) (fun k19 => if a2 = (-1 : Int32) then k19 h else Option.bind (f_Mo_bitsOf a3 h) (fun q24 => Option.bind (f_Mo_bitsOf a2 q24.2) (fun q25 => if q25.1 ≤ q24.1 then k17 (a2, q25.2) else k19 q25.2)))))
def f_Mo_home_L88 (a0 : Nat) (a1 : Int32) (a2 : Int32) : Nat → Int32 → Int32 → xH → (Int32 → Int32 → xH → Option (Int32 × xH)) → Option (Int32 × xH)
  | 0, _, _, _, _ => none
  | n + 1, a3, a4, h, K => gd (hK h a0 = 11) (if (hI h a0 7) ≤ a4 then K a3 a4 h else jn (fun (x33 : Int32 × xH) => f_Mo_home_L88 a0 a1 a2 n (a3 + x33.1) (a4 + (1 : Int32)) x33.2 K) (fun k34 => if ((jShr a2 a4) &&& (1 : Int32)) = (1 : Int32) then k34 ((0 : Int32), h) else Option.bind (f_Mo_joy a0 a4 h) (fun q36 => k34 (q36.1, q36.2))))
def f_Mo_home (a0 : Nat) (a1 : Int32) (h : xH) : Option (Int32 × xH) := Option.bind (f_Mo_in a1.toInt64 (0 : Int64) (2 : Int64) h) (fun q10 => if q10.1 = 0 then some ((-2 : Int32), q10.2) else gd (hK q10.2 a0 = 11) (Option.bind (f_Mo_gathers a0 q10.2) (fun q12 => f_Mo_home_L23 a0 a1 fu (-1 : Int32) (0 : Int32) q12.2 (fun v27 v28 h29 => if (2 : Int32) ≤ a1 then f_Mo_home_L88 a0 a1 v27 fu (0 : Int32) (0 : Int32) h29 (fun v37 v38 h39 => some (v37, h39)) else jn (fun (x40 : Int32 × xH) => some (x40.1, x40.2)) (fun k41 => if a1 = 0 then Option.bind (f_Mo_bitsOf v27 h29) (fun q43 => k41 (q43.1, q43.2)) else k41 (v27, h29))))))
theorem t_Mo_home_L23 {l : Launch} {z : xZ} {d mc ms : Nat} {Ph : Option xV → xH → Prop} {a0 : Nat} {a1 : Int32}  (hd : 3 ≤ d) : ∀ (n : Nat) (a2 : Int32) (a3 : Int32) (h : xH) (K : Int32 → Int32 → xH → Option (Int32 × xH)), OK (f_Mo_home_L23 a0 a1 n a2 a3 h K) (fun q => Ph (some (xI q.1)) q.2) → (∀ (a2 : Int32) (a3 : Int32) (h : xH), OK (K a2 a3 h) (fun q => Ph (some (xI q.1)) q.2) → Sx l z d mc ms M_Mo_home 65 [some (xR a0), some (xI a1), some (xI a2), some (xI a3), none] [] h Ph) → Sx l z d mc ms M_Mo_home 23 [some (xR a0), some (xI a1), some (xI a2), some (xI a3), none] [] h Ph := by
  intro n
  induction n with
  | zero => intro a2 a3 h K hk hE; exact hk.no
  | succ n ih =>
    intro a2 a3 h K hk hE
    rw [f_Mo_home_L23] at hk
    refine sx_iload_n dc_Mo_home_23 rfl ?_
    refine sx_iconst (v := (1 : Int32)) dc_Mo_home_24 (by decide) ?_
    refine sx_aload_n dc_Mo_home_25 rfl ?_
    obtain ⟨g14, hk⟩ := hk.g
    refine sx_get (ci := 11) (k := 7) rfl (by decide) wF_Mo_23 g14 dc_Mo_home_26 ?_
    refine sx_ishl dc_Mo_home_29 ?_
    refine sx_icmp_ge (tgt := 65) dc_Mo_home_30 (by decide) (fun c15 => ?_) (fun c15 => ?_)
    · replace hk := hk.t c15
      exact hE a2 a3 h hk
    · replace hk := hk.f c15
      refine sx_iload_n dc_Mo_home_33 rfl ?_
      refine sx_iconst (v := (-1 : Int32)) dc_Mo_home_34 (by decide) ?_
      refine hk.j (X := fun x16 => Sx l z d mc ms M_Mo_home 59 [some (xR a0), some (xI a1), some (xI x16.1), some (xI a3), none] [] x16.2 Ph) (fun x16 hk => ?_) (fun k17 jk17 hk => ?_)
      · refine sx_iinc (v := (1 : Int32)) dc_Mo_home_59 rfl (by decide) (by decide) (sx_eq (lc2 := [some (xR a0), some (xI a1), some (xI x16.1), some (xI (a3 + (1 : Int32))), none]) rfl rfl ?_)
        refine sx_goto (tgt := 23) dc_Mo_home_62 (by decide) ?_
        exact ih x16.1 (a3 + (1 : Int32)) x16.2 _ hk hE
      · refine hk.j (X := fun x18 => Sx l z d mc ms M_Mo_home 49 [some (xR a0), some (xI a1), some (xI a2), some (xI a3), none] [] x18 Ph) (fun x18 hk => ?_) (fun k19 jk19 hk => ?_)
        · refine sx_aload_n dc_Mo_home_49 rfl ?_
          refine sx_iload_n dc_Mo_home_50 rfl ?_
          obtain ⟨g21, hk⟩ := hk.g
          obtain ⟨q20, eq20, hk⟩ := hk.bind
          refine sx_callV (d2 := d - 1) (mc2 := 0) (ms2 := 0) (as := [xI a3]) mk_Mo_meetsAll rfl (x_rk (ci := 11) g21 rfl rfl) wM_Mo_278 mi_Mo_meetsAll me_Mo_meetsAll rfl (Nat.le_of_ble_eq_true rfl) (Nat.le_of_ble_eq_true rfl) dc_Mo_home_51 (by omega) (Nat.zero_le _) (Nat.zero_le _) ?_
          refine t_Mo_meetsAll (by omega) ⟨q20, eq20, ?_⟩
          refine sx_eq0 (lc2 := [some (xR a0), some (xI a1), some (xI a2), some (xI a3), none]) (st2 := [xI q20.1]) rfl rfl ?_
          refine sx_if_eq (tgt := 59) dc_Mo_home_54 (by decide) (fun c22 => ?_) (fun c22 => ?_)
          · replace hk := hk.t c22
            exact jk17 (a2, q20.2) hk
          · replace hk := hk.f c22
            refine sx_iload_n dc_Mo_home_57 rfl ?_
            refine sx_istore_n dc_Mo_home_58 (by decide) (sx_eq (lc2 := [some (xR a0), some (xI a1), some (xI a3), some (xI a3), none]) rfl rfl ?_)
            exact jk17 (a3, q20.2) hk
        · refine sx_icmp_eq (tgt := 49) dc_Mo_home_35 (by decide) (fun c23 => ?_) (fun c23 => ?_)
          · replace hk := hk.t c23
            exact jk19 h hk
          · replace hk := hk.f c23
            refine sx_iload_n dc_Mo_home_38 rfl ?_
            obtain ⟨q24, eq24, hk⟩ := hk.bind
            refine sx_callS (d2 := d - 1) (mc2 := 0) (ms2 := 0) (as := [xI a3]) mk_Mo_bitsOf rfl wM_Mo_117 mt_Mo_bitsOf rfl (Nat.le_of_ble_eq_true rfl) (Nat.le_of_ble_eq_true rfl) dc_Mo_home_39 (by omega) (Nat.zero_le _) (Nat.zero_le _) ?_
            refine t_Mo_bitsOf (by omega) ⟨q24, eq24, ?_⟩
            refine sx_eq0 (lc2 := [some (xR a0), some (xI a1), some (xI a2), some (xI a3), none]) (st2 := [xI q24.1]) rfl rfl ?_
            refine sx_iload_n dc_Mo_home_42 rfl ?_
            obtain ⟨q25, eq25, hk⟩ := hk.bind
            refine sx_callS (d2 := d - 1) (mc2 := 0) (ms2 := 0) (as := [xI a2]) mk_Mo_bitsOf rfl wM_Mo_117 mt_Mo_bitsOf rfl (Nat.le_of_ble_eq_true rfl) (Nat.le_of_ble_eq_true rfl) dc_Mo_home_43 (by omega) (Nat.zero_le _) (Nat.zero_le _) ?_
            refine t_Mo_bitsOf (by omega) ⟨q25, eq25, ?_⟩
            refine sx_eq0 (lc2 := [some (xR a0), some (xI a1), some (xI a2), some (xI a3), none]) (st2 := [xI q25.1, xI q24.1]) rfl rfl ?_
            refine sx_icmp_ge (tgt := 59) dc_Mo_home_46 (by decide) (fun c26 => ?_) (fun c26 => ?_)
            · replace hk := hk.t c26
              exact jk17 (a2, q25.2) hk
            · replace hk := hk.f c26
              exact jk19 q25.2 hk
theorem t_Mo_home_L88 {l : Launch} {z : xZ} {d mc ms : Nat} {Ph : Option xV → xH → Prop} {a0 : Nat} {a1 : Int32} {a2 : Int32}  (hd : 154 ≤ d) : ∀ (n : Nat) (a3 : Int32) (a4 : Int32) (h : xH) (K : Int32 → Int32 → xH → Option (Int32 × xH)), OK (f_Mo_home_L88 a0 a1 a2 n a3 a4 h K) (fun q => Ph (some (xI q.1)) q.2) → (∀ (a3 : Int32) (a4 : Int32) (h : xH), OK (K a3 a4 h) (fun q => Ph (some (xI q.1)) q.2) → Sx l z d mc ms M_Mo_home 126 [some (xR a0), some (xI a1), some (xI a2), some (xI a3), some (xI a4)] [] h Ph) → Sx l z d mc ms M_Mo_home 88 [some (xR a0), some (xI a1), some (xI a2), some (xI a3), some (xI a4)] [] h Ph := by
  intro n
  induction n with
  | zero => intro a3 a4 h K hk hE; exact hk.no
  | succ n ih =>
    intro a3 a4 h K hk hE
    rw [f_Mo_home_L88] at hk
    refine sx_iload dc_Mo_home_88 rfl ?_
    refine sx_aload_n dc_Mo_home_90 rfl ?_
    obtain ⟨g31, hk⟩ := hk.g
    refine sx_get (ci := 11) (k := 7) rfl (by decide) wF_Mo_23 g31 dc_Mo_home_91 ?_
    refine sx_icmp_ge (tgt := 126) dc_Mo_home_94 (by decide) (fun c32 => ?_) (fun c32 => ?_)
    · replace hk := hk.t c32
      exact hE a3 a4 h hk
    · replace hk := hk.f c32
      refine sx_iload_n dc_Mo_home_97 rfl ?_
      refine sx_iload_n dc_Mo_home_98 rfl ?_
      refine sx_iload dc_Mo_home_99 rfl ?_
      refine sx_ishr dc_Mo_home_101 ?_
      refine sx_iconst (v := (1 : Int32)) dc_Mo_home_102 (by decide) ?_
      refine sx_iand dc_Mo_home_103 ?_
      refine sx_iconst (v := (1 : Int32)) dc_Mo_home_104 (by decide) ?_
      refine hk.j (X := fun x33 => Sx l z d mc ms M_Mo_home 118 [some (xR a0), some (xI a1), some (xI a2), some (xI a3), some (xI a4)] [xI x33.1, xI a3] x33.2 Ph) (fun x33 hk => ?_) (fun k34 jk34 hk => ?_)
      · refine sx_iadd dc_Mo_home_118 ?_
        refine sx_istore_n dc_Mo_home_119 (by decide) (sx_eq (lc2 := [some (xR a0), some (xI a1), some (xI a2), some (xI (a3 + x33.1)), some (xI a4)]) rfl rfl ?_)
        refine sx_iinc (v := (1 : Int32)) dc_Mo_home_120 rfl (by decide) (by decide) (sx_eq (lc2 := [some (xR a0), some (xI a1), some (xI a2), some (xI (a3 + x33.1)), some (xI (a4 + (1 : Int32)))]) rfl rfl ?_)
        refine sx_goto (tgt := 88) dc_Mo_home_123 (by decide) ?_
        exact ih (a3 + x33.1) (a4 + (1 : Int32)) x33.2 _ hk hE
      · refine sx_icmp_ne (tgt := 112) dc_Mo_home_105 (by decide) (fun c35 => ?_) (fun c35 => ?_)
        · replace hk := hk.f c35
          refine sx_aload_n dc_Mo_home_112 rfl ?_
          refine sx_iload dc_Mo_home_113 rfl ?_
          obtain ⟨q36, eq36, hk⟩ := hk.bind
          refine sx_callV (d2 := d - 1) (mc2 := 0) (ms2 := 0) (as := [xI a4]) mk_Mo_joy rfl (x_rk (ci := 11) g31 rfl rfl) wM_Mo_272 mi_Mo_joy me_Mo_joy rfl (Nat.le_of_ble_eq_true rfl) (Nat.le_of_ble_eq_true rfl) dc_Mo_home_115 (by omega) (Nat.zero_le _) (Nat.zero_le _) ?_
          refine t_Mo_joy (by omega) ⟨q36, eq36, ?_⟩
          refine sx_eq0 (lc2 := [some (xR a0), some (xI a1), some (xI a2), some (xI a3), some (xI a4)]) (st2 := [xI q36.1, xI a3]) rfl rfl ?_
          exact jk34 (q36.1, q36.2) hk
        · replace hk := hk.t c35
          refine sx_iconst (v := (0 : Int32)) dc_Mo_home_108 (by decide) ?_
          refine sx_goto (tgt := 118) dc_Mo_home_109 (by decide) ?_
          exact jk34 ((0 : Int32), h) hk
theorem t_Mo_home {l : Launch} {z : xZ} {d mc ms : Nat} {Ph : Option xV → xH → Prop} {a0 : Nat} {a1 : Int32}  {h : xH} (hd : 154 ≤ d) (hk : OK (f_Mo_home a0 a1 h) (fun q => Ph (some (xI q.1)) q.2)) : Sx l z d mc ms M_Mo_home 0 (x_en [xR a0, xI a1] 5) [] h Ph := by
  unfold f_Mo_home at hk
  refine sx_eq (lc2 := [some (xR a0), some (xI a1), none, none, none]) rfl rfl ?_
  refine sx_iload_n dc_Mo_home_0 rfl ?_
  refine sx_i2l dc_Mo_home_1 ?_
  refine sx_lconst (v := 0) dc_Mo_home_2 (by decide) ?_
  refine sx_ldc2 (v := 2) wJ_Mo_98 dc_Mo_home_3 ?_
  obtain ⟨q10, eq10, hk⟩ := hk.bind
  refine sx_callS (d2 := d - 1) (mc2 := 0) (ms2 := 0) (as := [xJ a1.toInt64, xJ (0 : Int64), xJ (2 : Int64)]) mk_Mo_in rfl wM_Mo_73 mt_Mo_in rfl (Nat.le_of_ble_eq_true rfl) (Nat.le_of_ble_eq_true rfl) dc_Mo_home_6 (by omega) (Nat.zero_le _) (Nat.zero_le _) ?_
  refine t_Mo_in (by omega) ⟨q10, eq10, ?_⟩
  refine sx_eq0 (lc2 := [some (xR a0), some (xI a1), none, none, none]) (st2 := [xI q10.1]) rfl rfl ?_
  refine sx_if_ne (tgt := 15) dc_Mo_home_9 (by decide) (fun c11 => ?_) (fun c11 => ?_)
  · replace hk := hk.f c11
    refine sx_aload_n dc_Mo_home_15 rfl ?_
    obtain ⟨g13, hk⟩ := hk.g
    obtain ⟨q12, eq12, hk⟩ := hk.bind
    refine sx_callV (d2 := d - 1) (mc2 := 0) (ms2 := 0) (as := []) mk_Mo_gathers rfl (x_rk (ci := 11) g13 rfl rfl) wM_Mo_263 mi_Mo_gathers me_Mo_gathers rfl (Nat.le_of_ble_eq_true rfl) (Nat.le_of_ble_eq_true rfl) dc_Mo_home_16 (by omega) (Nat.zero_le _) (Nat.zero_le _) ?_
    refine t_Mo_gathers (by omega) ⟨q12, eq12, ?_⟩
    refine sx_eq0 (lc2 := [some (xR a0), some (xI a1), none, none, none]) (st2 := []) rfl rfl ?_
    refine sx_iconst (v := (-1 : Int32)) dc_Mo_home_19 (by decide) ?_
    refine sx_istore_n dc_Mo_home_20 (by decide) (sx_eq (lc2 := [some (xR a0), some (xI a1), some (xI (-1 : Int32)), none, none]) rfl rfl ?_)
    refine sx_iconst (v := (0 : Int32)) dc_Mo_home_21 (by decide) ?_
    refine sx_istore_n dc_Mo_home_22 (by decide) (sx_eq (lc2 := [some (xR a0), some (xI a1), some (xI (-1 : Int32)), some (xI (0 : Int32)), none]) rfl rfl ?_)
    refine t_Mo_home_L23 (by omega) _ _ _ _ _ hk (fun v27 v28 h29 hk => ?_)
    refine sx_iload_n dc_Mo_home_65 rfl ?_
    refine sx_iconst (v := (2 : Int32)) dc_Mo_home_66 (by decide) ?_
    refine sx_icmp_ge (tgt := 83) dc_Mo_home_67 (by decide) (fun c30 => ?_) (fun c30 => ?_)
    · replace hk := hk.t c30
      refine sx_iconst (v := (0 : Int32)) dc_Mo_home_83 (by decide) ?_
      refine sx_istore_n dc_Mo_home_84 (by decide) (sx_eq (lc2 := [some (xR a0), some (xI a1), some (xI v27), some (xI (0 : Int32)), none]) rfl rfl ?_)
      refine sx_iconst (v := (0 : Int32)) dc_Mo_home_85 (by decide) ?_
      refine sx_istore dc_Mo_home_86 (by decide) (sx_eq (lc2 := [some (xR a0), some (xI a1), some (xI v27), some (xI (0 : Int32)), some (xI (0 : Int32))]) rfl rfl ?_)
      refine t_Mo_home_L88 (by omega) _ _ _ _ _ hk (fun v37 v38 h39 hk => ?_)
      refine sx_iload_n dc_Mo_home_126 rfl ?_
      exact sx_retI dc_Mo_home_127 rfl hk.val
    · replace hk := hk.f c30
      refine sx_iload_n dc_Mo_home_70 rfl ?_
      refine hk.j (X := fun x40 => Sx l z d mc ms M_Mo_home 82 [some (xR a0), some (xI a1), some (xI v27), some (xI v28), none] [xI x40.1] x40.2 Ph) (fun x40 hk => ?_) (fun k41 jk41 hk => ?_)
      · exact sx_retI dc_Mo_home_82 rfl hk.val
      · refine sx_if_ne (tgt := 81) dc_Mo_home_71 (by decide) (fun c42 => ?_) (fun c42 => ?_)
        · replace hk := hk.f c42
          refine sx_iload_n dc_Mo_home_81 rfl ?_
          exact jk41 (v27, h29) hk
        · replace hk := hk.t c42
          refine sx_iload_n dc_Mo_home_74 rfl ?_
          obtain ⟨q43, eq43, hk⟩ := hk.bind
          refine sx_callS (d2 := d - 1) (mc2 := 0) (ms2 := 0) (as := [xI v27]) mk_Mo_bitsOf rfl wM_Mo_117 mt_Mo_bitsOf rfl (Nat.le_of_ble_eq_true rfl) (Nat.le_of_ble_eq_true rfl) dc_Mo_home_75 (by omega) (Nat.zero_le _) (Nat.zero_le _) ?_
          refine t_Mo_bitsOf (by omega) ⟨q43, eq43, ?_⟩
          refine sx_eq0 (lc2 := [some (xR a0), some (xI a1), some (xI v27), some (xI v28), none]) (st2 := [xI q43.1]) rfl rfl ?_
          refine sx_goto (tgt := 82) dc_Mo_home_78 (by decide) ?_
          exact jk41 (q43.1, q43.2) hk
  · replace hk := hk.t c11
    refine sx_bipush (v := (-2 : Int32)) dc_Mo_home_12 (by decide) ?_
    exact sx_retI dc_Mo_home_14 rfl hk.val
theorem dc_Mo_gathersCosts_0 : decode M_Mo_gathersCosts.2.1 0 = .ok (.iconst 1, 1) := by decide +kernel
theorem dc_Mo_gathersCosts_1 : decode M_Mo_gathersCosts.2.1 1 = .ok (.istore_n 1, 1) := by decide +kernel
theorem dc_Mo_gathersCosts_2 : decode M_Mo_gathersCosts.2.1 2 = .ok (.iload_n 1, 1) := by decide +kernel
theorem dc_Mo_gathersCosts_3 : decode M_Mo_gathersCosts.2.1 3 = .ok (.aload_n 0, 1) := by decide +kernel
theorem dc_Mo_gathersCosts_4 : decode M_Mo_gathersCosts.2.1 4 = .ok (.getfield 23, 3) := by decide +kernel
theorem dc_Mo_gathersCosts_7 : decode M_Mo_gathersCosts.2.1 7 = .ok (.if_icmp .ge 72, 3) := by decide +kernel
theorem dc_Mo_gathersCosts_10 : decode M_Mo_gathersCosts.2.1 10 = .ok (.iconst 0, 1) := by decide +kernel
theorem dc_Mo_gathersCosts_11 : decode M_Mo_gathersCosts.2.1 11 = .ok (.istore_n 2, 1) := by decide +kernel
theorem dc_Mo_gathersCosts_12 : decode M_Mo_gathersCosts.2.1 12 = .ok (.iload_n 2, 1) := by decide +kernel
theorem dc_Mo_gathersCosts_13 : decode M_Mo_gathersCosts.2.1 13 = .ok (.iload_n 1, 1) := by decide +kernel
theorem dc_Mo_gathersCosts_14 : decode M_Mo_gathersCosts.2.1 14 = .ok (.if_icmp .ge 59, 3) := by decide +kernel
theorem dc_Mo_gathersCosts_17 : decode M_Mo_gathersCosts.2.1 17 = .ok (.iload_n 2, 1) := by decide +kernel
theorem dc_Mo_gathersCosts_18 : decode M_Mo_gathersCosts.2.1 18 = .ok (.iload_n 1, 1) := by decide +kernel
theorem dc_Mo_gathersCosts_19 : decode M_Mo_gathersCosts.2.1 19 = .ok (.invokestatic 80, 3) := by decide +kernel
theorem dc_Mo_gathersCosts_22 : decode M_Mo_gathersCosts.2.1 22 = .ok (.istore_n 3, 1) := by decide +kernel
theorem dc_Mo_gathersCosts_23 : decode M_Mo_gathersCosts.2.1 23 = .ok (.aload_n 0, 1) := by decide +kernel
theorem dc_Mo_gathersCosts_24 : decode M_Mo_gathersCosts.2.1 24 = .ok (.getfield 48, 3) := by decide +kernel
theorem dc_Mo_gathersCosts_27 : decode M_Mo_gathersCosts.2.1 27 = .ok (.iload_n 3, 1) := by decide +kernel
theorem dc_Mo_gathersCosts_28 : decode M_Mo_gathersCosts.2.1 28 = .ok (.aload_n 0, 1) := by decide +kernel
theorem dc_Mo_gathersCosts_29 : decode M_Mo_gathersCosts.2.1 29 = .ok (.getfield 26, 3) := by decide +kernel
theorem dc_Mo_gathersCosts_32 : decode M_Mo_gathersCosts.2.1 32 = .ok (.iload_n 3, 1) := by decide +kernel
theorem dc_Mo_gathersCosts_33 : decode M_Mo_gathersCosts.2.1 33 = .ok (.ishr, 1) := by decide +kernel
theorem dc_Mo_gathersCosts_34 : decode M_Mo_gathersCosts.2.1 34 = .ok (.iconst 1, 1) := by decide +kernel
theorem dc_Mo_gathersCosts_35 : decode M_Mo_gathersCosts.2.1 35 = .ok (.iand, 1) := by decide +kernel
theorem dc_Mo_gathersCosts_36 : decode M_Mo_gathersCosts.2.1 36 = .ok (.ifCond .ne 7, 3) := by decide +kernel
theorem dc_Mo_gathersCosts_39 : decode M_Mo_gathersCosts.2.1 39 = .ok (.iconst 0, 1) := by decide +kernel
theorem dc_Mo_gathersCosts_40 : decode M_Mo_gathersCosts.2.1 40 = .ok (.goto 26, 3) := by decide +kernel
theorem dc_Mo_gathersCosts_43 : decode M_Mo_gathersCosts.2.1 43 = .ok (.aload_n 0, 1) := by decide +kernel
theorem dc_Mo_gathersCosts_44 : decode M_Mo_gathersCosts.2.1 44 = .ok (.iconst 1, 1) := by decide +kernel
theorem dc_Mo_gathersCosts_45 : decode M_Mo_gathersCosts.2.1 45 = .ok (.iload_n 2, 1) := by decide +kernel
theorem dc_Mo_gathersCosts_46 : decode M_Mo_gathersCosts.2.1 46 = .ok (.iload_n 1, 1) := by decide +kernel
theorem dc_Mo_gathersCosts_47 : decode M_Mo_gathersCosts.2.1 47 = .ok (.iconst 0, 1) := by decide +kernel
theorem dc_Mo_gathersCosts_48 : decode M_Mo_gathersCosts.2.1 48 = .ok (.aload_n 0, 1) := by decide +kernel
theorem dc_Mo_gathersCosts_49 : decode M_Mo_gathersCosts.2.1 49 = .ok (.getfield 77, 3) := by decide +kernel
theorem dc_Mo_gathersCosts_52 : decode M_Mo_gathersCosts.2.1 52 = .ok (.iload_n 3, 1) := by decide +kernel
theorem dc_Mo_gathersCosts_53 : decode M_Mo_gathersCosts.2.1 53 = .ok (.ishr, 1) := by decide +kernel
theorem dc_Mo_gathersCosts_54 : decode M_Mo_gathersCosts.2.1 54 = .ok (.iconst 1, 1) := by decide +kernel
theorem dc_Mo_gathersCosts_55 : decode M_Mo_gathersCosts.2.1 55 = .ok (.iand, 1) := by decide +kernel
theorem dc_Mo_gathersCosts_56 : decode M_Mo_gathersCosts.2.1 56 = .ok (.iconst 1, 1) := by decide +kernel
theorem dc_Mo_gathersCosts_57 : decode M_Mo_gathersCosts.2.1 57 = .ok (.invokevirtual 248, 3) := by decide +kernel
theorem dc_Mo_gathersCosts_60 : decode M_Mo_gathersCosts.2.1 60 = .ok (.iconst 0, 1) := by decide +kernel
theorem dc_Mo_gathersCosts_61 : decode M_Mo_gathersCosts.2.1 61 = .ok (.bipush 99, 2) := by decide +kernel
theorem dc_Mo_gathersCosts_63 : decode M_Mo_gathersCosts.2.1 63 = .ok (.invokestatic 269, 3) := by decide +kernel
theorem dc_Mo_gathersCosts_66 : decode M_Mo_gathersCosts.2.1 66 = .ok (.iastore, 1) := by decide +kernel
theorem dc_Mo_gathersCosts_67 : decode M_Mo_gathersCosts.2.1 67 = .ok (.iinc 2 1, 3) := by decide +kernel
theorem dc_Mo_gathersCosts_70 : decode M_Mo_gathersCosts.2.1 70 = .ok (.goto (-58), 3) := by decide +kernel
theorem dc_Mo_gathersCosts_73 : decode M_Mo_gathersCosts.2.1 73 = .ok (.iinc 1 1, 3) := by decide +kernel
theorem dc_Mo_gathersCosts_76 : decode M_Mo_gathersCosts.2.1 76 = .ok (.goto (-74), 3) := by decide +kernel
theorem dc_Mo_gathersCosts_79 : decode M_Mo_gathersCosts.2.1 79 = .ok (.return_, 1) := by decide +kernel
def f_Mo_gathersCosts_L12 (a0 : Nat) (a1 : Int32) : Nat → Int32 → xH → (Int32 → xH → Option (Unit × xH)) → Option (Unit × xH)
  | 0, _, _, _ => none
  | n + 1, a2, h, K => if a1 ≤ a2 then K a2 h else Option.bind (f_Mo_seat a2 a1 h) (fun q11 => gd (hK q11.2 a0 = 11) (jn (fun (x13 : Int32 × xH) => gd (hK x13.2 (hR q11.2 a0 33) = 12) (gd (¬ (q11.1 < 0 ∨ hL x13.2 (hR q11.2 a0 33) ≤ q11.1.toNatClampNeg)) (f_Mo_gathersCosts_L12 a0 a1 n (a2 + (1 : Int32)) (hIu x13.2 (hR q11.2 a0 33) q11.1.toNatClampNeg x13.1) K))) (fun k14 => if ((jShr (hI q11.2 a0 9) q11.1) &&& (1 : Int32)) = 0 then k14 ((0 : Int32), q11.2) else Option.bind (f_Mo_says a0 (1 : Int32) a2 a1 (0 : Int32) ((jShr (hI q11.2 a0 8) q11.1) &&& (1 : Int32)) (1 : Int32) q11.2) (fun q18 => Option.bind (f_Mo_within q18.1 (0 : Int32) (99 : Int32) q18.2) (fun q19 => k14 (q19.1, q19.2))))))
def f_Mo_gathersCosts_L2 (a0 : Nat) : Nat → Int32 → xH → (Int32 → xH → Option (Unit × xH)) → Option (Unit × xH)
  | 0, _, _, _ => none
  | n + 1, a1, h, K => gd (hK h a0 = 11) (if (hI h a0 7) ≤ a1 then K a1 h else f_Mo_gathersCosts_L12 a0 a1 fu (0 : Int32) h (fun v20 h21 => f_Mo_gathersCosts_L2 a0 n (a1 + (1 : Int32)) h21 K))
def f_Mo_gathersCosts (a0 : Nat) (h : xH) : Option (Unit × xH) := f_Mo_gathersCosts_L2 a0 fu (1 : Int32) h (fun v22 h23 => some ((), h23))
theorem t_Mo_gathersCosts_L12 {l : Launch} {z : xZ} {d mc ms : Nat} {Ph : Option xV → xH → Prop} {a0 : Nat} {a1 : Int32}  (hd : 153 ≤ d) : ∀ (n : Nat) (a2 : Int32) (h : xH) (K : Int32 → xH → Option (Unit × xH)), OK (f_Mo_gathersCosts_L12 a0 a1 n a2 h K) (fun q => Ph (none) q.2) → (∀ (a2 : Int32) (h : xH), OK (K a2 h) (fun q => Ph (none) q.2) → Sx l z d mc ms M_Mo_gathersCosts 73 [some (xR a0), some (xI a1), some (xI a2), none] [] h Ph) → Sx l z d mc ms M_Mo_gathersCosts 12 [some (xR a0), some (xI a1), some (xI a2), none] [] h Ph := by
  intro n
  induction n with
  | zero => intro a2 h K hk hE; exact hk.no
  | succ n ih =>
    intro a2 h K hk hE
    rw [f_Mo_gathersCosts_L12] at hk
    refine sx_iload_n dc_Mo_gathersCosts_12 rfl ?_
    refine sx_iload_n dc_Mo_gathersCosts_13 rfl ?_
    refine sx_icmp_ge (tgt := 73) dc_Mo_gathersCosts_14 (by decide) (fun c10 => ?_) (fun c10 => ?_)
    · replace hk := hk.t c10
      exact hE a2 h hk
    · replace hk := hk.f c10
      refine sx_iload_n dc_Mo_gathersCosts_17 rfl ?_
      refine sx_iload_n dc_Mo_gathersCosts_18 rfl ?_
      obtain ⟨q11, eq11, hk⟩ := hk.bind
      refine sx_callS (d2 := d - 1) (mc2 := 0) (ms2 := 0) (as := [xI a2, xI a1]) mk_Mo_seat rfl wM_Mo_80 mt_Mo_seat rfl (Nat.le_of_ble_eq_true rfl) (Nat.le_of_ble_eq_true rfl) dc_Mo_gathersCosts_19 (by omega) (Nat.zero_le _) (Nat.zero_le _) ?_
      refine t_Mo_seat (by omega) ⟨q11, eq11, ?_⟩
      refine sx_eq0 (lc2 := [some (xR a0), some (xI a1), some (xI a2), none]) (st2 := [xI q11.1]) rfl rfl ?_
      refine sx_istore_n dc_Mo_gathersCosts_22 (by decide) (sx_eq (lc2 := [some (xR a0), some (xI a1), some (xI a2), some (xI q11.1)]) rfl rfl ?_)
      refine sx_aload_n dc_Mo_gathersCosts_23 rfl ?_
      obtain ⟨g12, hk⟩ := hk.g
      refine sx_get (ci := 11) (k := 33) rfl (by decide) wF_Mo_48 g12 dc_Mo_gathersCosts_24 ?_
      refine sx_iload_n dc_Mo_gathersCosts_27 rfl ?_
      refine sx_aload_n dc_Mo_gathersCosts_28 rfl ?_
      refine sx_get (ci := 11) (k := 9) rfl (by decide) wF_Mo_26 g12 dc_Mo_gathersCosts_29 ?_
      refine sx_iload_n dc_Mo_gathersCosts_32 rfl ?_
      refine sx_ishr dc_Mo_gathersCosts_33 ?_
      refine sx_iconst (v := (1 : Int32)) dc_Mo_gathersCosts_34 (by decide) ?_
      refine sx_iand dc_Mo_gathersCosts_35 ?_
      refine hk.j (X := fun x13 => Sx l z d mc ms M_Mo_gathersCosts 66 [some (xR a0), some (xI a1), some (xI a2), some (xI q11.1)] [xI x13.1, xI q11.1, xR (hR q11.2 a0 33)] x13.2 Ph) (fun x13 hk => ?_) (fun k14 jk14 hk => ?_)
      · obtain ⟨g15, hk⟩ := hk.g
        obtain ⟨g16, hk⟩ := hk.g
        refine sx_iast g15 g16 dc_Mo_gathersCosts_66 ?_
        refine sx_iinc (v := (1 : Int32)) dc_Mo_gathersCosts_67 rfl (by decide) (by decide) (sx_eq (lc2 := [some (xR a0), some (xI a1), some (xI (a2 + (1 : Int32))), some (xI q11.1)]) rfl rfl ?_)
        refine sx_goto (tgt := 12) dc_Mo_gathersCosts_70 (by decide) ?_
        exact sx_less (by simp [x_le]) (ih (a2 + (1 : Int32)) (hIu x13.2 (hR q11.2 a0 33) q11.1.toNatClampNeg x13.1) _ hk hE)
      · refine sx_if_ne (tgt := 43) dc_Mo_gathersCosts_36 (by decide) (fun c17 => ?_) (fun c17 => ?_)
        · replace hk := hk.f c17
          refine sx_aload_n dc_Mo_gathersCosts_43 rfl ?_
          refine sx_iconst (v := (1 : Int32)) dc_Mo_gathersCosts_44 (by decide) ?_
          refine sx_iload_n dc_Mo_gathersCosts_45 rfl ?_
          refine sx_iload_n dc_Mo_gathersCosts_46 rfl ?_
          refine sx_iconst (v := (0 : Int32)) dc_Mo_gathersCosts_47 (by decide) ?_
          refine sx_aload_n dc_Mo_gathersCosts_48 rfl ?_
          refine sx_get (ci := 11) (k := 8) rfl (by decide) wF_Mo_77 g12 dc_Mo_gathersCosts_49 ?_
          refine sx_iload_n dc_Mo_gathersCosts_52 rfl ?_
          refine sx_ishr dc_Mo_gathersCosts_53 ?_
          refine sx_iconst (v := (1 : Int32)) dc_Mo_gathersCosts_54 (by decide) ?_
          refine sx_iand dc_Mo_gathersCosts_55 ?_
          refine sx_iconst (v := (1 : Int32)) dc_Mo_gathersCosts_56 (by decide) ?_
          obtain ⟨q18, eq18, hk⟩ := hk.bind
          refine sx_callV (d2 := d - 1) (mc2 := 0) (ms2 := 0) (as := [xI (1 : Int32), xI a2, xI a1, xI (0 : Int32), xI ((jShr (hI q11.2 a0 8) q11.1) &&& (1 : Int32)), xI (1 : Int32)]) mk_Mo_says rfl (x_rk (ci := 11) g12 rfl rfl) wM_Mo_248 mi_Mo_says me_Mo_says rfl (Nat.le_of_ble_eq_true rfl) (Nat.le_of_ble_eq_true rfl) dc_Mo_gathersCosts_57 (by omega) (Nat.zero_le _) (Nat.zero_le _) ?_
          refine t_Mo_says (by omega) ⟨q18, eq18, ?_⟩
          refine sx_eq0 (lc2 := [some (xR a0), some (xI a1), some (xI a2), some (xI q11.1)]) (st2 := [xI q18.1, xI q11.1, xR (hR q11.2 a0 33)]) rfl rfl ?_
          refine sx_iconst (v := (0 : Int32)) dc_Mo_gathersCosts_60 (by decide) ?_
          refine sx_bipush (v := (99 : Int32)) dc_Mo_gathersCosts_61 (by decide) ?_
          obtain ⟨q19, eq19, hk⟩ := hk.bind
          refine sx_callS (d2 := d - 1) (mc2 := 0) (ms2 := 0) (as := [xI q18.1, xI (0 : Int32), xI (99 : Int32)]) mk_Mo_within rfl wM_Mo_269 mt_Mo_within rfl (Nat.le_of_ble_eq_true rfl) (Nat.le_of_ble_eq_true rfl) dc_Mo_gathersCosts_63 (by omega) (Nat.zero_le _) (Nat.zero_le _) ?_
          refine t_Mo_within (by omega) ⟨q19, eq19, ?_⟩
          refine sx_eq0 (lc2 := [some (xR a0), some (xI a1), some (xI a2), some (xI q11.1)]) (st2 := [xI q19.1, xI q11.1, xR (hR q11.2 a0 33)]) rfl rfl ?_
          exact jk14 (q19.1, q19.2) hk
        · replace hk := hk.t c17
          refine sx_iconst (v := (0 : Int32)) dc_Mo_gathersCosts_39 (by decide) ?_
          refine sx_goto (tgt := 66) dc_Mo_gathersCosts_40 (by decide) ?_
          exact jk14 ((0 : Int32), q11.2) hk
theorem t_Mo_gathersCosts_L2 {l : Launch} {z : xZ} {d mc ms : Nat} {Ph : Option xV → xH → Prop} {a0 : Nat}  (hd : 153 ≤ d) : ∀ (n : Nat) (a1 : Int32) (h : xH) (K : Int32 → xH → Option (Unit × xH)), OK (f_Mo_gathersCosts_L2 a0 n a1 h K) (fun q => Ph (none) q.2) → (∀ (a1 : Int32) (h : xH), OK (K a1 h) (fun q => Ph (none) q.2) → Sx l z d mc ms M_Mo_gathersCosts 79 [some (xR a0), some (xI a1), none, none] [] h Ph) → Sx l z d mc ms M_Mo_gathersCosts 2 [some (xR a0), some (xI a1), none, none] [] h Ph := by
  intro n
  induction n with
  | zero => intro a1 h K hk hE; exact hk.no
  | succ n ih =>
    intro a1 h K hk hE
    rw [f_Mo_gathersCosts_L2] at hk
    refine sx_iload_n dc_Mo_gathersCosts_2 rfl ?_
    refine sx_aload_n dc_Mo_gathersCosts_3 rfl ?_
    obtain ⟨g8, hk⟩ := hk.g
    refine sx_get (ci := 11) (k := 7) rfl (by decide) wF_Mo_23 g8 dc_Mo_gathersCosts_4 ?_
    refine sx_icmp_ge (tgt := 79) dc_Mo_gathersCosts_7 (by decide) (fun c9 => ?_) (fun c9 => ?_)
    · replace hk := hk.t c9
      exact hE a1 h hk
    · replace hk := hk.f c9
      refine sx_iconst (v := (0 : Int32)) dc_Mo_gathersCosts_10 (by decide) ?_
      refine sx_istore_n dc_Mo_gathersCosts_11 (by decide) (sx_eq (lc2 := [some (xR a0), some (xI a1), some (xI (0 : Int32)), none]) rfl rfl ?_)
      refine t_Mo_gathersCosts_L12 (by omega) _ _ _ _ hk (fun v20 h21 hk => ?_)
      refine sx_iinc (v := (1 : Int32)) dc_Mo_gathersCosts_73 rfl (by decide) (by decide) (sx_eq (lc2 := [some (xR a0), some (xI (a1 + (1 : Int32))), some (xI v20), none]) rfl rfl ?_)
      refine sx_goto (tgt := 2) dc_Mo_gathersCosts_76 (by decide) ?_
      exact sx_less (by simp [x_le]) (ih (a1 + (1 : Int32)) h21 _ hk hE)
theorem t_Mo_gathersCosts {l : Launch} {z : xZ} {d mc ms : Nat} {Ph : Option xV → xH → Prop} {a0 : Nat}  {h : xH} (hd : 153 ≤ d) (hk : OK (f_Mo_gathersCosts a0 h) (fun q => Ph (none) q.2)) : Sx l z d mc ms M_Mo_gathersCosts 0 (x_en [xR a0] 4) [] h Ph := by
  unfold f_Mo_gathersCosts at hk
  refine sx_eq (lc2 := [some (xR a0), none, none, none]) rfl rfl ?_
  refine sx_iconst (v := (1 : Int32)) dc_Mo_gathersCosts_0 (by decide) ?_
  refine sx_istore_n dc_Mo_gathersCosts_1 (by decide) (sx_eq (lc2 := [some (xR a0), some (xI (1 : Int32)), none, none]) rfl rfl ?_)
  refine t_Mo_gathersCosts_L2 (by omega) _ _ _ _ hk (fun v22 h23 hk => ?_)
  exact sx_retV dc_Mo_gathersCosts_79 rfl hk.val

theorem dc_Mo_half_0 : decode M_Mo_half.2.1 0 = .ok (.iload_n 1, 1) := by decide +kernel
theorem dc_Mo_half_1 : decode M_Mo_half.2.1 1 = .ok (.i2l, 1) := by decide +kernel
theorem dc_Mo_half_2 : decode M_Mo_half.2.1 2 = .ok (.lconst 0, 1) := by decide +kernel
theorem dc_Mo_half_3 : decode M_Mo_half.2.1 3 = .ok (.lconst 1, 1) := by decide +kernel
theorem dc_Mo_half_4 : decode M_Mo_half.2.1 4 = .ok (.invokestatic 73, 3) := by decide +kernel
theorem dc_Mo_half_7 : decode M_Mo_half.2.1 7 = .ok (.ifCond .ne 6, 3) := by decide +kernel
theorem dc_Mo_half_10 : decode M_Mo_half.2.1 10 = .ok (.bipush (-2), 2) := by decide +kernel
theorem dc_Mo_half_12 : decode M_Mo_half.2.1 12 = .ok (.ireturn, 1) := by decide +kernel
theorem dc_Mo_half_13 : decode M_Mo_half.2.1 13 = .ok (.aload_n 0, 1) := by decide +kernel
theorem dc_Mo_half_14 : decode M_Mo_half.2.1 14 = .ok (.invokevirtual 304, 3) := by decide +kernel
theorem dc_Mo_half_17 : decode M_Mo_half.2.1 17 = .ok (.invokestatic 117, 3) := by decide +kernel
theorem dc_Mo_half_20 : decode M_Mo_half.2.1 20 = .ok (.bipush 10, 2) := by decide +kernel
theorem dc_Mo_half_22 : decode M_Mo_half.2.1 22 = .ok (.if_icmp .le 6, 3) := by decide +kernel
theorem dc_Mo_half_25 : decode M_Mo_half.2.1 25 = .ok (.bipush (-3), 2) := by decide +kernel
theorem dc_Mo_half_27 : decode M_Mo_half.2.1 27 = .ok (.ireturn, 1) := by decide +kernel
theorem dc_Mo_half_28 : decode M_Mo_half.2.1 28 = .ok (.aload_n 0, 1) := by decide +kernel
theorem dc_Mo_half_29 : decode M_Mo_half.2.1 29 = .ok (.invokevirtual 310, 3) := by decide +kernel
theorem dc_Mo_half_32 : decode M_Mo_half.2.1 32 = .ok (.istore_n 2, 1) := by decide +kernel
theorem dc_Mo_half_33 : decode M_Mo_half.2.1 33 = .ok (.iload_n 1, 1) := by decide +kernel
theorem dc_Mo_half_34 : decode M_Mo_half.2.1 34 = .ok (.ifCond .ne 7, 3) := by decide +kernel
theorem dc_Mo_half_37 : decode M_Mo_half.2.1 37 = .ok (.iload_n 2, 1) := by decide +kernel
theorem dc_Mo_half_38 : decode M_Mo_half.2.1 38 = .ok (.goto 7, 3) := by decide +kernel
theorem dc_Mo_half_41 : decode M_Mo_half.2.1 41 = .ok (.aload_n 0, 1) := by decide +kernel
theorem dc_Mo_half_42 : decode M_Mo_half.2.1 42 = .ok (.getfield 307, 3) := by decide +kernel
theorem dc_Mo_half_45 : decode M_Mo_half.2.1 45 = .ok (.ireturn, 1) := by decide +kernel
def f_Mo_half (a0 : Nat) (a1 : Int32) (h : xH) : Option (Int32 × xH) := Option.bind (f_Mo_in a1.toInt64 (0 : Int64) (1 : Int64) h) (fun q8 => if q8.1 = 0 then some ((-2 : Int32), q8.2) else gd (hK q8.2 a0 = 11) (Option.bind (f_Mo_unseen a0 q8.2) (fun q10 => Option.bind (f_Mo_bitsOf q10.1 q10.2) (fun q12 => if q12.1 ≤ (10 : Int32) then gd (hK q12.2 a0 = 11) (Option.bind (f_Mo_waysWithout a0 q12.2) (fun q14 => jn (fun (x16 : Int32) => some (x16, q14.2)) (fun k17 => if a1 = 0 then k17 q14.1 else gd (hK q14.2 a0 = 11) (k17 (hI q14.2 a0 36))))) else some ((-3 : Int32), q12.2)))))
theorem t_Mo_half {l : Launch} {z : xZ} {d mc ms : Nat} {Ph : Option xV → xH → Prop} {a0 : Nat} {a1 : Int32}  {h : xH} (hd : 155 ≤ d) (hk : OK (f_Mo_half a0 a1 h) (fun q => Ph (some (xI q.1)) q.2)) : Sx l z d mc ms M_Mo_half 0 (x_en [xR a0, xI a1] 3) [] h Ph := by
  unfold f_Mo_half at hk
  refine sx_eq (lc2 := [some (xR a0), some (xI a1), none]) rfl rfl ?_
  refine sx_iload_n dc_Mo_half_0 rfl ?_
  refine sx_i2l dc_Mo_half_1 ?_
  refine sx_lconst (v := 0) dc_Mo_half_2 (by decide) ?_
  refine sx_lconst (v := 1) dc_Mo_half_3 (by decide) ?_
  obtain ⟨q8, eq8, hk⟩ := hk.bind
  refine sx_callS (d2 := d - 1) (mc2 := 0) (ms2 := 0) (as := [xJ a1.toInt64, xJ (0 : Int64), xJ (1 : Int64)]) mk_Mo_in rfl wM_Mo_73 mt_Mo_in rfl (Nat.le_of_ble_eq_true rfl) (Nat.le_of_ble_eq_true rfl) dc_Mo_half_4 (by omega) (Nat.zero_le _) (Nat.zero_le _) ?_
  refine t_Mo_in (by omega) ⟨q8, eq8, ?_⟩
  refine sx_eq0 (lc2 := [some (xR a0), some (xI a1), none]) (st2 := [xI q8.1]) rfl rfl ?_
  refine sx_if_ne (tgt := 13) dc_Mo_half_7 (by decide) (fun c9 => ?_) (fun c9 => ?_)
  · replace hk := hk.f c9
    refine sx_aload_n dc_Mo_half_13 rfl ?_
    obtain ⟨g11, hk⟩ := hk.g
    obtain ⟨q10, eq10, hk⟩ := hk.bind
    refine sx_callV (d2 := d - 1) (mc2 := 0) (ms2 := 0) (as := []) mk_Mo_unseen rfl (x_rk (ci := 11) g11 rfl rfl) wM_Mo_304 mi_Mo_unseen me_Mo_unseen rfl (Nat.le_of_ble_eq_true rfl) (Nat.le_of_ble_eq_true rfl) dc_Mo_half_14 (by omega) (Nat.zero_le _) (Nat.zero_le _) ?_
    refine t_Mo_unseen (by omega) ⟨q10, eq10, ?_⟩
    refine sx_eq0 (lc2 := [some (xR a0), some (xI a1), none]) (st2 := [xI q10.1]) rfl rfl ?_
    obtain ⟨q12, eq12, hk⟩ := hk.bind
    refine sx_callS (d2 := d - 1) (mc2 := 0) (ms2 := 0) (as := [xI q10.1]) mk_Mo_bitsOf rfl wM_Mo_117 mt_Mo_bitsOf rfl (Nat.le_of_ble_eq_true rfl) (Nat.le_of_ble_eq_true rfl) dc_Mo_half_17 (by omega) (Nat.zero_le _) (Nat.zero_le _) ?_
    refine t_Mo_bitsOf (by omega) ⟨q12, eq12, ?_⟩
    refine sx_eq0 (lc2 := [some (xR a0), some (xI a1), none]) (st2 := [xI q12.1]) rfl rfl ?_
    refine sx_bipush (v := (10 : Int32)) dc_Mo_half_20 (by decide) ?_
    refine sx_icmp_le (tgt := 28) dc_Mo_half_22 (by decide) (fun c13 => ?_) (fun c13 => ?_)
    · replace hk := hk.t c13
      refine sx_aload_n dc_Mo_half_28 rfl ?_
      obtain ⟨g15, hk⟩ := hk.g
      obtain ⟨q14, eq14, hk⟩ := hk.bind
      refine sx_callV (d2 := d - 1) (mc2 := 0) (ms2 := 0) (as := []) mk_Mo_waysWithout rfl (x_rk (ci := 11) g15 rfl rfl) wM_Mo_310 mi_Mo_waysWithout me_Mo_waysWithout rfl (Nat.le_of_ble_eq_true rfl) (Nat.le_of_ble_eq_true rfl) dc_Mo_half_29 (by omega) (Nat.zero_le _) (Nat.zero_le _) ?_
      refine t_Mo_waysWithout (by omega) ⟨q14, eq14, ?_⟩
      refine sx_eq0 (lc2 := [some (xR a0), some (xI a1), none]) (st2 := [xI q14.1]) rfl rfl ?_
      refine sx_istore_n dc_Mo_half_32 (by decide) (sx_eq (lc2 := [some (xR a0), some (xI a1), some (xI q14.1)]) rfl rfl ?_)
      refine sx_iload_n dc_Mo_half_33 rfl ?_
      refine hk.j (X := fun x16 => Sx l z d mc ms M_Mo_half 45 [some (xR a0), some (xI a1), some (xI q14.1)] [xI x16] q14.2 Ph) (fun x16 hk => ?_) (fun k17 jk17 hk => ?_)
      · exact sx_retI dc_Mo_half_45 rfl hk.val
      · refine sx_if_ne (tgt := 41) dc_Mo_half_34 (by decide) (fun c18 => ?_) (fun c18 => ?_)
        · replace hk := hk.f c18
          refine sx_aload_n dc_Mo_half_41 rfl ?_
          obtain ⟨g19, hk⟩ := hk.g
          refine sx_get (ci := 11) (k := 36) rfl (by decide) wF_Mo_307 g19 dc_Mo_half_42 ?_
          exact jk17 (hI q14.2 a0 36) hk
        · replace hk := hk.t c18
          refine sx_iload_n dc_Mo_half_37 rfl ?_
          refine sx_goto (tgt := 45) dc_Mo_half_38 (by decide) ?_
          exact jk17 q14.1 hk
    · replace hk := hk.f c13
      refine sx_bipush (v := (-3 : Int32)) dc_Mo_half_25 (by decide) ?_
      exact sx_retI dc_Mo_half_27 rfl hk.val
  · replace hk := hk.t c9
    refine sx_bipush (v := (-2 : Int32)) dc_Mo_half_10 (by decide) ?_
    exact sx_retI dc_Mo_half_12 rfl hk.val
theorem dc_Mo_chance_0 : decode M_Mo_chance.2.1 0 = .ok (.iload_n 1, 1) := by decide +kernel
theorem dc_Mo_chance_1 : decode M_Mo_chance.2.1 1 = .ok (.i2l, 1) := by decide +kernel
theorem dc_Mo_chance_2 : decode M_Mo_chance.2.1 2 = .ok (.lconst 0, 1) := by decide +kernel
theorem dc_Mo_chance_3 : decode M_Mo_chance.2.1 3 = .ok (.lconst 1, 1) := by decide +kernel
theorem dc_Mo_chance_4 : decode M_Mo_chance.2.1 4 = .ok (.invokestatic 73, 3) := by decide +kernel
theorem dc_Mo_chance_7 : decode M_Mo_chance.2.1 7 = .ok (.ifCond .eq 15, 3) := by decide +kernel
theorem dc_Mo_chance_10 : decode M_Mo_chance.2.1 10 = .ok (.aload_n 0, 1) := by decide +kernel
theorem dc_Mo_chance_11 : decode M_Mo_chance.2.1 11 = .ok (.invokevirtual 304, 3) := by decide +kernel
theorem dc_Mo_chance_14 : decode M_Mo_chance.2.1 14 = .ok (.invokestatic 117, 3) := by decide +kernel
theorem dc_Mo_chance_17 : decode M_Mo_chance.2.1 17 = .ok (.bipush 10, 2) := by decide +kernel
theorem dc_Mo_chance_19 : decode M_Mo_chance.2.1 19 = .ok (.if_icmp .le 7, 3) := by decide +kernel
theorem dc_Mo_chance_22 : decode M_Mo_chance.2.1 22 = .ok (.ldc2_w 313, 3) := by decide +kernel
theorem dc_Mo_chance_25 : decode M_Mo_chance.2.1 25 = .ok (.lreturn, 1) := by decide +kernel
theorem dc_Mo_chance_26 : decode M_Mo_chance.2.1 26 = .ok (.lconst 1, 1) := by decide +kernel
theorem dc_Mo_chance_27 : decode M_Mo_chance.2.1 27 = .ok (.aload_n 0, 1) := by decide +kernel
theorem dc_Mo_chance_28 : decode M_Mo_chance.2.1 28 = .ok (.invokevirtual 304, 3) := by decide +kernel
theorem dc_Mo_chance_31 : decode M_Mo_chance.2.1 31 = .ok (.invokestatic 117, 3) := by decide +kernel
theorem dc_Mo_chance_34 : decode M_Mo_chance.2.1 34 = .ok (.lshl, 1) := by decide +kernel
theorem dc_Mo_chance_35 : decode M_Mo_chance.2.1 35 = .ok (.lstore_n 2, 1) := by decide +kernel
theorem dc_Mo_chance_36 : decode M_Mo_chance.2.1 36 = .ok (.lload_n 2, 1) := by decide +kernel
theorem dc_Mo_chance_37 : decode M_Mo_chance.2.1 37 = .ok (.aload_n 0, 1) := by decide +kernel
theorem dc_Mo_chance_38 : decode M_Mo_chance.2.1 38 = .ok (.invokevirtual 310, 3) := by decide +kernel
theorem dc_Mo_chance_41 : decode M_Mo_chance.2.1 41 = .ok (.i2l, 1) := by decide +kernel
theorem dc_Mo_chance_42 : decode M_Mo_chance.2.1 42 = .ok (.lsub, 1) := by decide +kernel
theorem dc_Mo_chance_43 : decode M_Mo_chance.2.1 43 = .ok (.lstore 4, 2) := by decide +kernel
theorem dc_Mo_chance_45 : decode M_Mo_chance.2.1 45 = .ok (.lload 4, 2) := by decide +kernel
theorem dc_Mo_chance_47 : decode M_Mo_chance.2.1 47 = .ok (.lstore 6, 2) := by decide +kernel
theorem dc_Mo_chance_49 : decode M_Mo_chance.2.1 49 = .ok (.lload_n 2, 1) := by decide +kernel
theorem dc_Mo_chance_50 : decode M_Mo_chance.2.1 50 = .ok (.lstore 8, 2) := by decide +kernel
theorem dc_Mo_chance_52 : decode M_Mo_chance.2.1 52 = .ok (.lload 8, 2) := by decide +kernel
theorem dc_Mo_chance_54 : decode M_Mo_chance.2.1 54 = .ok (.lconst 0, 1) := by decide +kernel
theorem dc_Mo_chance_55 : decode M_Mo_chance.2.1 55 = .ok (.lcmp, 1) := by decide +kernel
theorem dc_Mo_chance_56 : decode M_Mo_chance.2.1 56 = .ok (.ifCond .eq 21, 3) := by decide +kernel
theorem dc_Mo_chance_59 : decode M_Mo_chance.2.1 59 = .ok (.lload 6, 2) := by decide +kernel
theorem dc_Mo_chance_61 : decode M_Mo_chance.2.1 61 = .ok (.lload 8, 2) := by decide +kernel
theorem dc_Mo_chance_63 : decode M_Mo_chance.2.1 63 = .ok (.lrem, 1) := by decide +kernel
theorem dc_Mo_chance_64 : decode M_Mo_chance.2.1 64 = .ok (.lstore 10, 2) := by decide +kernel
theorem dc_Mo_chance_66 : decode M_Mo_chance.2.1 66 = .ok (.lload 8, 2) := by decide +kernel
theorem dc_Mo_chance_68 : decode M_Mo_chance.2.1 68 = .ok (.lstore 6, 2) := by decide +kernel
theorem dc_Mo_chance_70 : decode M_Mo_chance.2.1 70 = .ok (.lload 10, 2) := by decide +kernel
theorem dc_Mo_chance_72 : decode M_Mo_chance.2.1 72 = .ok (.lstore 8, 2) := by decide +kernel
theorem dc_Mo_chance_74 : decode M_Mo_chance.2.1 74 = .ok (.goto (-22), 3) := by decide +kernel
theorem dc_Mo_chance_77 : decode M_Mo_chance.2.1 77 = .ok (.iload_n 1, 1) := by decide +kernel
theorem dc_Mo_chance_78 : decode M_Mo_chance.2.1 78 = .ok (.ifCond .ne 11, 3) := by decide +kernel
theorem dc_Mo_chance_81 : decode M_Mo_chance.2.1 81 = .ok (.lload 4, 2) := by decide +kernel
theorem dc_Mo_chance_83 : decode M_Mo_chance.2.1 83 = .ok (.lload 6, 2) := by decide +kernel
theorem dc_Mo_chance_85 : decode M_Mo_chance.2.1 85 = .ok (.ldiv, 1) := by decide +kernel
theorem dc_Mo_chance_86 : decode M_Mo_chance.2.1 86 = .ok (.goto 7, 3) := by decide +kernel
theorem dc_Mo_chance_89 : decode M_Mo_chance.2.1 89 = .ok (.lload_n 2, 1) := by decide +kernel
theorem dc_Mo_chance_90 : decode M_Mo_chance.2.1 90 = .ok (.lload 6, 2) := by decide +kernel
theorem dc_Mo_chance_92 : decode M_Mo_chance.2.1 92 = .ok (.ldiv, 1) := by decide +kernel
theorem dc_Mo_chance_93 : decode M_Mo_chance.2.1 93 = .ok (.lreturn, 1) := by decide +kernel
def f_Mo_chance_L52 (a0 : Nat) (a1 : Int32) (a2 : Int64) (a4 : Int64) : Nat → Int64 → Int64 → xH → (Int64 → Int64 → xH → Option (Int64 × xH)) → Option (Int64 × xH)
  | 0, _, _, _, _ => none
  | n + 1, a6, a8, h, K => if (jCmpL a8 (0 : Int64)) = 0 then K a6 a8 h else gd (¬ a8 = 0) (f_Mo_chance_L52 a0 a1 a2 a4 n a8 (jRemL a6 a8) h K)
def f_Mo_chance (a0 : Nat) (a1 : Int32) (h : xH) : Option (Int64 × xH) := Option.bind (f_Mo_in a1.toInt64 (0 : Int64) (1 : Int64) h) (fun q13 => jn (fun (x14 : xH) => some ((-4611686018427387904 : Int64), x14)) (fun k15 => if q13.1 = 0 then k15 q13.2 else gd (hK q13.2 a0 = 11) (Option.bind (f_Mo_unseen a0 q13.2) (fun q17 => Option.bind (f_Mo_bitsOf q17.1 q17.2) (fun q19 => if q19.1 ≤ (10 : Int32) then gd (hK q19.2 a0 = 11) (Option.bind (f_Mo_unseen a0 q19.2) (fun q21 => Option.bind (f_Mo_bitsOf q21.1 q21.2) (fun q23 => gd (hK q23.2 a0 = 11) (Option.bind (f_Mo_waysWithout a0 q23.2) (fun q24 => f_Mo_chance_L52 a0 a1 (jShlL (1 : Int64) q23.1) ((jShlL (1 : Int64) q23.1) - q24.1.toInt64) fu ((jShlL (1 : Int64) q23.1) - q24.1.toInt64) (jShlL (1 : Int64) q23.1) q24.2 (fun v28 v29 h30 => jn (fun (x31 : Int64) => some (x31, h30)) (fun k32 => if a1 = 0 then gd (¬ v28 = 0) (k32 (((jShlL (1 : Int64) q23.1) - q24.1.toInt64) / v28)) else gd (¬ v28 = 0) (k32 ((jShlL (1 : Int64) q23.1) / v28))))))))) else k15 q19.2)))))
theorem t_Mo_chance_L52 {l : Launch} {z : xZ} {d mc ms : Nat} {Ph : Option xV → xH → Prop} {a0 : Nat} {a1 : Int32} {a2 : Int64} {a4 : Int64}  (hd : 1 ≤ d) : ∀ (n : Nat) (a6 : Int64) (a8 : Int64) (h : xH) (K : Int64 → Int64 → xH → Option (Int64 × xH)), OK (f_Mo_chance_L52 a0 a1 a2 a4 n a6 a8 h K) (fun q => Ph (some (xJ q.1)) q.2) → (∀ (a6 : Int64) (a8 : Int64) (h : xH), OK (K a6 a8 h) (fun q => Ph (some (xJ q.1)) q.2) → Sx l z d mc ms M_Mo_chance 77 [some (xR a0), some (xI a1), some (xJ a2), none, some (xJ a4), none, some (xJ a6), none, some (xJ a8), none, none, none] [] h Ph) → Sx l z d mc ms M_Mo_chance 52 [some (xR a0), some (xI a1), some (xJ a2), none, some (xJ a4), none, some (xJ a6), none, some (xJ a8), none, none, none] [] h Ph := by
  intro n
  induction n with
  | zero => intro a6 a8 h K hk hE; exact hk.no
  | succ n ih =>
    intro a6 a8 h K hk hE
    rw [f_Mo_chance_L52] at hk
    refine sx_lload dc_Mo_chance_52 rfl ?_
    refine sx_lconst (v := 0) dc_Mo_chance_54 (by decide) ?_
    refine sx_lcmp dc_Mo_chance_55 ?_
    refine sx_if_eq (tgt := 77) dc_Mo_chance_56 (by decide) (fun c26 => ?_) (fun c26 => ?_)
    · replace hk := hk.t c26
      exact hE a6 a8 h hk
    · replace hk := hk.f c26
      refine sx_lload dc_Mo_chance_59 rfl ?_
      refine sx_lload dc_Mo_chance_61 rfl ?_
      obtain ⟨g27, hk⟩ := hk.g
      refine sx_lrem dc_Mo_chance_63 g27 ?_
      refine sx_lstore dc_Mo_chance_64 (by decide) (sx_eq (lc2 := [some (xR a0), some (xI a1), some (xJ a2), none, some (xJ a4), none, some (xJ a6), none, some (xJ a8), none, some (xJ (jRemL a6 a8)), none]) rfl rfl ?_)
      refine sx_lload dc_Mo_chance_66 rfl ?_
      refine sx_lstore dc_Mo_chance_68 (by decide) (sx_eq (lc2 := [some (xR a0), some (xI a1), some (xJ a2), none, some (xJ a4), none, some (xJ a8), none, some (xJ a8), none, some (xJ (jRemL a6 a8)), none]) rfl rfl ?_)
      refine sx_lload dc_Mo_chance_70 rfl ?_
      refine sx_lstore dc_Mo_chance_72 (by decide) (sx_eq (lc2 := [some (xR a0), some (xI a1), some (xJ a2), none, some (xJ a4), none, some (xJ a8), none, some (xJ (jRemL a6 a8)), none, some (xJ (jRemL a6 a8)), none]) rfl rfl ?_)
      refine sx_goto (tgt := 52) dc_Mo_chance_74 (by decide) ?_
      exact sx_less (by simp [x_le]) (ih a8 (jRemL a6 a8) h _ hk hE)
theorem t_Mo_chance {l : Launch} {z : xZ} {d mc ms : Nat} {Ph : Option xV → xH → Prop} {a0 : Nat} {a1 : Int32}  {h : xH} (hd : 155 ≤ d) (hk : OK (f_Mo_chance a0 a1 h) (fun q => Ph (some (xJ q.1)) q.2)) : Sx l z d mc ms M_Mo_chance 0 (x_en [xR a0, xI a1] 12) [] h Ph := by
  unfold f_Mo_chance at hk
  refine sx_eq (lc2 := [some (xR a0), some (xI a1), none, none, none, none, none, none, none, none, none, none]) rfl rfl ?_
  refine sx_iload_n dc_Mo_chance_0 rfl ?_
  refine sx_i2l dc_Mo_chance_1 ?_
  refine sx_lconst (v := 0) dc_Mo_chance_2 (by decide) ?_
  refine sx_lconst (v := 1) dc_Mo_chance_3 (by decide) ?_
  obtain ⟨q13, eq13, hk⟩ := hk.bind
  refine sx_callS (d2 := d - 1) (mc2 := 0) (ms2 := 0) (as := [xJ a1.toInt64, xJ (0 : Int64), xJ (1 : Int64)]) mk_Mo_in rfl wM_Mo_73 mt_Mo_in rfl (Nat.le_of_ble_eq_true rfl) (Nat.le_of_ble_eq_true rfl) dc_Mo_chance_4 (by omega) (Nat.zero_le _) (Nat.zero_le _) ?_
  refine t_Mo_in (by omega) ⟨q13, eq13, ?_⟩
  refine sx_eq0 (lc2 := [some (xR a0), some (xI a1), none, none, none, none, none, none, none, none, none, none]) (st2 := [xI q13.1]) rfl rfl ?_
  refine hk.j (X := fun x14 => Sx l z d mc ms M_Mo_chance 22 [some (xR a0), some (xI a1), none, none, none, none, none, none, none, none, none, none] [] x14 Ph) (fun x14 hk => ?_) (fun k15 jk15 hk => ?_)
  · refine sx_ldc2 (v := (-4611686018427387904)) wJ_Mo_313 dc_Mo_chance_22 ?_
    exact sx_retJ dc_Mo_chance_25 rfl hk.val
  · refine sx_if_eq (tgt := 22) dc_Mo_chance_7 (by decide) (fun c16 => ?_) (fun c16 => ?_)
    · replace hk := hk.t c16
      exact jk15 q13.2 hk
    · replace hk := hk.f c16
      refine sx_aload_n dc_Mo_chance_10 rfl ?_
      obtain ⟨g18, hk⟩ := hk.g
      obtain ⟨q17, eq17, hk⟩ := hk.bind
      refine sx_callV (d2 := d - 1) (mc2 := 0) (ms2 := 0) (as := []) mk_Mo_unseen rfl (x_rk (ci := 11) g18 rfl rfl) wM_Mo_304 mi_Mo_unseen me_Mo_unseen rfl (Nat.le_of_ble_eq_true rfl) (Nat.le_of_ble_eq_true rfl) dc_Mo_chance_11 (by omega) (Nat.zero_le _) (Nat.zero_le _) ?_
      refine t_Mo_unseen (by omega) ⟨q17, eq17, ?_⟩
      refine sx_eq0 (lc2 := [some (xR a0), some (xI a1), none, none, none, none, none, none, none, none, none, none]) (st2 := [xI q17.1]) rfl rfl ?_
      obtain ⟨q19, eq19, hk⟩ := hk.bind
      refine sx_callS (d2 := d - 1) (mc2 := 0) (ms2 := 0) (as := [xI q17.1]) mk_Mo_bitsOf rfl wM_Mo_117 mt_Mo_bitsOf rfl (Nat.le_of_ble_eq_true rfl) (Nat.le_of_ble_eq_true rfl) dc_Mo_chance_14 (by omega) (Nat.zero_le _) (Nat.zero_le _) ?_
      refine t_Mo_bitsOf (by omega) ⟨q19, eq19, ?_⟩
      refine sx_eq0 (lc2 := [some (xR a0), some (xI a1), none, none, none, none, none, none, none, none, none, none]) (st2 := [xI q19.1]) rfl rfl ?_
      refine sx_bipush (v := (10 : Int32)) dc_Mo_chance_17 (by decide) ?_
      refine sx_icmp_le (tgt := 26) dc_Mo_chance_19 (by decide) (fun c20 => ?_) (fun c20 => ?_)
      · replace hk := hk.t c20
        refine sx_lconst (v := 1) dc_Mo_chance_26 (by decide) ?_
        refine sx_aload_n dc_Mo_chance_27 rfl ?_
        obtain ⟨g22, hk⟩ := hk.g
        obtain ⟨q21, eq21, hk⟩ := hk.bind
        refine sx_callV (d2 := d - 1) (mc2 := 0) (ms2 := 0) (as := []) mk_Mo_unseen rfl (x_rk (ci := 11) g22 rfl rfl) wM_Mo_304 mi_Mo_unseen me_Mo_unseen rfl (Nat.le_of_ble_eq_true rfl) (Nat.le_of_ble_eq_true rfl) dc_Mo_chance_28 (by omega) (Nat.zero_le _) (Nat.zero_le _) ?_
        refine t_Mo_unseen (by omega) ⟨q21, eq21, ?_⟩
        refine sx_eq0 (lc2 := [some (xR a0), some (xI a1), none, none, none, none, none, none, none, none, none, none]) (st2 := [xI q21.1, xJ (1 : Int64)]) rfl rfl ?_
        obtain ⟨q23, eq23, hk⟩ := hk.bind
        refine sx_callS (d2 := d - 1) (mc2 := 0) (ms2 := 0) (as := [xI q21.1]) mk_Mo_bitsOf rfl wM_Mo_117 mt_Mo_bitsOf rfl (Nat.le_of_ble_eq_true rfl) (Nat.le_of_ble_eq_true rfl) dc_Mo_chance_31 (by omega) (Nat.zero_le _) (Nat.zero_le _) ?_
        refine t_Mo_bitsOf (by omega) ⟨q23, eq23, ?_⟩
        refine sx_eq0 (lc2 := [some (xR a0), some (xI a1), none, none, none, none, none, none, none, none, none, none]) (st2 := [xI q23.1, xJ (1 : Int64)]) rfl rfl ?_
        refine sx_lshl dc_Mo_chance_34 ?_
        refine sx_lstore_n dc_Mo_chance_35 (by decide) (sx_eq (lc2 := [some (xR a0), some (xI a1), some (xJ (jShlL (1 : Int64) q23.1)), none, none, none, none, none, none, none, none, none]) rfl rfl ?_)
        refine sx_lload_n dc_Mo_chance_36 rfl ?_
        refine sx_aload_n dc_Mo_chance_37 rfl ?_
        obtain ⟨g25, hk⟩ := hk.g
        obtain ⟨q24, eq24, hk⟩ := hk.bind
        refine sx_callV (d2 := d - 1) (mc2 := 0) (ms2 := 0) (as := []) mk_Mo_waysWithout rfl (x_rk (ci := 11) g25 rfl rfl) wM_Mo_310 mi_Mo_waysWithout me_Mo_waysWithout rfl (Nat.le_of_ble_eq_true rfl) (Nat.le_of_ble_eq_true rfl) dc_Mo_chance_38 (by omega) (Nat.zero_le _) (Nat.zero_le _) ?_
        refine t_Mo_waysWithout (by omega) ⟨q24, eq24, ?_⟩
        refine sx_eq0 (lc2 := [some (xR a0), some (xI a1), some (xJ (jShlL (1 : Int64) q23.1)), none, none, none, none, none, none, none, none, none]) (st2 := [xI q24.1, xJ (jShlL (1 : Int64) q23.1)]) rfl rfl ?_
        refine sx_i2l dc_Mo_chance_41 ?_
        refine sx_lsub dc_Mo_chance_42 ?_
        refine sx_lstore dc_Mo_chance_43 (by decide) (sx_eq (lc2 := [some (xR a0), some (xI a1), some (xJ (jShlL (1 : Int64) q23.1)), none, some (xJ ((jShlL (1 : Int64) q23.1) - q24.1.toInt64)), none, none, none, none, none, none, none]) rfl rfl ?_)
        refine sx_lload dc_Mo_chance_45 rfl ?_
        refine sx_lstore dc_Mo_chance_47 (by decide) (sx_eq (lc2 := [some (xR a0), some (xI a1), some (xJ (jShlL (1 : Int64) q23.1)), none, some (xJ ((jShlL (1 : Int64) q23.1) - q24.1.toInt64)), none, some (xJ ((jShlL (1 : Int64) q23.1) - q24.1.toInt64)), none, none, none, none, none]) rfl rfl ?_)
        refine sx_lload_n dc_Mo_chance_49 rfl ?_
        refine sx_lstore dc_Mo_chance_50 (by decide) (sx_eq (lc2 := [some (xR a0), some (xI a1), some (xJ (jShlL (1 : Int64) q23.1)), none, some (xJ ((jShlL (1 : Int64) q23.1) - q24.1.toInt64)), none, some (xJ ((jShlL (1 : Int64) q23.1) - q24.1.toInt64)), none, some (xJ (jShlL (1 : Int64) q23.1)), none, none, none]) rfl rfl ?_)
        refine t_Mo_chance_L52 (by omega) _ _ _ _ _ hk (fun v28 v29 h30 hk => ?_)
        refine sx_iload_n dc_Mo_chance_77 rfl ?_
        refine hk.j (X := fun x31 => Sx l z d mc ms M_Mo_chance 93 [some (xR a0), some (xI a1), some (xJ (jShlL (1 : Int64) q23.1)), none, some (xJ ((jShlL (1 : Int64) q23.1) - q24.1.toInt64)), none, some (xJ v28), none, some (xJ v29), none, none, none] [xJ x31] h30 Ph) (fun x31 hk => ?_) (fun k32 jk32 hk => ?_)
        · exact sx_retJ dc_Mo_chance_93 rfl hk.val
        · refine sx_if_ne (tgt := 89) dc_Mo_chance_78 (by decide) (fun c33 => ?_) (fun c33 => ?_)
          · replace hk := hk.f c33
            refine sx_lload_n dc_Mo_chance_89 rfl ?_
            refine sx_lload dc_Mo_chance_90 rfl ?_
            obtain ⟨g34, hk⟩ := hk.g
            refine sx_ldiv dc_Mo_chance_92 g34 ?_
            exact jk32 ((jShlL (1 : Int64) q23.1) / v28) hk
          · replace hk := hk.t c33
            refine sx_lload dc_Mo_chance_81 rfl ?_
            refine sx_lload dc_Mo_chance_83 rfl ?_
            obtain ⟨g35, hk⟩ := hk.g
            refine sx_ldiv dc_Mo_chance_85 g35 ?_
            refine sx_goto (tgt := 93) dc_Mo_chance_86 (by decide) ?_
            exact jk32 (((jShlL (1 : Int64) q23.1) - q24.1.toInt64) / v28) hk
      · replace hk := hk.f c20
        exact jk15 q19.2 hk
theorem dc_Mo_hasThree_0 : decode M_Mo_hasThree.2.1 0 = .ok (.iload 4, 2) := by decide +kernel
theorem dc_Mo_hasThree_2 : decode M_Mo_hasThree.2.1 2 = .ok (.iconst 1, 1) := by decide +kernel
theorem dc_Mo_hasThree_3 : decode M_Mo_hasThree.2.1 3 = .ok (.if_icmp .ne 7, 3) := by decide +kernel
theorem dc_Mo_hasThree_6 : decode M_Mo_hasThree.2.1 6 = .ok (.iload_n 1, 1) := by decide +kernel
theorem dc_Mo_hasThree_7 : decode M_Mo_hasThree.2.1 7 = .ok (.goto 8, 3) := by decide +kernel
theorem dc_Mo_hasThree_10 : decode M_Mo_hasThree.2.1 10 = .ok (.iload_n 2, 1) := by decide +kernel
theorem dc_Mo_hasThree_11 : decode M_Mo_hasThree.2.1 11 = .ok (.iload_n 1, 1) := by decide +kernel
theorem dc_Mo_hasThree_12 : decode M_Mo_hasThree.2.1 12 = .ok (.iconst (-1), 1) := by decide +kernel
theorem dc_Mo_hasThree_13 : decode M_Mo_hasThree.2.1 13 = .ok (.ixor, 1) := by decide +kernel
theorem dc_Mo_hasThree_14 : decode M_Mo_hasThree.2.1 14 = .ok (.iand, 1) := by decide +kernel
theorem dc_Mo_hasThree_15 : decode M_Mo_hasThree.2.1 15 = .ok (.istore 5, 2) := by decide +kernel
theorem dc_Mo_hasThree_17 : decode M_Mo_hasThree.2.1 17 = .ok (.iconst 0, 1) := by decide +kernel
theorem dc_Mo_hasThree_18 : decode M_Mo_hasThree.2.1 18 = .ok (.istore 6, 2) := by decide +kernel
theorem dc_Mo_hasThree_20 : decode M_Mo_hasThree.2.1 20 = .ok (.iload 6, 2) := by decide +kernel
theorem dc_Mo_hasThree_22 : decode M_Mo_hasThree.2.1 22 = .ok (.aload_n 0, 1) := by decide +kernel
theorem dc_Mo_hasThree_23 : decode M_Mo_hasThree.2.1 23 = .ok (.getfield 245, 3) := by decide +kernel
theorem dc_Mo_hasThree_26 : decode M_Mo_hasThree.2.1 26 = .ok (.if_icmp .ge 46, 3) := by decide +kernel
theorem dc_Mo_hasThree_29 : decode M_Mo_hasThree.2.1 29 = .ok (.aload_n 0, 1) := by decide +kernel
theorem dc_Mo_hasThree_30 : decode M_Mo_hasThree.2.1 30 = .ok (.getfield 35, 3) := by decide +kernel
theorem dc_Mo_hasThree_33 : decode M_Mo_hasThree.2.1 33 = .ok (.iload 6, 2) := by decide +kernel
theorem dc_Mo_hasThree_35 : decode M_Mo_hasThree.2.1 35 = .ok (.iaload, 1) := by decide +kernel
theorem dc_Mo_hasThree_36 : decode M_Mo_hasThree.2.1 36 = .ok (.iload_n 3, 1) := by decide +kernel
theorem dc_Mo_hasThree_37 : decode M_Mo_hasThree.2.1 37 = .ok (.ishr, 1) := by decide +kernel
theorem dc_Mo_hasThree_38 : decode M_Mo_hasThree.2.1 38 = .ok (.iconst 1, 1) := by decide +kernel
theorem dc_Mo_hasThree_39 : decode M_Mo_hasThree.2.1 39 = .ok (.iand, 1) := by decide +kernel
theorem dc_Mo_hasThree_40 : decode M_Mo_hasThree.2.1 40 = .ok (.iconst 1, 1) := by decide +kernel
theorem dc_Mo_hasThree_41 : decode M_Mo_hasThree.2.1 41 = .ok (.if_icmp .ne 25, 3) := by decide +kernel
theorem dc_Mo_hasThree_44 : decode M_Mo_hasThree.2.1 44 = .ok (.iload 5, 2) := by decide +kernel
theorem dc_Mo_hasThree_46 : decode M_Mo_hasThree.2.1 46 = .ok (.aload_n 0, 1) := by decide +kernel
theorem dc_Mo_hasThree_47 : decode M_Mo_hasThree.2.1 47 = .ok (.getfield 35, 3) := by decide +kernel
theorem dc_Mo_hasThree_50 : decode M_Mo_hasThree.2.1 50 = .ok (.iload 6, 2) := by decide +kernel
theorem dc_Mo_hasThree_52 : decode M_Mo_hasThree.2.1 52 = .ok (.iaload, 1) := by decide +kernel
theorem dc_Mo_hasThree_53 : decode M_Mo_hasThree.2.1 53 = .ok (.iand, 1) := by decide +kernel
theorem dc_Mo_hasThree_54 : decode M_Mo_hasThree.2.1 54 = .ok (.aload_n 0, 1) := by decide +kernel
theorem dc_Mo_hasThree_55 : decode M_Mo_hasThree.2.1 55 = .ok (.getfield 35, 3) := by decide +kernel
theorem dc_Mo_hasThree_58 : decode M_Mo_hasThree.2.1 58 = .ok (.iload 6, 2) := by decide +kernel
theorem dc_Mo_hasThree_60 : decode M_Mo_hasThree.2.1 60 = .ok (.iaload, 1) := by decide +kernel
theorem dc_Mo_hasThree_61 : decode M_Mo_hasThree.2.1 61 = .ok (.if_icmp .ne 5, 3) := by decide +kernel
theorem dc_Mo_hasThree_64 : decode M_Mo_hasThree.2.1 64 = .ok (.iconst 1, 1) := by decide +kernel
theorem dc_Mo_hasThree_65 : decode M_Mo_hasThree.2.1 65 = .ok (.ireturn, 1) := by decide +kernel
theorem dc_Mo_hasThree_66 : decode M_Mo_hasThree.2.1 66 = .ok (.iinc 6 1, 3) := by decide +kernel
theorem dc_Mo_hasThree_69 : decode M_Mo_hasThree.2.1 69 = .ok (.goto (-49), 3) := by decide +kernel
theorem dc_Mo_hasThree_72 : decode M_Mo_hasThree.2.1 72 = .ok (.iconst 0, 1) := by decide +kernel
theorem dc_Mo_hasThree_73 : decode M_Mo_hasThree.2.1 73 = .ok (.ireturn, 1) := by decide +kernel
def f_Mo_hasThree_L20 (a0 : Nat) (a1 : Int32) (a2 : Int32) (a3 : Int32) (a4 : Int32) (a5 : Int32) : Nat → Int32 → xH → (Int32 → xH → Option (Int32 × xH)) → Option (Int32 × xH)
  | 0, _, _, _ => none
  | n + 1, a6, h, K => gd (hK h a0 = 11) (if (hI h a0 32) ≤ a6 then K a6 h else gd (hK h (hR h a0 28) = 12) (gd (¬ (a6 < 0 ∨ hL h (hR h a0 28) ≤ a6.toNatClampNeg)) (jn (fun (x12 : Unit) => f_Mo_hasThree_L20 a0 a1 a2 a3 a4 a5 n (a6 + (1 : Int32)) h K) (fun k13 => if ((jShr (hI h (hR h a0 28) a6.toNatClampNeg) a3) &&& (1 : Int32)) = (1 : Int32) then gd (¬ (a6 < 0 ∨ hL h (hR h a0 28) ≤ a6.toNatClampNeg)) (gd (¬ (a6 < 0 ∨ hL h (hR h a0 28) ≤ a6.toNatClampNeg)) (if (a5 &&& (hI h (hR h a0 28) a6.toNatClampNeg)) = (hI h (hR h a0 28) a6.toNatClampNeg) then some ((1 : Int32), h) else k13 ())) else k13 ()))))
def f_Mo_hasThree (a0 : Nat) (a1 : Int32) (a2 : Int32) (a3 : Int32) (a4 : Int32) (h : xH) : Option (Int32 × xH) := f_Mo_hasThree_L20 a0 a1 a2 a3 a4 (if a4 = (1 : Int32) then a1 else a2 &&& (a1 ^^^ (-1 : Int32))) fu (0 : Int32) h (fun v18 h19 => some ((0 : Int32), h19))
theorem t_Mo_hasThree_L20 {l : Launch} {z : xZ} {d mc ms : Nat} {Ph : Option xV → xH → Prop} {a0 : Nat} {a1 : Int32} {a2 : Int32} {a3 : Int32} {a4 : Int32} {a5 : Int32}  (hd : 1 ≤ d) : ∀ (n : Nat) (a6 : Int32) (h : xH) (K : Int32 → xH → Option (Int32 × xH)), OK (f_Mo_hasThree_L20 a0 a1 a2 a3 a4 a5 n a6 h K) (fun q => Ph (some (xI q.1)) q.2) → (∀ (a6 : Int32) (h : xH), OK (K a6 h) (fun q => Ph (some (xI q.1)) q.2) → Sx l z d mc ms M_Mo_hasThree 72 [some (xR a0), some (xI a1), some (xI a2), some (xI a3), some (xI a4), some (xI a5), some (xI a6)] [] h Ph) → Sx l z d mc ms M_Mo_hasThree 20 [some (xR a0), some (xI a1), some (xI a2), some (xI a3), some (xI a4), some (xI a5), some (xI a6)] [] h Ph := by
  intro n
  induction n with
  | zero => intro a6 h K hk hE; exact hk.no
  | succ n ih =>
    intro a6 h K hk hE
    rw [f_Mo_hasThree_L20] at hk
    refine sx_iload dc_Mo_hasThree_20 rfl ?_
    refine sx_aload_n dc_Mo_hasThree_22 rfl ?_
    obtain ⟨g8, hk⟩ := hk.g
    refine sx_get (ci := 11) (k := 32) rfl (by decide) wF_Mo_245 g8 dc_Mo_hasThree_23 ?_
    refine sx_icmp_ge (tgt := 72) dc_Mo_hasThree_26 (by decide) (fun c9 => ?_) (fun c9 => ?_)
    · replace hk := hk.t c9
      exact hE a6 h hk
    · replace hk := hk.f c9
      refine sx_aload_n dc_Mo_hasThree_29 rfl ?_
      refine sx_get (ci := 11) (k := 28) rfl (by decide) wF_Mo_35 g8 dc_Mo_hasThree_30 ?_
      refine sx_iload dc_Mo_hasThree_33 rfl ?_
      obtain ⟨g10, hk⟩ := hk.g
      obtain ⟨g11, hk⟩ := hk.g
      refine sx_iald g10 g11 dc_Mo_hasThree_35 ?_
      refine sx_iload_n dc_Mo_hasThree_36 rfl ?_
      refine sx_ishr dc_Mo_hasThree_37 ?_
      refine sx_iconst (v := (1 : Int32)) dc_Mo_hasThree_38 (by decide) ?_
      refine sx_iand dc_Mo_hasThree_39 ?_
      refine sx_iconst (v := (1 : Int32)) dc_Mo_hasThree_40 (by decide) ?_
      refine hk.j (X := fun x12 => Sx l z d mc ms M_Mo_hasThree 66 [some (xR a0), some (xI a1), some (xI a2), some (xI a3), some (xI a4), some (xI a5), some (xI a6)] [] h Ph) (fun x12 hk => ?_) (fun k13 jk13 hk => ?_)
      · refine sx_iinc (v := (1 : Int32)) dc_Mo_hasThree_66 rfl (by decide) (by decide) (sx_eq (lc2 := [some (xR a0), some (xI a1), some (xI a2), some (xI a3), some (xI a4), some (xI a5), some (xI (a6 + (1 : Int32)))]) rfl rfl ?_)
        refine sx_goto (tgt := 20) dc_Mo_hasThree_69 (by decide) ?_
        exact ih (a6 + (1 : Int32)) h _ hk hE
      · refine sx_icmp_ne (tgt := 66) dc_Mo_hasThree_41 (by decide) (fun c14 => ?_) (fun c14 => ?_)
        · replace hk := hk.f c14
          exact jk13 () hk
        · replace hk := hk.t c14
          refine sx_iload dc_Mo_hasThree_44 rfl ?_
          refine sx_aload_n dc_Mo_hasThree_46 rfl ?_
          refine sx_get (ci := 11) (k := 28) rfl (by decide) wF_Mo_35 g8 dc_Mo_hasThree_47 ?_
          refine sx_iload dc_Mo_hasThree_50 rfl ?_
          obtain ⟨g15, hk⟩ := hk.g
          refine sx_iald g10 g15 dc_Mo_hasThree_52 ?_
          refine sx_iand dc_Mo_hasThree_53 ?_
          refine sx_aload_n dc_Mo_hasThree_54 rfl ?_
          refine sx_get (ci := 11) (k := 28) rfl (by decide) wF_Mo_35 g8 dc_Mo_hasThree_55 ?_
          refine sx_iload dc_Mo_hasThree_58 rfl ?_
          obtain ⟨g16, hk⟩ := hk.g
          refine sx_iald g10 g16 dc_Mo_hasThree_60 ?_
          refine sx_icmp_ne (tgt := 66) dc_Mo_hasThree_61 (by decide) (fun c17 => ?_) (fun c17 => ?_)
          · replace hk := hk.f c17
            exact jk13 () hk
          · replace hk := hk.t c17
            refine sx_iconst (v := (1 : Int32)) dc_Mo_hasThree_64 (by decide) ?_
            exact sx_retT (v := (1 : Int32)) dc_Mo_hasThree_65 (Or.inl ⟨rfl, rfl⟩) (by decide) hk.val
theorem t_Mo_hasThree {l : Launch} {z : xZ} {d mc ms : Nat} {Ph : Option xV → xH → Prop} {a0 : Nat} {a1 : Int32} {a2 : Int32} {a3 : Int32} {a4 : Int32}  {h : xH} (hd : 1 ≤ d) (hk : OK (f_Mo_hasThree a0 a1 a2 a3 a4 h) (fun q => Ph (some (xI q.1)) q.2)) : Sx l z d mc ms M_Mo_hasThree 0 (x_en [xR a0, xI a1, xI a2, xI a3, xI a4] 7) [] h Ph := by
  unfold f_Mo_hasThree at hk
  refine sx_eq (lc2 := [some (xR a0), some (xI a1), some (xI a2), some (xI a3), some (xI a4), none, none]) rfl rfl ?_
  refine sx_iload dc_Mo_hasThree_0 rfl ?_
  refine sx_iconst (v := (1 : Int32)) dc_Mo_hasThree_2 (by decide) ?_
  refine sx_mg (pc2 := 15) (lc2 := [some (xR a0), some (xI a1), some (xI a2), some (xI a3), some (xI a4), none, none]) (st2 := [xI (if a4 = (1 : Int32) then a1 else a2 &&& (a1 ^^^ (-1 : Int32)))]) (h2 := h) ?_ (fun J6 => ?_)
  · refine sx_istore dc_Mo_hasThree_15 (by decide) (sx_eq (lc2 := [some (xR a0), some (xI a1), some (xI a2), some (xI a3), some (xI a4), some (xI (if a4 = (1 : Int32) then a1 else a2 &&& (a1 ^^^ (-1 : Int32)))), none]) rfl rfl ?_)
    refine sx_iconst (v := (0 : Int32)) dc_Mo_hasThree_17 (by decide) ?_
    refine sx_istore dc_Mo_hasThree_18 (by decide) (sx_eq (lc2 := [some (xR a0), some (xI a1), some (xI a2), some (xI a3), some (xI a4), some (xI (if a4 = (1 : Int32) then a1 else a2 &&& (a1 ^^^ (-1 : Int32)))), some (xI (0 : Int32))]) rfl rfl ?_)
    refine t_Mo_hasThree_L20 (by omega) _ _ _ _ hk (fun v18 h19 hk => ?_)
    refine sx_iconst (v := (0 : Int32)) dc_Mo_hasThree_72 (by decide) ?_
    exact sx_retT (v := (0 : Int32)) dc_Mo_hasThree_73 (Or.inl ⟨rfl, rfl⟩) (by decide) hk.val
  · refine sx_icmp_ne (tgt := 10) dc_Mo_hasThree_3 (by decide) (fun c7 => ?_) (fun c7 => ?_)
    · try simp only [if_neg c7] at J6
      refine sx_iload_n dc_Mo_hasThree_10 rfl ?_
      refine sx_iload_n dc_Mo_hasThree_11 rfl ?_
      refine sx_iconst (v := (-1 : Int32)) dc_Mo_hasThree_12 (by decide) ?_
      refine sx_ixor dc_Mo_hasThree_13 ?_
      refine sx_iand dc_Mo_hasThree_14 ?_
      exact J6
    · try simp only [if_pos c7] at J6
      refine sx_iload_n dc_Mo_hasThree_6 rfl ?_
      refine sx_goto (tgt := 15) dc_Mo_hasThree_7 (by decide) ?_
      exact J6
theorem dc_Mo_turn_0 : decode M_Mo_turn.2.1 0 = .ok (.iload_n 1, 1) := by decide +kernel
theorem dc_Mo_turn_1 : decode M_Mo_turn.2.1 1 = .ok (.iload 4, 2) := by decide +kernel
theorem dc_Mo_turn_3 : decode M_Mo_turn.2.1 3 = .ok (.iload_n 3, 1) := by decide +kernel
theorem dc_Mo_turn_4 : decode M_Mo_turn.2.1 4 = .ok (.ishl, 1) := by decide +kernel
theorem dc_Mo_turn_5 : decode M_Mo_turn.2.1 5 = .ok (.ior, 1) := by decide +kernel
theorem dc_Mo_turn_6 : decode M_Mo_turn.2.1 6 = .ok (.istore 5, 2) := by decide +kernel
theorem dc_Mo_turn_8 : decode M_Mo_turn.2.1 8 = .ok (.iload_n 2, 1) := by decide +kernel
theorem dc_Mo_turn_9 : decode M_Mo_turn.2.1 9 = .ok (.iconst 1, 1) := by decide +kernel
theorem dc_Mo_turn_10 : decode M_Mo_turn.2.1 10 = .ok (.iload_n 3, 1) := by decide +kernel
theorem dc_Mo_turn_11 : decode M_Mo_turn.2.1 11 = .ok (.ishl, 1) := by decide +kernel
theorem dc_Mo_turn_12 : decode M_Mo_turn.2.1 12 = .ok (.ior, 1) := by decide +kernel
theorem dc_Mo_turn_13 : decode M_Mo_turn.2.1 13 = .ok (.istore 6, 2) := by decide +kernel
theorem dc_Mo_turn_15 : decode M_Mo_turn.2.1 15 = .ok (.aload_n 0, 1) := by decide +kernel
theorem dc_Mo_turn_16 : decode M_Mo_turn.2.1 16 = .ok (.iload 5, 2) := by decide +kernel
theorem dc_Mo_turn_18 : decode M_Mo_turn.2.1 18 = .ok (.iload 6, 2) := by decide +kernel
theorem dc_Mo_turn_20 : decode M_Mo_turn.2.1 20 = .ok (.iload_n 3, 1) := by decide +kernel
theorem dc_Mo_turn_21 : decode M_Mo_turn.2.1 21 = .ok (.iload 4, 2) := by decide +kernel
theorem dc_Mo_turn_23 : decode M_Mo_turn.2.1 23 = .ok (.invokevirtual 315, 3) := by decide +kernel
theorem dc_Mo_turn_26 : decode M_Mo_turn.2.1 26 = .ok (.ifCond .eq 7, 3) := by decide +kernel
theorem dc_Mo_turn_29 : decode M_Mo_turn.2.1 29 = .ok (.iconst (-1), 1) := by decide +kernel
theorem dc_Mo_turn_30 : decode M_Mo_turn.2.1 30 = .ok (.goto 16, 3) := by decide +kernel
theorem dc_Mo_turn_33 : decode M_Mo_turn.2.1 33 = .ok (.aload_n 0, 1) := by decide +kernel
theorem dc_Mo_turn_34 : decode M_Mo_turn.2.1 34 = .ok (.iload 5, 2) := by decide +kernel
theorem dc_Mo_turn_36 : decode M_Mo_turn.2.1 36 = .ok (.iload 6, 2) := by decide +kernel
theorem dc_Mo_turn_38 : decode M_Mo_turn.2.1 38 = .ok (.iconst 1, 1) := by decide +kernel
theorem dc_Mo_turn_39 : decode M_Mo_turn.2.1 39 = .ok (.iload 4, 2) := by decide +kernel
theorem dc_Mo_turn_41 : decode M_Mo_turn.2.1 41 = .ok (.isub, 1) := by decide +kernel
theorem dc_Mo_turn_42 : decode M_Mo_turn.2.1 42 = .ok (.invokevirtual 319, 3) := by decide +kernel
theorem dc_Mo_turn_45 : decode M_Mo_turn.2.1 45 = .ok (.ineg, 1) := by decide +kernel
theorem dc_Mo_turn_46 : decode M_Mo_turn.2.1 46 = .ok (.ireturn, 1) := by decide +kernel
theorem dc_Mo_value_0 : decode M_Mo_value.2.1 0 = .ok (.iload_n 2, 1) := by decide +kernel
theorem dc_Mo_value_1 : decode M_Mo_value.2.1 1 = .ok (.aload_n 0, 1) := by decide +kernel
theorem dc_Mo_value_2 : decode M_Mo_value.2.1 2 = .ok (.getfield 23, 3) := by decide +kernel
theorem dc_Mo_value_5 : decode M_Mo_value.2.1 5 = .ok (.invokestatic 90, 3) := by decide +kernel
theorem dc_Mo_value_8 : decode M_Mo_value.2.1 8 = .ok (.if_icmp .ne 5, 3) := by decide +kernel
theorem dc_Mo_value_11 : decode M_Mo_value.2.1 11 = .ok (.iconst 0, 1) := by decide +kernel
theorem dc_Mo_value_12 : decode M_Mo_value.2.1 12 = .ok (.ireturn, 1) := by decide +kernel
theorem dc_Mo_value_13 : decode M_Mo_value.2.1 13 = .ok (.bipush (-2), 2) := by decide +kernel
theorem dc_Mo_value_15 : decode M_Mo_value.2.1 15 = .ok (.istore 4, 2) := by decide +kernel
theorem dc_Mo_value_17 : decode M_Mo_value.2.1 17 = .ok (.iconst 0, 1) := by decide +kernel
theorem dc_Mo_value_18 : decode M_Mo_value.2.1 18 = .ok (.istore 5, 2) := by decide +kernel
theorem dc_Mo_value_20 : decode M_Mo_value.2.1 20 = .ok (.iload 5, 2) := by decide +kernel
theorem dc_Mo_value_22 : decode M_Mo_value.2.1 22 = .ok (.aload_n 0, 1) := by decide +kernel
theorem dc_Mo_value_23 : decode M_Mo_value.2.1 23 = .ok (.getfield 23, 3) := by decide +kernel
theorem dc_Mo_value_26 : decode M_Mo_value.2.1 26 = .ok (.aload_n 0, 1) := by decide +kernel
theorem dc_Mo_value_27 : decode M_Mo_value.2.1 27 = .ok (.getfield 23, 3) := by decide +kernel
theorem dc_Mo_value_30 : decode M_Mo_value.2.1 30 = .ok (.iconst 1, 1) := by decide +kernel
theorem dc_Mo_value_31 : decode M_Mo_value.2.1 31 = .ok (.isub, 1) := by decide +kernel
theorem dc_Mo_value_32 : decode M_Mo_value.2.1 32 = .ok (.imul, 1) := by decide +kernel
theorem dc_Mo_value_33 : decode M_Mo_value.2.1 33 = .ok (.iconst 2, 1) := by decide +kernel
theorem dc_Mo_value_34 : decode M_Mo_value.2.1 34 = .ok (.idiv, 1) := by decide +kernel
theorem dc_Mo_value_35 : decode M_Mo_value.2.1 35 = .ok (.if_icmp .ge 45, 3) := by decide +kernel
theorem dc_Mo_value_38 : decode M_Mo_value.2.1 38 = .ok (.iload_n 2, 1) := by decide +kernel
theorem dc_Mo_value_39 : decode M_Mo_value.2.1 39 = .ok (.iload 5, 2) := by decide +kernel
theorem dc_Mo_value_41 : decode M_Mo_value.2.1 41 = .ok (.ishr, 1) := by decide +kernel
theorem dc_Mo_value_42 : decode M_Mo_value.2.1 42 = .ok (.iconst 1, 1) := by decide +kernel
theorem dc_Mo_value_43 : decode M_Mo_value.2.1 43 = .ok (.iand, 1) := by decide +kernel
theorem dc_Mo_value_44 : decode M_Mo_value.2.1 44 = .ok (.ifCond .ne 30, 3) := by decide +kernel
theorem dc_Mo_value_47 : decode M_Mo_value.2.1 47 = .ok (.aload_n 0, 1) := by decide +kernel
theorem dc_Mo_value_48 : decode M_Mo_value.2.1 48 = .ok (.iload_n 1, 1) := by decide +kernel
theorem dc_Mo_value_49 : decode M_Mo_value.2.1 49 = .ok (.iload_n 2, 1) := by decide +kernel
theorem dc_Mo_value_50 : decode M_Mo_value.2.1 50 = .ok (.iload 5, 2) := by decide +kernel
theorem dc_Mo_value_52 : decode M_Mo_value.2.1 52 = .ok (.iload_n 3, 1) := by decide +kernel
theorem dc_Mo_value_53 : decode M_Mo_value.2.1 53 = .ok (.invokevirtual 322, 3) := by decide +kernel
theorem dc_Mo_value_56 : decode M_Mo_value.2.1 56 = .ok (.istore 6, 2) := by decide +kernel
theorem dc_Mo_value_58 : decode M_Mo_value.2.1 58 = .ok (.iload 6, 2) := by decide +kernel
theorem dc_Mo_value_60 : decode M_Mo_value.2.1 60 = .ok (.iload 4, 2) := by decide +kernel
theorem dc_Mo_value_62 : decode M_Mo_value.2.1 62 = .ok (.if_icmp .le 8, 3) := by decide +kernel
theorem dc_Mo_value_65 : decode M_Mo_value.2.1 65 = .ok (.iload 6, 2) := by decide +kernel
theorem dc_Mo_value_67 : decode M_Mo_value.2.1 67 = .ok (.goto 5, 3) := by decide +kernel
theorem dc_Mo_value_70 : decode M_Mo_value.2.1 70 = .ok (.iload 4, 2) := by decide +kernel
theorem dc_Mo_value_72 : decode M_Mo_value.2.1 72 = .ok (.istore 4, 2) := by decide +kernel
theorem dc_Mo_value_74 : decode M_Mo_value.2.1 74 = .ok (.iinc 5 1, 3) := by decide +kernel
theorem dc_Mo_value_77 : decode M_Mo_value.2.1 77 = .ok (.goto (-57), 3) := by decide +kernel
theorem dc_Mo_value_80 : decode M_Mo_value.2.1 80 = .ok (.iload 4, 2) := by decide +kernel
theorem dc_Mo_value_82 : decode M_Mo_value.2.1 82 = .ok (.ireturn, 1) := by decide +kernel
def f_Mo_turn (R0 : Nat → Int32 → Int32 → Int32 → xH → Option (Int32 × xH)) (a0 : Nat) (a1 : Int32) (a2 : Int32) (a3 : Int32) (a4 : Int32) (h : xH) : Option (Int32 × xH) := gd (hK h a0 = 11) (Option.bind (f_Mo_hasThree a0 (a1 ||| (jShl a4 a3)) (a2 ||| (jShl (1 : Int32) a3)) a3 a4 h) (fun q5 => jn (fun (x7 : Int32 × xH) => some (x7.1, x7.2)) (fun k8 => if q5.1 = 0 then gd (hK q5.2 a0 = 11) (Option.bind (R0 a0 (a1 ||| (jShl a4 a3)) (a2 ||| (jShl (1 : Int32) a3)) ((1 : Int32) - a4) q5.2) (fun q10 => k8 ((-q10.1), q10.2))) else k8 ((-1 : Int32), q5.2))))
def f_Mo_value_L20 (R0 : Nat → Int32 → Int32 → Int32 → xH → Option (Int32 × xH)) (a0 : Nat) (a1 : Int32) (a2 : Int32) (a3 : Int32) : Nat → Int32 → Int32 → xH → (Int32 → Int32 → xH → Option (Int32 × xH)) → Option (Int32 × xH)
  | 0, _, _, _, _ => none
  | n + 1, a4, a5, h, K => gd (hK h a0 = 11) (if (((hI h a0 7) * ((hI h a0 7) - (1 : Int32))) / (2 : Int32)) ≤ a5 then K a4 a5 h else jn (fun (x10 : Int32 × xH) => f_Mo_value_L20 R0 a0 a1 a2 a3 n x10.1 (a5 + (1 : Int32)) x10.2 K) (fun k11 => if ((jShr a2 a5) &&& (1 : Int32)) = 0 then Option.bind (f_Mo_turn R0 a0 a1 a2 a5 a3 h) (fun q13 => k11 ((if q13.1 ≤ a4 then a4 else q13.1), q13.2)) else k11 (a4, h)))
def fb_Mo_value (R0 : Nat → Int32 → Int32 → Int32 → xH → Option (Int32 × xH)) (a0 : Nat) (a1 : Int32) (a2 : Int32) (a3 : Int32) (h : xH) : Option (Int32 × xH) := gd (hK h a0 = 11) (Option.bind (f_Mo_allOf (hI h a0 7) h) (fun q6 => if a2 = q6.1 then some ((0 : Int32), q6.2) else f_Mo_value_L20 R0 a0 a1 a2 a3 fu (-2 : Int32) (0 : Int32) q6.2 (fun v16 v17 h18 => some (v16, h18))))
def G_Mo_value : Nat → Nat → Int32 → Int32 → Int32 → xH → Option (Int32 × xH)
  | 0 => fun _ _ _ _ _ => none
  | g + 1 => fun a0 a1 a2 a3 h => fb_Mo_value (G_Mo_value g) a0 a1 a2 a3 h
def f_Mo_value (a0 : Nat) (a1 : Int32) (a2 : Int32) (a3 : Int32) (h : xH) : Option (Int32 × xH) := G_Mo_value 24 a0 a1 a2 a3 h
def fo_Mo_turn (a0 : Nat) (a1 : Int32) (a2 : Int32) (a3 : Int32) (a4 : Int32) (h : xH) : Option (Int32 × xH) := f_Mo_turn (G_Mo_value 24) a0 a1 a2 a3 a4 h
theorem t_Mo_turn {l : Launch} {z : xZ} {d mc ms : Nat} {Ph : Option xV → xH → Prop} {R0 : Nat → Int32 → Int32 → Int32 → xH → Option (Int32 × xH)} {B : Nat} (hR0 : ∀ {d mc ms : Nat} {Ph : Option xV → xH → Prop} {a0 : Nat} {a1 : Int32} {a2 : Int32} {a3 : Int32} {h : xH}, B ≤ d → OK (R0 a0 a1 a2 a3 h) (fun q => Ph (some (xI q.1)) q.2) → Sx l z d mc ms M_Mo_value 0 (x_en [xR a0, xI a1, xI a2, xI a3] 7) [] h Ph) {a0 : Nat} {a1 : Int32} {a2 : Int32} {a3 : Int32} {a4 : Int32}  {h : xH} (hd : B + 2 ≤ d) (hk : OK (f_Mo_turn R0 a0 a1 a2 a3 a4 h) (fun q => Ph (some (xI q.1)) q.2)) : Sx l z d mc ms M_Mo_turn 0 (x_en [xR a0, xI a1, xI a2, xI a3, xI a4] 7) [] h Ph := by
  unfold f_Mo_turn at hk
  refine sx_eq (lc2 := [some (xR a0), some (xI a1), some (xI a2), some (xI a3), some (xI a4), none, none]) rfl rfl ?_
  refine sx_iload_n dc_Mo_turn_0 rfl ?_
  refine sx_iload dc_Mo_turn_1 rfl ?_
  refine sx_iload_n dc_Mo_turn_3 rfl ?_
  refine sx_ishl dc_Mo_turn_4 ?_
  refine sx_ior dc_Mo_turn_5 ?_
  refine sx_istore dc_Mo_turn_6 (by decide) (sx_eq (lc2 := [some (xR a0), some (xI a1), some (xI a2), some (xI a3), some (xI a4), some (xI (a1 ||| (jShl a4 a3))), none]) rfl rfl ?_)
  refine sx_iload_n dc_Mo_turn_8 rfl ?_
  refine sx_iconst (v := (1 : Int32)) dc_Mo_turn_9 (by decide) ?_
  refine sx_iload_n dc_Mo_turn_10 rfl ?_
  refine sx_ishl dc_Mo_turn_11 ?_
  refine sx_ior dc_Mo_turn_12 ?_
  refine sx_istore dc_Mo_turn_13 (by decide) (sx_eq (lc2 := [some (xR a0), some (xI a1), some (xI a2), some (xI a3), some (xI a4), some (xI (a1 ||| (jShl a4 a3))), some (xI (a2 ||| (jShl (1 : Int32) a3)))]) rfl rfl ?_)
  refine sx_aload_n dc_Mo_turn_15 rfl ?_
  refine sx_iload dc_Mo_turn_16 rfl ?_
  refine sx_iload dc_Mo_turn_18 rfl ?_
  refine sx_iload_n dc_Mo_turn_20 rfl ?_
  refine sx_iload dc_Mo_turn_21 rfl ?_
  obtain ⟨g6, hk⟩ := hk.g
  obtain ⟨q5, eq5, hk⟩ := hk.bind
  refine sx_callV (d2 := d - 1) (mc2 := 0) (ms2 := 0) (as := [xI (a1 ||| (jShl a4 a3)), xI (a2 ||| (jShl (1 : Int32) a3)), xI a3, xI a4]) mk_Mo_hasThree rfl (x_rk (ci := 11) g6 rfl rfl) wM_Mo_315 mi_Mo_hasThree me_Mo_hasThree rfl (Nat.le_of_ble_eq_true rfl) (Nat.le_of_ble_eq_true rfl) dc_Mo_turn_23 (by omega) (Nat.zero_le _) (Nat.zero_le _) ?_
  refine t_Mo_hasThree (by omega) ⟨q5, eq5, ?_⟩
  refine sx_eq0 (lc2 := [some (xR a0), some (xI a1), some (xI a2), some (xI a3), some (xI a4), some (xI (a1 ||| (jShl a4 a3))), some (xI (a2 ||| (jShl (1 : Int32) a3)))]) (st2 := [xI q5.1]) rfl rfl ?_
  refine hk.j (X := fun x7 => Sx l z d mc ms M_Mo_turn 46 [some (xR a0), some (xI a1), some (xI a2), some (xI a3), some (xI a4), some (xI (a1 ||| (jShl a4 a3))), some (xI (a2 ||| (jShl (1 : Int32) a3)))] [xI x7.1] x7.2 Ph) (fun x7 hk => ?_) (fun k8 jk8 hk => ?_)
  · exact sx_retI dc_Mo_turn_46 rfl hk.val
  · refine sx_if_eq (tgt := 33) dc_Mo_turn_26 (by decide) (fun c9 => ?_) (fun c9 => ?_)
    · replace hk := hk.t c9
      refine sx_aload_n dc_Mo_turn_33 rfl ?_
      refine sx_iload dc_Mo_turn_34 rfl ?_
      refine sx_iload dc_Mo_turn_36 rfl ?_
      refine sx_iconst (v := (1 : Int32)) dc_Mo_turn_38 (by decide) ?_
      refine sx_iload dc_Mo_turn_39 rfl ?_
      refine sx_isub dc_Mo_turn_41 ?_
      obtain ⟨g11, hk⟩ := hk.g
      obtain ⟨q10, eq10, hk⟩ := hk.bind
      refine sx_callV (d2 := d - 1) (mc2 := 0) (ms2 := 0) (as := [xI (a1 ||| (jShl a4 a3)), xI (a2 ||| (jShl (1 : Int32) a3)), xI ((1 : Int32) - a4)]) mk_Mo_value rfl (x_rk (ci := 11) g11 rfl rfl) wM_Mo_319 mi_Mo_value me_Mo_value rfl (Nat.le_of_ble_eq_true rfl) (Nat.le_of_ble_eq_true rfl) dc_Mo_turn_42 (by omega) (Nat.zero_le _) (Nat.zero_le _) ?_
      refine hR0 (by omega) ⟨q10, eq10, ?_⟩
      refine sx_eq0 (lc2 := [some (xR a0), some (xI a1), some (xI a2), some (xI a3), some (xI a4), some (xI (a1 ||| (jShl a4 a3))), some (xI (a2 ||| (jShl (1 : Int32) a3)))]) (st2 := [xI q10.1]) rfl rfl ?_
      refine sx_ineg dc_Mo_turn_45 ?_
      exact jk8 ((-q10.1), q10.2) hk
    · replace hk := hk.f c9
      refine sx_iconst (v := (-1 : Int32)) dc_Mo_turn_29 (by decide) ?_
      refine sx_goto (tgt := 46) dc_Mo_turn_30 (by decide) ?_
      exact jk8 ((-1 : Int32), q5.2) hk
theorem t_Mo_value_L20 {l : Launch} {z : xZ} {d mc ms : Nat} {Ph : Option xV → xH → Prop} {R0 : Nat → Int32 → Int32 → Int32 → xH → Option (Int32 × xH)} {a0 : Nat} {a1 : Int32} {a2 : Int32} {a3 : Int32} {B : Nat} (hR0 : ∀ {d mc ms : Nat} {Ph : Option xV → xH → Prop} {a0 : Nat} {a1 : Int32} {a2 : Int32} {a3 : Int32} {h : xH}, B ≤ d → OK (R0 a0 a1 a2 a3 h) (fun q => Ph (some (xI q.1)) q.2) → Sx l z d mc ms M_Mo_value 0 (x_en [xR a0, xI a1, xI a2, xI a3] 7) [] h Ph) (hd : B + 3 ≤ d) : ∀ (n : Nat) (a4 : Int32) (a5 : Int32) (h : xH) (K : Int32 → Int32 → xH → Option (Int32 × xH)), OK (f_Mo_value_L20 R0 a0 a1 a2 a3 n a4 a5 h K) (fun q => Ph (some (xI q.1)) q.2) → (∀ (a4 : Int32) (a5 : Int32) (h : xH), OK (K a4 a5 h) (fun q => Ph (some (xI q.1)) q.2) → Sx l z d mc ms M_Mo_value 80 [some (xR a0), some (xI a1), some (xI a2), some (xI a3), some (xI a4), some (xI a5), none] [] h Ph) → Sx l z d mc ms M_Mo_value 20 [some (xR a0), some (xI a1), some (xI a2), some (xI a3), some (xI a4), some (xI a5), none] [] h Ph := by
  intro n
  induction n with
  | zero => intro a4 a5 h K hk hE; exact hk.no
  | succ n ih =>
    intro a4 a5 h K hk hE
    rw [f_Mo_value_L20] at hk
    refine sx_iload dc_Mo_value_20 rfl ?_
    refine sx_aload_n dc_Mo_value_22 rfl ?_
    obtain ⟨g8, hk⟩ := hk.g
    refine sx_get (ci := 11) (k := 7) rfl (by decide) wF_Mo_23 g8 dc_Mo_value_23 ?_
    refine sx_aload_n dc_Mo_value_26 rfl ?_
    refine sx_get (ci := 11) (k := 7) rfl (by decide) wF_Mo_23 g8 dc_Mo_value_27 ?_
    refine sx_iconst (v := (1 : Int32)) dc_Mo_value_30 (by decide) ?_
    refine sx_isub dc_Mo_value_31 ?_
    refine sx_imul dc_Mo_value_32 ?_
    refine sx_iconst (v := (2 : Int32)) dc_Mo_value_33 (by decide) ?_
    refine sx_idiv dc_Mo_value_34 (by decide) ?_
    refine sx_icmp_ge (tgt := 80) dc_Mo_value_35 (by decide) (fun c9 => ?_) (fun c9 => ?_)
    · replace hk := hk.t c9
      exact hE a4 a5 h hk
    · replace hk := hk.f c9
      refine sx_iload_n dc_Mo_value_38 rfl ?_
      refine sx_iload dc_Mo_value_39 rfl ?_
      refine sx_ishr dc_Mo_value_41 ?_
      refine sx_iconst (v := (1 : Int32)) dc_Mo_value_42 (by decide) ?_
      refine sx_iand dc_Mo_value_43 ?_
      refine hk.j (X := fun x10 => Sx l z d mc ms M_Mo_value 74 [some (xR a0), some (xI a1), some (xI a2), some (xI a3), some (xI x10.1), some (xI a5), none] [] x10.2 Ph) (fun x10 hk => ?_) (fun k11 jk11 hk => ?_)
      · refine sx_iinc (v := (1 : Int32)) dc_Mo_value_74 rfl (by decide) (by decide) (sx_eq (lc2 := [some (xR a0), some (xI a1), some (xI a2), some (xI a3), some (xI x10.1), some (xI (a5 + (1 : Int32))), none]) rfl rfl ?_)
        refine sx_goto (tgt := 20) dc_Mo_value_77 (by decide) ?_
        exact ih x10.1 (a5 + (1 : Int32)) x10.2 _ hk hE
      · refine sx_if_ne (tgt := 74) dc_Mo_value_44 (by decide) (fun c12 => ?_) (fun c12 => ?_)
        · replace hk := hk.f c12
          exact jk11 (a4, h) hk
        · replace hk := hk.t c12
          refine sx_aload_n dc_Mo_value_47 rfl ?_
          refine sx_iload_n dc_Mo_value_48 rfl ?_
          refine sx_iload_n dc_Mo_value_49 rfl ?_
          refine sx_iload dc_Mo_value_50 rfl ?_
          refine sx_iload_n dc_Mo_value_52 rfl ?_
          obtain ⟨q13, eq13, hk⟩ := hk.bind
          refine sx_callV (d2 := d - 1) (mc2 := 0) (ms2 := 0) (as := [xI a1, xI a2, xI a5, xI a3]) mk_Mo_turn rfl (x_rk (ci := 11) g8 rfl rfl) wM_Mo_322 mi_Mo_turn me_Mo_turn rfl (Nat.le_of_ble_eq_true rfl) (Nat.le_of_ble_eq_true rfl) dc_Mo_value_53 (by omega) (Nat.zero_le _) (Nat.zero_le _) ?_
          refine t_Mo_turn hR0 (by omega) ⟨q13, eq13, ?_⟩
          refine sx_eq0 (lc2 := [some (xR a0), some (xI a1), some (xI a2), some (xI a3), some (xI a4), some (xI a5), none]) (st2 := [xI q13.1]) rfl rfl ?_
          refine sx_istore dc_Mo_value_56 (by decide) (sx_eq (lc2 := [some (xR a0), some (xI a1), some (xI a2), some (xI a3), some (xI a4), some (xI a5), some (xI q13.1)]) rfl rfl ?_)
          refine sx_iload dc_Mo_value_58 rfl ?_
          refine sx_iload dc_Mo_value_60 rfl ?_
          refine sx_mg (pc2 := 72) (lc2 := [some (xR a0), some (xI a1), some (xI a2), some (xI a3), some (xI a4), some (xI a5), some (xI q13.1)]) (st2 := [xI (if q13.1 ≤ a4 then a4 else q13.1)]) (h2 := q13.2) ?_ (fun J14 => ?_)
          · refine sx_istore dc_Mo_value_72 (by decide) (sx_eq (lc2 := [some (xR a0), some (xI a1), some (xI a2), some (xI a3), some (xI (if q13.1 ≤ a4 then a4 else q13.1)), some (xI a5), some (xI q13.1)]) rfl rfl ?_)
            exact sx_less (by simp [x_le]) (jk11 ((if q13.1 ≤ a4 then a4 else q13.1), q13.2) hk)
          · refine sx_icmp_le (tgt := 70) dc_Mo_value_62 (by decide) (fun c15 => ?_) (fun c15 => ?_)
            · try simp only [if_pos c15] at J14
              refine sx_iload dc_Mo_value_70 rfl ?_
              exact J14
            · try simp only [if_neg c15] at J14
              refine sx_iload dc_Mo_value_65 rfl ?_
              refine sx_goto (tgt := 72) dc_Mo_value_67 (by decide) ?_
              exact J14
theorem tb_Mo_value {l : Launch} {z : xZ} {d mc ms : Nat} {Ph : Option xV → xH → Prop} {R0 : Nat → Int32 → Int32 → Int32 → xH → Option (Int32 × xH)} {B : Nat} (hR0 : ∀ {d mc ms : Nat} {Ph : Option xV → xH → Prop} {a0 : Nat} {a1 : Int32} {a2 : Int32} {a3 : Int32} {h : xH}, B ≤ d → OK (R0 a0 a1 a2 a3 h) (fun q => Ph (some (xI q.1)) q.2) → Sx l z d mc ms M_Mo_value 0 (x_en [xR a0, xI a1, xI a2, xI a3] 7) [] h Ph) {a0 : Nat} {a1 : Int32} {a2 : Int32} {a3 : Int32}  {h : xH} (hd : B + 3 ≤ d) (hk : OK (fb_Mo_value R0 a0 a1 a2 a3 h) (fun q => Ph (some (xI q.1)) q.2)) : Sx l z d mc ms M_Mo_value 0 (x_en [xR a0, xI a1, xI a2, xI a3] 7) [] h Ph := by
  unfold fb_Mo_value at hk
  refine sx_eq (lc2 := [some (xR a0), some (xI a1), some (xI a2), some (xI a3), none, none, none]) rfl rfl ?_
  refine sx_iload_n dc_Mo_value_0 rfl ?_
  refine sx_aload_n dc_Mo_value_1 rfl ?_
  obtain ⟨g5, hk⟩ := hk.g
  refine sx_get (ci := 11) (k := 7) rfl (by decide) wF_Mo_23 g5 dc_Mo_value_2 ?_
  obtain ⟨q6, eq6, hk⟩ := hk.bind
  refine sx_callS (d2 := d - 1) (mc2 := 0) (ms2 := 0) (as := [xI (hI h a0 7)]) mk_Mo_allOf rfl wM_Mo_90 mt_Mo_allOf rfl (Nat.le_of_ble_eq_true rfl) (Nat.le_of_ble_eq_true rfl) dc_Mo_value_5 (by omega) (Nat.zero_le _) (Nat.zero_le _) ?_
  refine t_Mo_allOf (by omega) ⟨q6, eq6, ?_⟩
  refine sx_eq0 (lc2 := [some (xR a0), some (xI a1), some (xI a2), some (xI a3), none, none, none]) (st2 := [xI q6.1, xI a2]) rfl rfl ?_
  refine sx_icmp_ne (tgt := 13) dc_Mo_value_8 (by decide) (fun c7 => ?_) (fun c7 => ?_)
  · replace hk := hk.f c7
    refine sx_bipush (v := (-2 : Int32)) dc_Mo_value_13 (by decide) ?_
    refine sx_istore dc_Mo_value_15 (by decide) (sx_eq (lc2 := [some (xR a0), some (xI a1), some (xI a2), some (xI a3), some (xI (-2 : Int32)), none, none]) rfl rfl ?_)
    refine sx_iconst (v := (0 : Int32)) dc_Mo_value_17 (by decide) ?_
    refine sx_istore dc_Mo_value_18 (by decide) (sx_eq (lc2 := [some (xR a0), some (xI a1), some (xI a2), some (xI a3), some (xI (-2 : Int32)), some (xI (0 : Int32)), none]) rfl rfl ?_)
    refine t_Mo_value_L20 hR0 (by omega) _ _ _ _ _ hk (fun v16 v17 h18 hk => ?_)
    refine sx_iload dc_Mo_value_80 rfl ?_
    exact sx_retI dc_Mo_value_82 rfl hk.val
  · replace hk := hk.t c7
    refine sx_iconst (v := (0 : Int32)) dc_Mo_value_11 (by decide) ?_
    exact sx_retI dc_Mo_value_12 rfl hk.val
theorem tg_Mo_value {l : Launch} {z : xZ} : ∀ (g : Nat) {d mc ms : Nat} {Ph : Option xV → xH → Prop} {a0 : Nat} {a1 : Int32} {a2 : Int32} {a3 : Int32} {h : xH}, 3 * g ≤ d → OK (G_Mo_value g a0 a1 a2 a3 h) (fun q => Ph (some (xI q.1)) q.2) → Sx l z d mc ms M_Mo_value 0 (x_en [xR a0, xI a1, xI a2, xI a3] 7) [] h Ph
  | 0 => fun _ hk => hk.no
  | g + 1 => fun hd hk => tb_Mo_value (R0 := G_Mo_value g) (B := 3 * g) (fun hd hk => tg_Mo_value g hd hk) (by omega) hk
theorem t_Mo_value {l : Launch} {z : xZ} {d mc ms : Nat} {Ph : Option xV → xH → Prop} {a0 : Nat} {a1 : Int32} {a2 : Int32} {a3 : Int32} {h : xH} (hd : 72 ≤ d) (hk : OK (f_Mo_value a0 a1 a2 a3 h) (fun q => Ph (some (xI q.1)) q.2)) : Sx l z d mc ms M_Mo_value 0 (x_en [xR a0, xI a1, xI a2, xI a3] 7) [] h Ph := tg_Mo_value 24 (by omega) hk
theorem to_Mo_turn {l : Launch} {z : xZ} {d mc ms : Nat} {Ph : Option xV → xH → Prop} {a0 : Nat} {a1 : Int32} {a2 : Int32} {a3 : Int32} {a4 : Int32} {h : xH} (hd : 74 ≤ d) (hk : OK (fo_Mo_turn a0 a1 a2 a3 a4 h) (fun q => Ph (some (xI q.1)) q.2)) : Sx l z d mc ms M_Mo_turn 0 (x_en [xR a0, xI a1, xI a2, xI a3, xI a4] 7) [] h Ph := t_Mo_turn (B := 72) (fun hd hk => tg_Mo_value 24 hd hk) (by omega) hk
theorem dc_Mo_game_0 : decode M_Mo_game.2.1 0 = .ok (.iload_n 1, 1) := by decide +kernel
theorem dc_Mo_game_1 : decode M_Mo_game.2.1 1 = .ok (.i2l, 1) := by decide +kernel
theorem dc_Mo_game_2 : decode M_Mo_game.2.1 2 = .ok (.lconst 0, 1) := by decide +kernel
theorem dc_Mo_game_3 : decode M_Mo_game.2.1 3 = .ok (.lconst 1, 1) := by decide +kernel
theorem dc_Mo_game_4 : decode M_Mo_game.2.1 4 = .ok (.invokestatic 73, 3) := by decide +kernel
theorem dc_Mo_game_7 : decode M_Mo_game.2.1 7 = .ok (.ifCond .ne 6, 3) := by decide +kernel
theorem dc_Mo_game_10 : decode M_Mo_game.2.1 10 = .ok (.bipush (-2), 2) := by decide +kernel
theorem dc_Mo_game_12 : decode M_Mo_game.2.1 12 = .ok (.ireturn, 1) := by decide +kernel
theorem dc_Mo_game_13 : decode M_Mo_game.2.1 13 = .ok (.aload_n 0, 1) := by decide +kernel
theorem dc_Mo_game_14 : decode M_Mo_game.2.1 14 = .ok (.getfield 23, 3) := by decide +kernel
theorem dc_Mo_game_17 : decode M_Mo_game.2.1 17 = .ok (.iconst 4, 1) := by decide +kernel
theorem dc_Mo_game_18 : decode M_Mo_game.2.1 18 = .ok (.if_icmp .le 6, 3) := by decide +kernel
theorem dc_Mo_game_21 : decode M_Mo_game.2.1 21 = .ok (.bipush (-3), 2) := by decide +kernel
theorem dc_Mo_game_23 : decode M_Mo_game.2.1 23 = .ok (.ireturn, 1) := by decide +kernel
theorem dc_Mo_game_24 : decode M_Mo_game.2.1 24 = .ok (.aload_n 0, 1) := by decide +kernel
theorem dc_Mo_game_25 : decode M_Mo_game.2.1 25 = .ok (.invokevirtual 263, 3) := by decide +kernel
theorem dc_Mo_game_28 : decode M_Mo_game.2.1 28 = .ok (.aload_n 0, 1) := by decide +kernel
theorem dc_Mo_game_29 : decode M_Mo_game.2.1 29 = .ok (.aload_n 0, 1) := by decide +kernel
theorem dc_Mo_game_30 : decode M_Mo_game.2.1 30 = .ok (.getfield 77, 3) := by decide +kernel
theorem dc_Mo_game_33 : decode M_Mo_game.2.1 33 = .ok (.aload_n 0, 1) := by decide +kernel
theorem dc_Mo_game_34 : decode M_Mo_game.2.1 34 = .ok (.getfield 26, 3) := by decide +kernel
theorem dc_Mo_game_37 : decode M_Mo_game.2.1 37 = .ok (.iconst 1, 1) := by decide +kernel
theorem dc_Mo_game_38 : decode M_Mo_game.2.1 38 = .ok (.invokevirtual 319, 3) := by decide +kernel
theorem dc_Mo_game_41 : decode M_Mo_game.2.1 41 = .ok (.istore_n 2, 1) := by decide +kernel
theorem dc_Mo_game_42 : decode M_Mo_game.2.1 42 = .ok (.iload_n 1, 1) := by decide +kernel
theorem dc_Mo_game_43 : decode M_Mo_game.2.1 43 = .ok (.ifCond .ne 5, 3) := by decide +kernel
theorem dc_Mo_game_46 : decode M_Mo_game.2.1 46 = .ok (.iload_n 2, 1) := by decide +kernel
theorem dc_Mo_game_47 : decode M_Mo_game.2.1 47 = .ok (.ireturn, 1) := by decide +kernel
theorem dc_Mo_game_48 : decode M_Mo_game.2.1 48 = .ok (.iconst 0, 1) := by decide +kernel
theorem dc_Mo_game_49 : decode M_Mo_game.2.1 49 = .ok (.istore_n 3, 1) := by decide +kernel
theorem dc_Mo_game_50 : decode M_Mo_game.2.1 50 = .ok (.iload_n 3, 1) := by decide +kernel
theorem dc_Mo_game_51 : decode M_Mo_game.2.1 51 = .ok (.aload_n 0, 1) := by decide +kernel
theorem dc_Mo_game_52 : decode M_Mo_game.2.1 52 = .ok (.getfield 23, 3) := by decide +kernel
theorem dc_Mo_game_55 : decode M_Mo_game.2.1 55 = .ok (.aload_n 0, 1) := by decide +kernel
theorem dc_Mo_game_56 : decode M_Mo_game.2.1 56 = .ok (.getfield 23, 3) := by decide +kernel
theorem dc_Mo_game_59 : decode M_Mo_game.2.1 59 = .ok (.iconst 1, 1) := by decide +kernel
theorem dc_Mo_game_60 : decode M_Mo_game.2.1 60 = .ok (.isub, 1) := by decide +kernel
theorem dc_Mo_game_61 : decode M_Mo_game.2.1 61 = .ok (.imul, 1) := by decide +kernel
theorem dc_Mo_game_62 : decode M_Mo_game.2.1 62 = .ok (.iconst 2, 1) := by decide +kernel
theorem dc_Mo_game_63 : decode M_Mo_game.2.1 63 = .ok (.idiv, 1) := by decide +kernel
theorem dc_Mo_game_64 : decode M_Mo_game.2.1 64 = .ok (.if_icmp .ge 40, 3) := by decide +kernel
theorem dc_Mo_game_67 : decode M_Mo_game.2.1 67 = .ok (.aload_n 0, 1) := by decide +kernel
theorem dc_Mo_game_68 : decode M_Mo_game.2.1 68 = .ok (.getfield 26, 3) := by decide +kernel
theorem dc_Mo_game_71 : decode M_Mo_game.2.1 71 = .ok (.iload_n 3, 1) := by decide +kernel
theorem dc_Mo_game_72 : decode M_Mo_game.2.1 72 = .ok (.ishr, 1) := by decide +kernel
theorem dc_Mo_game_73 : decode M_Mo_game.2.1 73 = .ok (.iconst 1, 1) := by decide +kernel
theorem dc_Mo_game_74 : decode M_Mo_game.2.1 74 = .ok (.iand, 1) := by decide +kernel
theorem dc_Mo_game_75 : decode M_Mo_game.2.1 75 = .ok (.ifCond .ne 23, 3) := by decide +kernel
theorem dc_Mo_game_78 : decode M_Mo_game.2.1 78 = .ok (.aload_n 0, 1) := by decide +kernel
theorem dc_Mo_game_79 : decode M_Mo_game.2.1 79 = .ok (.aload_n 0, 1) := by decide +kernel
theorem dc_Mo_game_80 : decode M_Mo_game.2.1 80 = .ok (.getfield 77, 3) := by decide +kernel
theorem dc_Mo_game_83 : decode M_Mo_game.2.1 83 = .ok (.aload_n 0, 1) := by decide +kernel
theorem dc_Mo_game_84 : decode M_Mo_game.2.1 84 = .ok (.getfield 26, 3) := by decide +kernel
theorem dc_Mo_game_87 : decode M_Mo_game.2.1 87 = .ok (.iload_n 3, 1) := by decide +kernel
theorem dc_Mo_game_88 : decode M_Mo_game.2.1 88 = .ok (.iconst 1, 1) := by decide +kernel
theorem dc_Mo_game_89 : decode M_Mo_game.2.1 89 = .ok (.invokevirtual 322, 3) := by decide +kernel
theorem dc_Mo_game_92 : decode M_Mo_game.2.1 92 = .ok (.iload_n 2, 1) := by decide +kernel
theorem dc_Mo_game_93 : decode M_Mo_game.2.1 93 = .ok (.if_icmp .ne 5, 3) := by decide +kernel
theorem dc_Mo_game_96 : decode M_Mo_game.2.1 96 = .ok (.iload_n 3, 1) := by decide +kernel
theorem dc_Mo_game_97 : decode M_Mo_game.2.1 97 = .ok (.ireturn, 1) := by decide +kernel
theorem dc_Mo_game_98 : decode M_Mo_game.2.1 98 = .ok (.iinc 3 1, 3) := by decide +kernel
theorem dc_Mo_game_101 : decode M_Mo_game.2.1 101 = .ok (.goto (-51), 3) := by decide +kernel
theorem dc_Mo_game_104 : decode M_Mo_game.2.1 104 = .ok (.iconst (-1), 1) := by decide +kernel
theorem dc_Mo_game_105 : decode M_Mo_game.2.1 105 = .ok (.ireturn, 1) := by decide +kernel
def f_Mo_game_L50 (a0 : Nat) (a1 : Int32) (a2 : Int32) : Nat → Int32 → xH → (Int32 → xH → Option (Int32 × xH)) → Option (Int32 × xH)
  | 0, _, _, _ => none
  | n + 1, a3, h, K => gd (hK h a0 = 11) (if (((hI h a0 7) * ((hI h a0 7) - (1 : Int32))) / (2 : Int32)) ≤ a3 then K a3 h else jn (fun (x18 : xH) => f_Mo_game_L50 a0 a1 a2 n (a3 + (1 : Int32)) x18 K) (fun k19 => if ((jShr (hI h a0 9) a3) &&& (1 : Int32)) = 0 then Option.bind (fo_Mo_turn a0 (hI h a0 8) (hI h a0 9) a3 (1 : Int32) h) (fun q21 => if q21.1 = a2 then some (a3, q21.2) else k19 q21.2) else k19 h))
def f_Mo_game (a0 : Nat) (a1 : Int32) (h : xH) : Option (Int32 × xH) := Option.bind (f_Mo_in a1.toInt64 (0 : Int64) (1 : Int64) h) (fun q8 => if q8.1 = 0 then some ((-2 : Int32), q8.2) else gd (hK q8.2 a0 = 11) (if (hI q8.2 a0 7) ≤ (4 : Int32) then Option.bind (f_Mo_gathers a0 q8.2) (fun q12 => gd (hK q12.2 a0 = 11) (Option.bind (f_Mo_value a0 (hI q12.2 a0 8) (hI q12.2 a0 9) (1 : Int32) q12.2) (fun q14 => if a1 = 0 then some (q14.1, q14.2) else f_Mo_game_L50 a0 a1 q14.1 fu (0 : Int32) q14.2 (fun v23 h24 => some ((-1 : Int32), h24))))) else some ((-3 : Int32), q8.2)))
theorem t_Mo_game_L50 {l : Launch} {z : xZ} {d mc ms : Nat} {Ph : Option xV → xH → Prop} {a0 : Nat} {a1 : Int32} {a2 : Int32}  (hd : 75 ≤ d) : ∀ (n : Nat) (a3 : Int32) (h : xH) (K : Int32 → xH → Option (Int32 × xH)), OK (f_Mo_game_L50 a0 a1 a2 n a3 h K) (fun q => Ph (some (xI q.1)) q.2) → (∀ (a3 : Int32) (h : xH), OK (K a3 h) (fun q => Ph (some (xI q.1)) q.2) → Sx l z d mc ms M_Mo_game 104 [some (xR a0), some (xI a1), some (xI a2), some (xI a3)] [] h Ph) → Sx l z d mc ms M_Mo_game 50 [some (xR a0), some (xI a1), some (xI a2), some (xI a3)] [] h Ph := by
  intro n
  induction n with
  | zero => intro a3 h K hk hE; exact hk.no
  | succ n ih =>
    intro a3 h K hk hE
    rw [f_Mo_game_L50] at hk
    refine sx_iload_n dc_Mo_game_50 rfl ?_
    refine sx_aload_n dc_Mo_game_51 rfl ?_
    obtain ⟨g16, hk⟩ := hk.g
    refine sx_get (ci := 11) (k := 7) rfl (by decide) wF_Mo_23 g16 dc_Mo_game_52 ?_
    refine sx_aload_n dc_Mo_game_55 rfl ?_
    refine sx_get (ci := 11) (k := 7) rfl (by decide) wF_Mo_23 g16 dc_Mo_game_56 ?_
    refine sx_iconst (v := (1 : Int32)) dc_Mo_game_59 (by decide) ?_
    refine sx_isub dc_Mo_game_60 ?_
    refine sx_imul dc_Mo_game_61 ?_
    refine sx_iconst (v := (2 : Int32)) dc_Mo_game_62 (by decide) ?_
    refine sx_idiv dc_Mo_game_63 (by decide) ?_
    refine sx_icmp_ge (tgt := 104) dc_Mo_game_64 (by decide) (fun c17 => ?_) (fun c17 => ?_)
    · replace hk := hk.t c17
      exact hE a3 h hk
    · replace hk := hk.f c17
      refine sx_aload_n dc_Mo_game_67 rfl ?_
      refine sx_get (ci := 11) (k := 9) rfl (by decide) wF_Mo_26 g16 dc_Mo_game_68 ?_
      refine sx_iload_n dc_Mo_game_71 rfl ?_
      refine sx_ishr dc_Mo_game_72 ?_
      refine sx_iconst (v := (1 : Int32)) dc_Mo_game_73 (by decide) ?_
      refine sx_iand dc_Mo_game_74 ?_
      refine hk.j (X := fun x18 => Sx l z d mc ms M_Mo_game 98 [some (xR a0), some (xI a1), some (xI a2), some (xI a3)] [] x18 Ph) (fun x18 hk => ?_) (fun k19 jk19 hk => ?_)
      · refine sx_iinc (v := (1 : Int32)) dc_Mo_game_98 rfl (by decide) (by decide) (sx_eq (lc2 := [some (xR a0), some (xI a1), some (xI a2), some (xI (a3 + (1 : Int32)))]) rfl rfl ?_)
        refine sx_goto (tgt := 50) dc_Mo_game_101 (by decide) ?_
        exact ih (a3 + (1 : Int32)) x18 _ hk hE
      · refine sx_if_ne (tgt := 98) dc_Mo_game_75 (by decide) (fun c20 => ?_) (fun c20 => ?_)
        · replace hk := hk.f c20
          exact jk19 h hk
        · replace hk := hk.t c20
          refine sx_aload_n dc_Mo_game_78 rfl ?_
          refine sx_aload_n dc_Mo_game_79 rfl ?_
          refine sx_get (ci := 11) (k := 8) rfl (by decide) wF_Mo_77 g16 dc_Mo_game_80 ?_
          refine sx_aload_n dc_Mo_game_83 rfl ?_
          refine sx_get (ci := 11) (k := 9) rfl (by decide) wF_Mo_26 g16 dc_Mo_game_84 ?_
          refine sx_iload_n dc_Mo_game_87 rfl ?_
          refine sx_iconst (v := (1 : Int32)) dc_Mo_game_88 (by decide) ?_
          obtain ⟨q21, eq21, hk⟩ := hk.bind
          refine sx_callV (d2 := d - 1) (mc2 := 0) (ms2 := 0) (as := [xI (hI h a0 8), xI (hI h a0 9), xI a3, xI (1 : Int32)]) mk_Mo_turn rfl (x_rk (ci := 11) g16 rfl rfl) wM_Mo_322 mi_Mo_turn me_Mo_turn rfl (Nat.le_of_ble_eq_true rfl) (Nat.le_of_ble_eq_true rfl) dc_Mo_game_89 (by omega) (Nat.zero_le _) (Nat.zero_le _) ?_
          refine to_Mo_turn (by omega) ⟨q21, eq21, ?_⟩
          refine sx_eq0 (lc2 := [some (xR a0), some (xI a1), some (xI a2), some (xI a3)]) (st2 := [xI q21.1]) rfl rfl ?_
          refine sx_iload_n dc_Mo_game_92 rfl ?_
          refine sx_icmp_ne (tgt := 98) dc_Mo_game_93 (by decide) (fun c22 => ?_) (fun c22 => ?_)
          · replace hk := hk.f c22
            exact jk19 q21.2 hk
          · replace hk := hk.t c22
            refine sx_iload_n dc_Mo_game_96 rfl ?_
            exact sx_retI dc_Mo_game_97 rfl hk.val
theorem t_Mo_game {l : Launch} {z : xZ} {d mc ms : Nat} {Ph : Option xV → xH → Prop} {a0 : Nat} {a1 : Int32}  {h : xH} (hd : 154 ≤ d) (hk : OK (f_Mo_game a0 a1 h) (fun q => Ph (some (xI q.1)) q.2)) : Sx l z d mc ms M_Mo_game 0 (x_en [xR a0, xI a1] 4) [] h Ph := by
  unfold f_Mo_game at hk
  refine sx_eq (lc2 := [some (xR a0), some (xI a1), none, none]) rfl rfl ?_
  refine sx_iload_n dc_Mo_game_0 rfl ?_
  refine sx_i2l dc_Mo_game_1 ?_
  refine sx_lconst (v := 0) dc_Mo_game_2 (by decide) ?_
  refine sx_lconst (v := 1) dc_Mo_game_3 (by decide) ?_
  obtain ⟨q8, eq8, hk⟩ := hk.bind
  refine sx_callS (d2 := d - 1) (mc2 := 0) (ms2 := 0) (as := [xJ a1.toInt64, xJ (0 : Int64), xJ (1 : Int64)]) mk_Mo_in rfl wM_Mo_73 mt_Mo_in rfl (Nat.le_of_ble_eq_true rfl) (Nat.le_of_ble_eq_true rfl) dc_Mo_game_4 (by omega) (Nat.zero_le _) (Nat.zero_le _) ?_
  refine t_Mo_in (by omega) ⟨q8, eq8, ?_⟩
  refine sx_eq0 (lc2 := [some (xR a0), some (xI a1), none, none]) (st2 := [xI q8.1]) rfl rfl ?_
  refine sx_if_ne (tgt := 13) dc_Mo_game_7 (by decide) (fun c9 => ?_) (fun c9 => ?_)
  · replace hk := hk.f c9
    refine sx_aload_n dc_Mo_game_13 rfl ?_
    obtain ⟨g10, hk⟩ := hk.g
    refine sx_get (ci := 11) (k := 7) rfl (by decide) wF_Mo_23 g10 dc_Mo_game_14 ?_
    refine sx_iconst (v := (4 : Int32)) dc_Mo_game_17 (by decide) ?_
    refine sx_icmp_le (tgt := 24) dc_Mo_game_18 (by decide) (fun c11 => ?_) (fun c11 => ?_)
    · replace hk := hk.t c11
      refine sx_aload_n dc_Mo_game_24 rfl ?_
      obtain ⟨q12, eq12, hk⟩ := hk.bind
      refine sx_callV (d2 := d - 1) (mc2 := 0) (ms2 := 0) (as := []) mk_Mo_gathers rfl (x_rk (ci := 11) g10 rfl rfl) wM_Mo_263 mi_Mo_gathers me_Mo_gathers rfl (Nat.le_of_ble_eq_true rfl) (Nat.le_of_ble_eq_true rfl) dc_Mo_game_25 (by omega) (Nat.zero_le _) (Nat.zero_le _) ?_
      refine t_Mo_gathers (by omega) ⟨q12, eq12, ?_⟩
      refine sx_eq0 (lc2 := [some (xR a0), some (xI a1), none, none]) (st2 := []) rfl rfl ?_
      refine sx_aload_n dc_Mo_game_28 rfl ?_
      refine sx_aload_n dc_Mo_game_29 rfl ?_
      obtain ⟨g13, hk⟩ := hk.g
      refine sx_get (ci := 11) (k := 8) rfl (by decide) wF_Mo_77 g13 dc_Mo_game_30 ?_
      refine sx_aload_n dc_Mo_game_33 rfl ?_
      refine sx_get (ci := 11) (k := 9) rfl (by decide) wF_Mo_26 g13 dc_Mo_game_34 ?_
      refine sx_iconst (v := (1 : Int32)) dc_Mo_game_37 (by decide) ?_
      obtain ⟨q14, eq14, hk⟩ := hk.bind
      refine sx_callV (d2 := d - 1) (mc2 := 0) (ms2 := 0) (as := [xI (hI q12.2 a0 8), xI (hI q12.2 a0 9), xI (1 : Int32)]) mk_Mo_value rfl (x_rk (ci := 11) g13 rfl rfl) wM_Mo_319 mi_Mo_value me_Mo_value rfl (Nat.le_of_ble_eq_true rfl) (Nat.le_of_ble_eq_true rfl) dc_Mo_game_38 (by omega) (Nat.zero_le _) (Nat.zero_le _) ?_
      refine t_Mo_value (by omega) ⟨q14, eq14, ?_⟩
      refine sx_eq0 (lc2 := [some (xR a0), some (xI a1), none, none]) (st2 := [xI q14.1]) rfl rfl ?_
      refine sx_istore_n dc_Mo_game_41 (by decide) (sx_eq (lc2 := [some (xR a0), some (xI a1), some (xI q14.1), none]) rfl rfl ?_)
      refine sx_iload_n dc_Mo_game_42 rfl ?_
      refine sx_if_ne (tgt := 48) dc_Mo_game_43 (by decide) (fun c15 => ?_) (fun c15 => ?_)
      · replace hk := hk.f c15
        refine sx_iconst (v := (0 : Int32)) dc_Mo_game_48 (by decide) ?_
        refine sx_istore_n dc_Mo_game_49 (by decide) (sx_eq (lc2 := [some (xR a0), some (xI a1), some (xI q14.1), some (xI (0 : Int32))]) rfl rfl ?_)
        refine t_Mo_game_L50 (by omega) _ _ _ _ hk (fun v23 h24 hk => ?_)
        refine sx_iconst (v := (-1 : Int32)) dc_Mo_game_104 (by decide) ?_
        exact sx_retI dc_Mo_game_105 rfl hk.val
      · replace hk := hk.t c15
        refine sx_iload_n dc_Mo_game_46 rfl ?_
        exact sx_retI dc_Mo_game_47 rfl hk.val
    · replace hk := hk.f c11
      refine sx_bipush (v := (-3 : Int32)) dc_Mo_game_21 (by decide) ?_
      exact sx_retI dc_Mo_game_23 rfl hk.val
  · replace hk := hk.t c9
    refine sx_bipush (v := (-2 : Int32)) dc_Mo_game_10 (by decide) ?_
    exact sx_retI dc_Mo_game_12 rfl hk.val
theorem dc_Mo_isSheet_0 : decode M_Mo_isSheet.2.1 0 = .ok (.iload_n 0, 1) := by decide +kernel
theorem dc_Mo_isSheet_1 : decode M_Mo_isSheet.2.1 1 = .ok (.i2l, 1) := by decide +kernel
theorem dc_Mo_isSheet_2 : decode M_Mo_isSheet.2.1 2 = .ok (.lconst 0, 1) := by decide +kernel
theorem dc_Mo_isSheet_3 : decode M_Mo_isSheet.2.1 3 = .ok (.ldc2_w 340, 3) := by decide +kernel
theorem dc_Mo_isSheet_6 : decode M_Mo_isSheet.2.1 6 = .ok (.invokestatic 73, 3) := by decide +kernel
theorem dc_Mo_isSheet_9 : decode M_Mo_isSheet.2.1 9 = .ok (.ireturn, 1) := by decide +kernel
def f_Mo_isSheet (a0 : Int32) (h : xH) : Option (Int32 × xH) := Option.bind (f_Mo_in a0.toInt64 (0 : Int64) (3 : Int64) h) (fun q2 => some (nb q2.1, q2.2))
theorem t_Mo_isSheet {l : Launch} {z : xZ} {d mc ms : Nat} {Ph : Option xV → xH → Prop} {a0 : Int32}  {h : xH} (hd : 2 ≤ d) (hk : OK (f_Mo_isSheet a0 h) (fun q => Ph (some (xI q.1)) q.2)) : Sx l z d mc ms M_Mo_isSheet 0 (x_en [xI a0] 1) [] h Ph := by
  unfold f_Mo_isSheet at hk
  refine sx_eq (lc2 := [some (xI a0)]) rfl rfl ?_
  refine sx_iload_n dc_Mo_isSheet_0 rfl ?_
  refine sx_i2l dc_Mo_isSheet_1 ?_
  refine sx_lconst (v := 0) dc_Mo_isSheet_2 (by decide) ?_
  refine sx_ldc2 (v := 3) wJ_Mo_340 dc_Mo_isSheet_3 ?_
  obtain ⟨q2, eq2, hk⟩ := hk.bind
  refine sx_callS (d2 := d - 1) (mc2 := 0) (ms2 := 0) (as := [xJ a0.toInt64, xJ (0 : Int64), xJ (3 : Int64)]) mk_Mo_in rfl wM_Mo_73 mt_Mo_in rfl (Nat.le_of_ble_eq_true rfl) (Nat.le_of_ble_eq_true rfl) dc_Mo_isSheet_6 (by omega) (Nat.zero_le _) (Nat.zero_le _) ?_
  refine t_Mo_in (by omega) ⟨q2, eq2, ?_⟩
  refine sx_eq0 (lc2 := [some (xI a0)]) (st2 := [xI q2.1]) rfl rfl ?_
  exact sx_retT dc_Mo_isSheet_9 (Or.inl ⟨rfl, rfl⟩) rfl hk.val
theorem dc_Mo_judge_0 : decode M_Mo_judge.2.1 0 = .ok (.iload_n 1, 1) := by decide +kernel
theorem dc_Mo_judge_1 : decode M_Mo_judge.2.1 1 = .ok (.invokestatic 325, 3) := by decide +kernel
theorem dc_Mo_judge_4 : decode M_Mo_judge.2.1 4 = .ok (.ifCond .eq 13, 3) := by decide +kernel
theorem dc_Mo_judge_7 : decode M_Mo_judge.2.1 7 = .ok (.iload_n 2, 1) := by decide +kernel
theorem dc_Mo_judge_8 : decode M_Mo_judge.2.1 8 = .ok (.i2l, 1) := by decide +kernel
theorem dc_Mo_judge_9 : decode M_Mo_judge.2.1 9 = .ok (.lconst 0, 1) := by decide +kernel
theorem dc_Mo_judge_10 : decode M_Mo_judge.2.1 10 = .ok (.lconst 1, 1) := by decide +kernel
theorem dc_Mo_judge_11 : decode M_Mo_judge.2.1 11 = .ok (.invokestatic 73, 3) := by decide +kernel
theorem dc_Mo_judge_14 : decode M_Mo_judge.2.1 14 = .ok (.ifCond .ne 6, 3) := by decide +kernel
theorem dc_Mo_judge_17 : decode M_Mo_judge.2.1 17 = .ok (.bipush (-2), 2) := by decide +kernel
theorem dc_Mo_judge_19 : decode M_Mo_judge.2.1 19 = .ok (.ireturn, 1) := by decide +kernel
theorem dc_Mo_judge_20 : decode M_Mo_judge.2.1 20 = .ok (.aload_n 0, 1) := by decide +kernel
theorem dc_Mo_judge_21 : decode M_Mo_judge.2.1 21 = .ok (.getfield 54, 3) := by decide +kernel
theorem dc_Mo_judge_24 : decode M_Mo_judge.2.1 24 = .ok (.iload_n 1, 1) := by decide +kernel
theorem dc_Mo_judge_25 : decode M_Mo_judge.2.1 25 = .ok (.baload, 1) := by decide +kernel
theorem dc_Mo_judge_26 : decode M_Mo_judge.2.1 26 = .ok (.ifCond .ne 6, 3) := by decide +kernel
theorem dc_Mo_judge_29 : decode M_Mo_judge.2.1 29 = .ok (.bipush (-11), 2) := by decide +kernel
theorem dc_Mo_judge_31 : decode M_Mo_judge.2.1 31 = .ok (.ireturn, 1) := by decide +kernel
theorem dc_Mo_judge_32 : decode M_Mo_judge.2.1 32 = .ok (.aload_n 0, 1) := by decide +kernel
theorem dc_Mo_judge_33 : decode M_Mo_judge.2.1 33 = .ok (.invokevirtual 263, 3) := by decide +kernel
theorem dc_Mo_judge_36 : decode M_Mo_judge.2.1 36 = .ok (.aload_n 0, 1) := by decide +kernel
theorem dc_Mo_judge_37 : decode M_Mo_judge.2.1 37 = .ok (.getfield 77, 3) := by decide +kernel
theorem dc_Mo_judge_40 : decode M_Mo_judge.2.1 40 = .ok (.istore_n 3, 1) := by decide +kernel
theorem dc_Mo_judge_41 : decode M_Mo_judge.2.1 41 = .ok (.iconst (-1), 1) := by decide +kernel
theorem dc_Mo_judge_42 : decode M_Mo_judge.2.1 42 = .ok (.istore 4, 2) := by decide +kernel
theorem dc_Mo_judge_44 : decode M_Mo_judge.2.1 44 = .ok (.iconst (-1), 1) := by decide +kernel
theorem dc_Mo_judge_45 : decode M_Mo_judge.2.1 45 = .ok (.istore 5, 2) := by decide +kernel
theorem dc_Mo_judge_47 : decode M_Mo_judge.2.1 47 = .ok (.iconst 0, 1) := by decide +kernel
theorem dc_Mo_judge_48 : decode M_Mo_judge.2.1 48 = .ok (.istore 6, 2) := by decide +kernel
theorem dc_Mo_judge_50 : decode M_Mo_judge.2.1 50 = .ok (.iload 6, 2) := by decide +kernel
theorem dc_Mo_judge_52 : decode M_Mo_judge.2.1 52 = .ok (.aload_n 0, 1) := by decide +kernel
theorem dc_Mo_judge_53 : decode M_Mo_judge.2.1 53 = .ok (.getfield 60, 3) := by decide +kernel
theorem dc_Mo_judge_56 : decode M_Mo_judge.2.1 56 = .ok (.iload_n 1, 1) := by decide +kernel
theorem dc_Mo_judge_57 : decode M_Mo_judge.2.1 57 = .ok (.iaload, 1) := by decide +kernel
theorem dc_Mo_judge_58 : decode M_Mo_judge.2.1 58 = .ok (.if_icmp .ge 157, 3) := by decide +kernel
theorem dc_Mo_judge_61 : decode M_Mo_judge.2.1 61 = .ok (.iload 4, 2) := by decide +kernel
theorem dc_Mo_judge_63 : decode M_Mo_judge.2.1 63 = .ok (.iconst (-1), 1) := by decide +kernel
theorem dc_Mo_judge_64 : decode M_Mo_judge.2.1 64 = .ok (.if_icmp .ne 151, 3) := by decide +kernel
theorem dc_Mo_judge_67 : decode M_Mo_judge.2.1 67 = .ok (.aload_n 0, 1) := by decide +kernel
theorem dc_Mo_judge_68 : decode M_Mo_judge.2.1 68 = .ok (.getfield 63, 3) := by decide +kernel
theorem dc_Mo_judge_71 : decode M_Mo_judge.2.1 71 = .ok (.bipush 40, 2) := by decide +kernel
theorem dc_Mo_judge_73 : decode M_Mo_judge.2.1 73 = .ok (.iload_n 1, 1) := by decide +kernel
theorem dc_Mo_judge_74 : decode M_Mo_judge.2.1 74 = .ok (.imul, 1) := by decide +kernel
theorem dc_Mo_judge_75 : decode M_Mo_judge.2.1 75 = .ok (.iload 6, 2) := by decide +kernel
theorem dc_Mo_judge_77 : decode M_Mo_judge.2.1 77 = .ok (.iadd, 1) := by decide +kernel
theorem dc_Mo_judge_78 : decode M_Mo_judge.2.1 78 = .ok (.iaload, 1) := by decide +kernel
theorem dc_Mo_judge_79 : decode M_Mo_judge.2.1 79 = .ok (.istore 7, 2) := by decide +kernel
theorem dc_Mo_judge_81 : decode M_Mo_judge.2.1 81 = .ok (.iload 7, 2) := by decide +kernel
theorem dc_Mo_judge_83 : decode M_Mo_judge.2.1 83 = .ok (.ifCond .lt 41, 3) := by decide +kernel
theorem dc_Mo_judge_86 : decode M_Mo_judge.2.1 86 = .ok (.aload_n 0, 1) := by decide +kernel
theorem dc_Mo_judge_87 : decode M_Mo_judge.2.1 87 = .ok (.iload 7, 2) := by decide +kernel
theorem dc_Mo_judge_89 : decode M_Mo_judge.2.1 89 = .ok (.bipush 10, 2) := by decide +kernel
theorem dc_Mo_judge_91 : decode M_Mo_judge.2.1 91 = .ok (.idiv, 1) := by decide +kernel
theorem dc_Mo_judge_92 : decode M_Mo_judge.2.1 92 = .ok (.iload 7, 2) := by decide +kernel
theorem dc_Mo_judge_94 : decode M_Mo_judge.2.1 94 = .ok (.bipush 10, 2) := by decide +kernel
theorem dc_Mo_judge_96 : decode M_Mo_judge.2.1 96 = .ok (.irem, 1) := by decide +kernel
theorem dc_Mo_judge_97 : decode M_Mo_judge.2.1 97 = .ok (.invokevirtual 94, 3) := by decide +kernel
theorem dc_Mo_judge_100 : decode M_Mo_judge.2.1 100 = .ok (.ifCond .eq 24, 3) := by decide +kernel
theorem dc_Mo_judge_103 : decode M_Mo_judge.2.1 103 = .ok (.iload_n 3, 1) := by decide +kernel
theorem dc_Mo_judge_104 : decode M_Mo_judge.2.1 104 = .ok (.iload 7, 2) := by decide +kernel
theorem dc_Mo_judge_106 : decode M_Mo_judge.2.1 106 = .ok (.bipush 10, 2) := by decide +kernel
theorem dc_Mo_judge_108 : decode M_Mo_judge.2.1 108 = .ok (.idiv, 1) := by decide +kernel
theorem dc_Mo_judge_109 : decode M_Mo_judge.2.1 109 = .ok (.iload 7, 2) := by decide +kernel
theorem dc_Mo_judge_111 : decode M_Mo_judge.2.1 111 = .ok (.bipush 10, 2) := by decide +kernel
theorem dc_Mo_judge_113 : decode M_Mo_judge.2.1 113 = .ok (.irem, 1) := by decide +kernel
theorem dc_Mo_judge_114 : decode M_Mo_judge.2.1 114 = .ok (.invokestatic 80, 3) := by decide +kernel
theorem dc_Mo_judge_117 : decode M_Mo_judge.2.1 117 = .ok (.ishr, 1) := by decide +kernel
theorem dc_Mo_judge_118 : decode M_Mo_judge.2.1 118 = .ok (.iconst 1, 1) := by decide +kernel
theorem dc_Mo_judge_119 : decode M_Mo_judge.2.1 119 = .ok (.iand, 1) := by decide +kernel
theorem dc_Mo_judge_120 : decode M_Mo_judge.2.1 120 = .ok (.iconst 1, 1) := by decide +kernel
theorem dc_Mo_judge_121 : decode M_Mo_judge.2.1 121 = .ok (.if_icmp .ne 10, 3) := by decide +kernel
theorem dc_Mo_judge_124 : decode M_Mo_judge.2.1 124 = .ok (.iload 6, 2) := by decide +kernel
theorem dc_Mo_judge_126 : decode M_Mo_judge.2.1 126 = .ok (.istore 4, 2) := by decide +kernel
theorem dc_Mo_judge_128 : decode M_Mo_judge.2.1 128 = .ok (.goto 81, 3) := by decide +kernel
theorem dc_Mo_judge_131 : decode M_Mo_judge.2.1 131 = .ok (.iload_n 3, 1) := by decide +kernel
theorem dc_Mo_judge_132 : decode M_Mo_judge.2.1 132 = .ok (.iconst 1, 1) := by decide +kernel
theorem dc_Mo_judge_133 : decode M_Mo_judge.2.1 133 = .ok (.iload 7, 2) := by decide +kernel
theorem dc_Mo_judge_135 : decode M_Mo_judge.2.1 135 = .ok (.bipush 10, 2) := by decide +kernel
theorem dc_Mo_judge_137 : decode M_Mo_judge.2.1 137 = .ok (.idiv, 1) := by decide +kernel
theorem dc_Mo_judge_138 : decode M_Mo_judge.2.1 138 = .ok (.iload 7, 2) := by decide +kernel
theorem dc_Mo_judge_140 : decode M_Mo_judge.2.1 140 = .ok (.bipush 10, 2) := by decide +kernel
theorem dc_Mo_judge_142 : decode M_Mo_judge.2.1 142 = .ok (.irem, 1) := by decide +kernel
theorem dc_Mo_judge_143 : decode M_Mo_judge.2.1 143 = .ok (.invokestatic 80, 3) := by decide +kernel
theorem dc_Mo_judge_146 : decode M_Mo_judge.2.1 146 = .ok (.ishl, 1) := by decide +kernel
theorem dc_Mo_judge_147 : decode M_Mo_judge.2.1 147 = .ok (.ior, 1) := by decide +kernel
theorem dc_Mo_judge_148 : decode M_Mo_judge.2.1 148 = .ok (.istore_n 3, 1) := by decide +kernel
theorem dc_Mo_judge_149 : decode M_Mo_judge.2.1 149 = .ok (.iconst 0, 1) := by decide +kernel
theorem dc_Mo_judge_150 : decode M_Mo_judge.2.1 150 = .ok (.istore 8, 2) := by decide +kernel
theorem dc_Mo_judge_152 : decode M_Mo_judge.2.1 152 = .ok (.iconst 0, 1) := by decide +kernel
theorem dc_Mo_judge_153 : decode M_Mo_judge.2.1 153 = .ok (.istore 9, 2) := by decide +kernel
theorem dc_Mo_judge_155 : decode M_Mo_judge.2.1 155 = .ok (.iload 9, 2) := by decide +kernel
theorem dc_Mo_judge_157 : decode M_Mo_judge.2.1 157 = .ok (.aload_n 0, 1) := by decide +kernel
theorem dc_Mo_judge_158 : decode M_Mo_judge.2.1 158 = .ok (.getfield 245, 3) := by decide +kernel
theorem dc_Mo_judge_161 : decode M_Mo_judge.2.1 161 = .ok (.if_icmp .ge 33, 3) := by decide +kernel
theorem dc_Mo_judge_164 : decode M_Mo_judge.2.1 164 = .ok (.iload 8, 2) := by decide +kernel
theorem dc_Mo_judge_166 : decode M_Mo_judge.2.1 166 = .ok (.ifCond .ne 15, 3) := by decide +kernel
theorem dc_Mo_judge_169 : decode M_Mo_judge.2.1 169 = .ok (.aload_n 0, 1) := by decide +kernel
theorem dc_Mo_judge_170 : decode M_Mo_judge.2.1 170 = .ok (.iload 9, 2) := by decide +kernel
theorem dc_Mo_judge_172 : decode M_Mo_judge.2.1 172 = .ok (.iload_n 3, 1) := by decide +kernel
theorem dc_Mo_judge_173 : decode M_Mo_judge.2.1 173 = .ok (.iconst 0, 1) := by decide +kernel
theorem dc_Mo_judge_174 : decode M_Mo_judge.2.1 174 = .ok (.invokevirtual 252, 3) := by decide +kernel
theorem dc_Mo_judge_177 : decode M_Mo_judge.2.1 177 = .ok (.iconst 1, 1) := by decide +kernel
theorem dc_Mo_judge_178 : decode M_Mo_judge.2.1 178 = .ok (.if_icmp .ne 7, 3) := by decide +kernel
theorem dc_Mo_judge_181 : decode M_Mo_judge.2.1 181 = .ok (.iconst 1, 1) := by decide +kernel
theorem dc_Mo_judge_182 : decode M_Mo_judge.2.1 182 = .ok (.goto 4, 3) := by decide +kernel
theorem dc_Mo_judge_185 : decode M_Mo_judge.2.1 185 = .ok (.iconst 0, 1) := by decide +kernel
theorem dc_Mo_judge_186 : decode M_Mo_judge.2.1 186 = .ok (.istore 8, 2) := by decide +kernel
theorem dc_Mo_judge_188 : decode M_Mo_judge.2.1 188 = .ok (.iinc 9 1, 3) := by decide +kernel
theorem dc_Mo_judge_191 : decode M_Mo_judge.2.1 191 = .ok (.goto (-36), 3) := by decide +kernel
theorem dc_Mo_judge_194 : decode M_Mo_judge.2.1 194 = .ok (.iload 8, 2) := by decide +kernel
theorem dc_Mo_judge_196 : decode M_Mo_judge.2.1 196 = .ok (.ifCond .eq 13, 3) := by decide +kernel
theorem dc_Mo_judge_199 : decode M_Mo_judge.2.1 199 = .ok (.iload 5, 2) := by decide +kernel
theorem dc_Mo_judge_201 : decode M_Mo_judge.2.1 201 = .ok (.iconst (-1), 1) := by decide +kernel
theorem dc_Mo_judge_202 : decode M_Mo_judge.2.1 202 = .ok (.if_icmp .ne 7, 3) := by decide +kernel
theorem dc_Mo_judge_205 : decode M_Mo_judge.2.1 205 = .ok (.iload 6, 2) := by decide +kernel
theorem dc_Mo_judge_207 : decode M_Mo_judge.2.1 207 = .ok (.istore 5, 2) := by decide +kernel
theorem dc_Mo_judge_209 : decode M_Mo_judge.2.1 209 = .ok (.iinc 6 1, 3) := by decide +kernel
theorem dc_Mo_judge_212 : decode M_Mo_judge.2.1 212 = .ok (.goto (-162), 3) := by decide +kernel
theorem dc_Mo_judge_215 : decode M_Mo_judge.2.1 215 = .ok (.iload_n 2, 1) := by decide +kernel
theorem dc_Mo_judge_216 : decode M_Mo_judge.2.1 216 = .ok (.ifCond .ne 8, 3) := by decide +kernel
theorem dc_Mo_judge_219 : decode M_Mo_judge.2.1 219 = .ok (.iload 4, 2) := by decide +kernel
theorem dc_Mo_judge_221 : decode M_Mo_judge.2.1 221 = .ok (.goto 5, 3) := by decide +kernel
theorem dc_Mo_judge_224 : decode M_Mo_judge.2.1 224 = .ok (.iload 5, 2) := by decide +kernel
theorem dc_Mo_judge_226 : decode M_Mo_judge.2.1 226 = .ok (.ireturn, 1) := by decide +kernel
def f_Mo_judge_L155 (a0 : Nat) (a1 : Int32) (a2 : Int32) (a3 : Int32) (a4 : Int32) (a5 : Int32) (a6 : Int32) (a7 : Int32) : Nat → Int32 → Int32 → xH → (Int32 → Int32 → xH → Option (Int32 × xH)) → Option (Int32 × xH)
  | 0, _, _, _, _ => none
  | n + 1, a8, a9, h, K => gd (hK h a0 = 11) (if (hI h a0 32) ≤ a9 then K a8 a9 h else jn (fun (x48 : Int32 × xH) => f_Mo_judge_L155 a0 a1 a2 a3 a4 a5 a6 a7 n x48.1 (a9 + (1 : Int32)) x48.2 K) (fun k49 => jn (fun (x50 : xH) => k49 ((1 : Int32), x50)) (fun k51 => if a8 = 0 then Option.bind (f_Mo_sortOf a0 a9 a3 (0 : Int32) h) (fun q53 => if q53.1 = (1 : Int32) then k51 q53.2 else k49 ((0 : Int32), q53.2)) else k51 h)))
def f_Mo_judge_L50 (a0 : Nat) (a1 : Int32) (a2 : Int32) : Nat → Int32 → Int32 → Int32 → Int32 → xH → (Int32 → Int32 → Int32 → Int32 → xH → Option (Int32 × xH)) → Option (Int32 × xH)
  | 0, _, _, _, _, _, _ => none
  | n + 1, a3, a4, a5, a6, h, K => gd (hK h a0 = 11) (gd (hK h (hR h a0 43) = 12) (gd (¬ (a1 < 0 ∨ hL h (hR h a0 43) ≤ a1.toNatClampNeg)) (if (hI h (hR h a0 43) a1.toNatClampNeg) ≤ a6 then K a3 a4 a5 a6 h else if a4 = (-1 : Int32) then gd (hK h (hR h a0 44) = 12) (gd (¬ ((((40 : Int32) * a1) + a6) < 0 ∨ hL h (hR h a0 44) ≤ (((40 : Int32) * a1) + a6).toNatClampNeg)) (jn (fun (x36 : Int32 × Int32 × Int32 × xH) => f_Mo_judge_L50 a0 a1 a2 n x36.1 x36.2.1 x36.2.2.1 (a6 + (1 : Int32)) x36.2.2.2 K) (fun k37 => jn (fun (x38 : xH) => k37 (a3, a6, a5, x38)) (fun k39 => if (hI h (hR h a0 44) (((40 : Int32) * a1) + a6).toNatClampNeg) < 0 then k39 h else Option.bind (f_Mo_isPair a0 ((hI h (hR h a0 44) (((40 : Int32) * a1) + a6).toNatClampNeg) / (10 : Int32)) (jRem (hI h (hR h a0 44) (((40 : Int32) * a1) + a6).toNatClampNeg) (10 : Int32)) h) (fun q41 => if q41.1 = 0 then k39 q41.2 else Option.bind (f_Mo_seat ((hI h (hR h a0 44) (((40 : Int32) * a1) + a6).toNatClampNeg) / (10 : Int32)) (jRem (hI h (hR h a0 44) (((40 : Int32) * a1) + a6).toNatClampNeg) (10 : Int32)) q41.2) (fun q43 => if ((jShr a3 q43.1) &&& (1 : Int32)) = (1 : Int32) then k39 q43.2 else Option.bind (f_Mo_seat ((hI h (hR h a0 44) (((40 : Int32) * a1) + a6).toNatClampNeg) / (10 : Int32)) (jRem (hI h (hR h a0 44) (((40 : Int32) * a1) + a6).toNatClampNeg) (10 : Int32)) q43.2) (fun q45 => f_Mo_judge_L155 a0 a1 a2 (a3 ||| (jShl (1 : Int32) q45.1)) a4 a5 a6 (hI h (hR h a0 44) (((40 : Int32) * a1) + a6).toNatClampNeg) fu (0 : Int32) (0 : Int32) q45.2 (fun v55 v56 h57 => if v55 = 0 then k37 ((a3 ||| (jShl (1 : Int32) q45.1)), a4, a5, h57) else if a5 = (-1 : Int32) then k37 ((a3 ||| (jShl (1 : Int32) q45.1)), a4, a6, h57) else k37 ((a3 ||| (jShl (1 : Int32) q45.1)), a4, a5, h57))))))))) else K a3 a4 a5 a6 h)))
def f_Mo_judge (a0 : Nat) (a1 : Int32) (a2 : Int32) (h : xH) : Option (Int32 × xH) := Option.bind (f_Mo_isSheet a1 h) (fun q17 => jn (fun (x18 : xH) => some ((-2 : Int32), x18)) (fun k19 => if q17.1 = 0 then k19 q17.2 else Option.bind (f_Mo_in a2.toInt64 (0 : Int64) (1 : Int64) q17.2) (fun q21 => if q21.1 = 0 then k19 q21.2 else gd (hK q21.2 a0 = 11) (gd (hK q21.2 (hR q21.2 a0 41) = 13) (gd (¬ (a1 < 0 ∨ hL q21.2 (hR q21.2 a0 41) ≤ a1.toNatClampNeg)) (if (hI q21.2 (hR q21.2 a0 41) a1.toNatClampNeg) = 0 then some ((-11 : Int32), q21.2) else Option.bind (f_Mo_gathers a0 q21.2) (fun q27 => gd (hK q27.2 a0 = 11) (f_Mo_judge_L50 a0 a1 a2 fu (hI q27.2 a0 8) (-1 : Int32) (-1 : Int32) (0 : Int32) q27.2 (fun v60 v61 v62 v63 h64 => some ((if a2 = 0 then v61 else v62), h64))))))))))
theorem t_Mo_judge_L155 {l : Launch} {z : xZ} {d mc ms : Nat} {Ph : Option xV → xH → Prop} {a0 : Nat} {a1 : Int32} {a2 : Int32} {a3 : Int32} {a4 : Int32} {a5 : Int32} {a6 : Int32} {a7 : Int32}  (hd : 2 ≤ d) : ∀ (n : Nat) (a8 : Int32) (a9 : Int32) (h : xH) (K : Int32 → Int32 → xH → Option (Int32 × xH)), OK (f_Mo_judge_L155 a0 a1 a2 a3 a4 a5 a6 a7 n a8 a9 h K) (fun q => Ph (some (xI q.1)) q.2) → (∀ (a8 : Int32) (a9 : Int32) (h : xH), OK (K a8 a9 h) (fun q => Ph (some (xI q.1)) q.2) → Sx l z d mc ms M_Mo_judge 194 [some (xR a0), some (xI a1), some (xI a2), some (xI a3), some (xI a4), some (xI a5), some (xI a6), some (xI a7), some (xI a8), some (xI a9)] [] h Ph) → Sx l z d mc ms M_Mo_judge 155 [some (xR a0), some (xI a1), some (xI a2), some (xI a3), some (xI a4), some (xI a5), some (xI a6), some (xI a7), some (xI a8), some (xI a9)] [] h Ph := by
  intro n
  induction n with
  | zero => intro a8 a9 h K hk hE; exact hk.no
  | succ n ih =>
    intro a8 a9 h K hk hE
    rw [f_Mo_judge_L155] at hk
    refine sx_iload dc_Mo_judge_155 rfl ?_
    refine sx_aload_n dc_Mo_judge_157 rfl ?_
    obtain ⟨g46, hk⟩ := hk.g
    refine sx_get (ci := 11) (k := 32) rfl (by decide) wF_Mo_245 g46 dc_Mo_judge_158 ?_
    refine sx_icmp_ge (tgt := 194) dc_Mo_judge_161 (by decide) (fun c47 => ?_) (fun c47 => ?_)
    · replace hk := hk.t c47
      exact hE a8 a9 h hk
    · replace hk := hk.f c47
      refine sx_iload dc_Mo_judge_164 rfl ?_
      refine hk.j (X := fun x48 => Sx l z d mc ms M_Mo_judge 186 [some (xR a0), some (xI a1), some (xI a2), some (xI a3), some (xI a4), some (xI a5), some (xI a6), some (xI a7), some (xI a8), some (xI a9)] [xI x48.1] x48.2 Ph) (fun x48 hk => ?_) (fun k49 jk49 hk => ?_)
      · refine sx_istore dc_Mo_judge_186 (by decide) (sx_eq (lc2 := [some (xR a0), some (xI a1), some (xI a2), some (xI a3), some (xI a4), some (xI a5), some (xI a6), some (xI a7), some (xI x48.1), some (xI a9)]) rfl rfl ?_)
        refine sx_iinc (v := (1 : Int32)) dc_Mo_judge_188 rfl (by decide) (by decide) (sx_eq (lc2 := [some (xR a0), some (xI a1), some (xI a2), some (xI a3), some (xI a4), some (xI a5), some (xI a6), some (xI a7), some (xI x48.1), some (xI (a9 + (1 : Int32)))]) rfl rfl ?_)
        refine sx_goto (tgt := 155) dc_Mo_judge_191 (by decide) ?_
        exact ih x48.1 (a9 + (1 : Int32)) x48.2 _ hk hE
      · refine hk.j (X := fun x50 => Sx l z d mc ms M_Mo_judge 181 [some (xR a0), some (xI a1), some (xI a2), some (xI a3), some (xI a4), some (xI a5), some (xI a6), some (xI a7), some (xI a8), some (xI a9)] [] x50 Ph) (fun x50 hk => ?_) (fun k51 jk51 hk => ?_)
        · refine sx_iconst (v := (1 : Int32)) dc_Mo_judge_181 (by decide) ?_
          refine sx_goto (tgt := 186) dc_Mo_judge_182 (by decide) ?_
          exact jk49 ((1 : Int32), x50) hk
        · refine sx_if_ne (tgt := 181) dc_Mo_judge_166 (by decide) (fun c52 => ?_) (fun c52 => ?_)
          · replace hk := hk.f c52
            exact jk51 h hk
          · replace hk := hk.t c52
            refine sx_aload_n dc_Mo_judge_169 rfl ?_
            refine sx_iload dc_Mo_judge_170 rfl ?_
            refine sx_iload_n dc_Mo_judge_172 rfl ?_
            refine sx_iconst (v := (0 : Int32)) dc_Mo_judge_173 (by decide) ?_
            obtain ⟨q53, eq53, hk⟩ := hk.bind
            refine sx_callV (d2 := d - 1) (mc2 := 0) (ms2 := 0) (as := [xI a9, xI a3, xI (0 : Int32)]) mk_Mo_sortOf rfl (x_rk (ci := 11) g46 rfl rfl) wM_Mo_252 mi_Mo_sortOf me_Mo_sortOf rfl (Nat.le_of_ble_eq_true rfl) (Nat.le_of_ble_eq_true rfl) dc_Mo_judge_174 (by omega) (Nat.zero_le _) (Nat.zero_le _) ?_
            refine t_Mo_sortOf (by omega) ⟨q53, eq53, ?_⟩
            refine sx_eq0 (lc2 := [some (xR a0), some (xI a1), some (xI a2), some (xI a3), some (xI a4), some (xI a5), some (xI a6), some (xI a7), some (xI a8), some (xI a9)]) (st2 := [xI q53.1]) rfl rfl ?_
            refine sx_iconst (v := (1 : Int32)) dc_Mo_judge_177 (by decide) ?_
            refine sx_icmp_ne (tgt := 185) dc_Mo_judge_178 (by decide) (fun c54 => ?_) (fun c54 => ?_)
            · replace hk := hk.f c54
              refine sx_iconst (v := (0 : Int32)) dc_Mo_judge_185 (by decide) ?_
              exact jk49 ((0 : Int32), q53.2) hk
            · replace hk := hk.t c54
              exact jk51 q53.2 hk
theorem t_Mo_judge_L50 {l : Launch} {z : xZ} {d mc ms : Nat} {Ph : Option xV → xH → Prop} {a0 : Nat} {a1 : Int32} {a2 : Int32}  (hd : 4 ≤ d) : ∀ (n : Nat) (a3 : Int32) (a4 : Int32) (a5 : Int32) (a6 : Int32) (h : xH) (K : Int32 → Int32 → Int32 → Int32 → xH → Option (Int32 × xH)), OK (f_Mo_judge_L50 a0 a1 a2 n a3 a4 a5 a6 h K) (fun q => Ph (some (xI q.1)) q.2) → (∀ (a3 : Int32) (a4 : Int32) (a5 : Int32) (a6 : Int32) (h : xH), OK (K a3 a4 a5 a6 h) (fun q => Ph (some (xI q.1)) q.2) → Sx l z d mc ms M_Mo_judge 215 [some (xR a0), some (xI a1), some (xI a2), some (xI a3), some (xI a4), some (xI a5), some (xI a6), none, none, none] [] h Ph) → Sx l z d mc ms M_Mo_judge 50 [some (xR a0), some (xI a1), some (xI a2), some (xI a3), some (xI a4), some (xI a5), some (xI a6), none, none, none] [] h Ph := by
  intro n
  induction n with
  | zero => intro a3 a4 a5 a6 h K hk hE; exact hk.no
  | succ n ih =>
    intro a3 a4 a5 a6 h K hk hE
    rw [f_Mo_judge_L50] at hk
    refine sx_iload dc_Mo_judge_50 rfl ?_
    refine sx_aload_n dc_Mo_judge_52 rfl ?_
    obtain ⟨g29, hk⟩ := hk.g
    refine sx_get (ci := 11) (k := 43) rfl (by decide) wF_Mo_60 g29 dc_Mo_judge_53 ?_
    refine sx_iload_n dc_Mo_judge_56 rfl ?_
    obtain ⟨g30, hk⟩ := hk.g
    obtain ⟨g31, hk⟩ := hk.g
    refine sx_iald g30 g31 dc_Mo_judge_57 ?_
    refine sx_icmp_ge (tgt := 215) dc_Mo_judge_58 (by decide) (fun c32 => ?_) (fun c32 => ?_)
    · replace hk := hk.t c32
      exact hE a3 a4 a5 a6 h hk
    · replace hk := hk.f c32
      refine sx_iload dc_Mo_judge_61 rfl ?_
      refine sx_iconst (v := (-1 : Int32)) dc_Mo_judge_63 (by decide) ?_
      refine sx_icmp_ne (tgt := 215) dc_Mo_judge_64 (by decide) (fun c33 => ?_) (fun c33 => ?_)
      · replace hk := hk.f c33
        exact hE a3 a4 a5 a6 h hk
      · replace hk := hk.t c33
        refine sx_aload_n dc_Mo_judge_67 rfl ?_
        refine sx_get (ci := 11) (k := 44) rfl (by decide) wF_Mo_63 g29 dc_Mo_judge_68 ?_
        refine sx_bipush (v := (40 : Int32)) dc_Mo_judge_71 (by decide) ?_
        refine sx_iload_n dc_Mo_judge_73 rfl ?_
        refine sx_imul dc_Mo_judge_74 ?_
        refine sx_iload dc_Mo_judge_75 rfl ?_
        refine sx_iadd dc_Mo_judge_77 ?_
        obtain ⟨g34, hk⟩ := hk.g
        obtain ⟨g35, hk⟩ := hk.g
        refine sx_iald g34 g35 dc_Mo_judge_78 ?_
        refine sx_istore dc_Mo_judge_79 (by decide) (sx_eq (lc2 := [some (xR a0), some (xI a1), some (xI a2), some (xI a3), some (xI a4), some (xI a5), some (xI a6), some (xI (hI h (hR h a0 44) (((40 : Int32) * a1) + a6).toNatClampNeg)), none, none]) rfl rfl ?_)
        refine sx_iload dc_Mo_judge_81 rfl ?_
        refine hk.j (X := fun x36 => Sx l z d mc ms M_Mo_judge 209 [some (xR a0), some (xI a1), some (xI a2), some (xI x36.1), some (xI x36.2.1), some (xI x36.2.2.1), some (xI a6), some (xI (hI h (hR h a0 44) (((40 : Int32) * a1) + a6).toNatClampNeg)), none, none] [] x36.2.2.2 Ph) (fun x36 hk => ?_) (fun k37 jk37 hk => ?_)
        · refine sx_iinc (v := (1 : Int32)) dc_Mo_judge_209 rfl (by decide) (by decide) (sx_eq (lc2 := [some (xR a0), some (xI a1), some (xI a2), some (xI x36.1), some (xI x36.2.1), some (xI x36.2.2.1), some (xI (a6 + (1 : Int32))), some (xI (hI h (hR h a0 44) (((40 : Int32) * a1) + a6).toNatClampNeg)), none, none]) rfl rfl ?_)
          refine sx_goto (tgt := 50) dc_Mo_judge_212 (by decide) ?_
          exact sx_less (by simp [x_le]) (ih x36.1 x36.2.1 x36.2.2.1 (a6 + (1 : Int32)) x36.2.2.2 _ hk hE)
        · refine hk.j (X := fun x38 => Sx l z d mc ms M_Mo_judge 124 [some (xR a0), some (xI a1), some (xI a2), some (xI a3), some (xI a4), some (xI a5), some (xI a6), some (xI (hI h (hR h a0 44) (((40 : Int32) * a1) + a6).toNatClampNeg)), none, none] [] x38 Ph) (fun x38 hk => ?_) (fun k39 jk39 hk => ?_)
          · refine sx_iload dc_Mo_judge_124 rfl ?_
            refine sx_istore dc_Mo_judge_126 (by decide) (sx_eq (lc2 := [some (xR a0), some (xI a1), some (xI a2), some (xI a3), some (xI a6), some (xI a5), some (xI a6), some (xI (hI h (hR h a0 44) (((40 : Int32) * a1) + a6).toNatClampNeg)), none, none]) rfl rfl ?_)
            refine sx_goto (tgt := 209) dc_Mo_judge_128 (by decide) ?_
            exact jk37 (a3, a6, a5, x38) hk
          · refine sx_if_lt (tgt := 124) dc_Mo_judge_83 (by decide) (fun c40 => ?_) (fun c40 => ?_)
            · replace hk := hk.t c40
              exact jk39 h hk
            · replace hk := hk.f c40
              refine sx_aload_n dc_Mo_judge_86 rfl ?_
              refine sx_iload dc_Mo_judge_87 rfl ?_
              refine sx_bipush (v := (10 : Int32)) dc_Mo_judge_89 (by decide) ?_
              refine sx_idiv dc_Mo_judge_91 (by decide) ?_
              refine sx_iload dc_Mo_judge_92 rfl ?_
              refine sx_bipush (v := (10 : Int32)) dc_Mo_judge_94 (by decide) ?_
              refine sx_irem dc_Mo_judge_96 (by decide) ?_
              obtain ⟨q41, eq41, hk⟩ := hk.bind
              refine sx_callV (d2 := d - 1) (mc2 := 0) (ms2 := 0) (as := [xI ((hI h (hR h a0 44) (((40 : Int32) * a1) + a6).toNatClampNeg) / (10 : Int32)), xI (jRem (hI h (hR h a0 44) (((40 : Int32) * a1) + a6).toNatClampNeg) (10 : Int32))]) mk_Mo_isPair rfl (x_rk (ci := 11) g29 rfl rfl) wM_Mo_94 mi_Mo_isPair me_Mo_isPair rfl (Nat.le_of_ble_eq_true rfl) (Nat.le_of_ble_eq_true rfl) dc_Mo_judge_97 (by omega) (Nat.zero_le _) (Nat.zero_le _) ?_
              refine t_Mo_isPair (by omega) ⟨q41, eq41, ?_⟩
              refine sx_eq0 (lc2 := [some (xR a0), some (xI a1), some (xI a2), some (xI a3), some (xI a4), some (xI a5), some (xI a6), some (xI (hI h (hR h a0 44) (((40 : Int32) * a1) + a6).toNatClampNeg)), none, none]) (st2 := [xI q41.1]) rfl rfl ?_
              refine sx_if_eq (tgt := 124) dc_Mo_judge_100 (by decide) (fun c42 => ?_) (fun c42 => ?_)
              · replace hk := hk.t c42
                exact jk39 q41.2 hk
              · replace hk := hk.f c42
                refine sx_iload_n dc_Mo_judge_103 rfl ?_
                refine sx_iload dc_Mo_judge_104 rfl ?_
                refine sx_bipush (v := (10 : Int32)) dc_Mo_judge_106 (by decide) ?_
                refine sx_idiv dc_Mo_judge_108 (by decide) ?_
                refine sx_iload dc_Mo_judge_109 rfl ?_
                refine sx_bipush (v := (10 : Int32)) dc_Mo_judge_111 (by decide) ?_
                refine sx_irem dc_Mo_judge_113 (by decide) ?_
                obtain ⟨q43, eq43, hk⟩ := hk.bind
                refine sx_callS (d2 := d - 1) (mc2 := 0) (ms2 := 0) (as := [xI ((hI h (hR h a0 44) (((40 : Int32) * a1) + a6).toNatClampNeg) / (10 : Int32)), xI (jRem (hI h (hR h a0 44) (((40 : Int32) * a1) + a6).toNatClampNeg) (10 : Int32))]) mk_Mo_seat rfl wM_Mo_80 mt_Mo_seat rfl (Nat.le_of_ble_eq_true rfl) (Nat.le_of_ble_eq_true rfl) dc_Mo_judge_114 (by omega) (Nat.zero_le _) (Nat.zero_le _) ?_
                refine t_Mo_seat (by omega) ⟨q43, eq43, ?_⟩
                refine sx_eq0 (lc2 := [some (xR a0), some (xI a1), some (xI a2), some (xI a3), some (xI a4), some (xI a5), some (xI a6), some (xI (hI h (hR h a0 44) (((40 : Int32) * a1) + a6).toNatClampNeg)), none, none]) (st2 := [xI q43.1, xI a3]) rfl rfl ?_
                refine sx_ishr dc_Mo_judge_117 ?_
                refine sx_iconst (v := (1 : Int32)) dc_Mo_judge_118 (by decide) ?_
                refine sx_iand dc_Mo_judge_119 ?_
                refine sx_iconst (v := (1 : Int32)) dc_Mo_judge_120 (by decide) ?_
                refine sx_icmp_ne (tgt := 131) dc_Mo_judge_121 (by decide) (fun c44 => ?_) (fun c44 => ?_)
                · replace hk := hk.f c44
                  refine sx_iload_n dc_Mo_judge_131 rfl ?_
                  refine sx_iconst (v := (1 : Int32)) dc_Mo_judge_132 (by decide) ?_
                  refine sx_iload dc_Mo_judge_133 rfl ?_
                  refine sx_bipush (v := (10 : Int32)) dc_Mo_judge_135 (by decide) ?_
                  refine sx_idiv dc_Mo_judge_137 (by decide) ?_
                  refine sx_iload dc_Mo_judge_138 rfl ?_
                  refine sx_bipush (v := (10 : Int32)) dc_Mo_judge_140 (by decide) ?_
                  refine sx_irem dc_Mo_judge_142 (by decide) ?_
                  obtain ⟨q45, eq45, hk⟩ := hk.bind
                  refine sx_callS (d2 := d - 1) (mc2 := 0) (ms2 := 0) (as := [xI ((hI h (hR h a0 44) (((40 : Int32) * a1) + a6).toNatClampNeg) / (10 : Int32)), xI (jRem (hI h (hR h a0 44) (((40 : Int32) * a1) + a6).toNatClampNeg) (10 : Int32))]) mk_Mo_seat rfl wM_Mo_80 mt_Mo_seat rfl (Nat.le_of_ble_eq_true rfl) (Nat.le_of_ble_eq_true rfl) dc_Mo_judge_143 (by omega) (Nat.zero_le _) (Nat.zero_le _) ?_
                  refine t_Mo_seat (by omega) ⟨q45, eq45, ?_⟩
                  refine sx_eq0 (lc2 := [some (xR a0), some (xI a1), some (xI a2), some (xI a3), some (xI a4), some (xI a5), some (xI a6), some (xI (hI h (hR h a0 44) (((40 : Int32) * a1) + a6).toNatClampNeg)), none, none]) (st2 := [xI q45.1, xI (1 : Int32), xI a3]) rfl rfl ?_
                  refine sx_ishl dc_Mo_judge_146 ?_
                  refine sx_ior dc_Mo_judge_147 ?_
                  refine sx_istore_n dc_Mo_judge_148 (by decide) (sx_eq (lc2 := [some (xR a0), some (xI a1), some (xI a2), some (xI (a3 ||| (jShl (1 : Int32) q45.1))), some (xI a4), some (xI a5), some (xI a6), some (xI (hI h (hR h a0 44) (((40 : Int32) * a1) + a6).toNatClampNeg)), none, none]) rfl rfl ?_)
                  refine sx_iconst (v := (0 : Int32)) dc_Mo_judge_149 (by decide) ?_
                  refine sx_istore dc_Mo_judge_150 (by decide) (sx_eq (lc2 := [some (xR a0), some (xI a1), some (xI a2), some (xI (a3 ||| (jShl (1 : Int32) q45.1))), some (xI a4), some (xI a5), some (xI a6), some (xI (hI h (hR h a0 44) (((40 : Int32) * a1) + a6).toNatClampNeg)), some (xI (0 : Int32)), none]) rfl rfl ?_)
                  refine sx_iconst (v := (0 : Int32)) dc_Mo_judge_152 (by decide) ?_
                  refine sx_istore dc_Mo_judge_153 (by decide) (sx_eq (lc2 := [some (xR a0), some (xI a1), some (xI a2), some (xI (a3 ||| (jShl (1 : Int32) q45.1))), some (xI a4), some (xI a5), some (xI a6), some (xI (hI h (hR h a0 44) (((40 : Int32) * a1) + a6).toNatClampNeg)), some (xI (0 : Int32)), some (xI (0 : Int32))]) rfl rfl ?_)
                  refine t_Mo_judge_L155 (by omega) _ _ _ _ _ hk (fun v55 v56 h57 hk => ?_)
                  refine sx_iload dc_Mo_judge_194 rfl ?_
                  refine sx_if_eq (tgt := 209) dc_Mo_judge_196 (by decide) (fun c58 => ?_) (fun c58 => ?_)
                  · replace hk := hk.t c58
                    exact sx_less (by simp [x_le]) (jk37 ((a3 ||| (jShl (1 : Int32) q45.1)), a4, a5, h57) hk)
                  · replace hk := hk.f c58
                    refine sx_iload dc_Mo_judge_199 rfl ?_
                    refine sx_iconst (v := (-1 : Int32)) dc_Mo_judge_201 (by decide) ?_
                    refine sx_icmp_ne (tgt := 209) dc_Mo_judge_202 (by decide) (fun c59 => ?_) (fun c59 => ?_)
                    · replace hk := hk.f c59
                      exact sx_less (by simp [x_le]) (jk37 ((a3 ||| (jShl (1 : Int32) q45.1)), a4, a5, h57) hk)
                    · replace hk := hk.t c59
                      refine sx_iload dc_Mo_judge_205 rfl ?_
                      refine sx_istore dc_Mo_judge_207 (by decide) (sx_eq (lc2 := [some (xR a0), some (xI a1), some (xI a2), some (xI (a3 ||| (jShl (1 : Int32) q45.1))), some (xI a4), some (xI a6), some (xI a6), some (xI (hI h (hR h a0 44) (((40 : Int32) * a1) + a6).toNatClampNeg)), some (xI v55), some (xI v56)]) rfl rfl ?_)
                      exact sx_less (by simp [x_le]) (jk37 ((a3 ||| (jShl (1 : Int32) q45.1)), a4, a6, h57) hk)
                · replace hk := hk.t c44
                  exact jk39 q43.2 hk
theorem t_Mo_judge {l : Launch} {z : xZ} {d mc ms : Nat} {Ph : Option xV → xH → Prop} {a0 : Nat} {a1 : Int32} {a2 : Int32}  {h : xH} (hd : 154 ≤ d) (hk : OK (f_Mo_judge a0 a1 a2 h) (fun q => Ph (some (xI q.1)) q.2)) : Sx l z d mc ms M_Mo_judge 0 (x_en [xR a0, xI a1, xI a2] 10) [] h Ph := by
  unfold f_Mo_judge at hk
  refine sx_eq (lc2 := [some (xR a0), some (xI a1), some (xI a2), none, none, none, none, none, none, none]) rfl rfl ?_
  refine sx_iload_n dc_Mo_judge_0 rfl ?_
  obtain ⟨q17, eq17, hk⟩ := hk.bind
  refine sx_callS (d2 := d - 1) (mc2 := 0) (ms2 := 0) (as := [xI a1]) mk_Mo_isSheet rfl wM_Mo_325 mt_Mo_isSheet rfl (Nat.le_of_ble_eq_true rfl) (Nat.le_of_ble_eq_true rfl) dc_Mo_judge_1 (by omega) (Nat.zero_le _) (Nat.zero_le _) ?_
  refine t_Mo_isSheet (by omega) ⟨q17, eq17, ?_⟩
  refine sx_eq0 (lc2 := [some (xR a0), some (xI a1), some (xI a2), none, none, none, none, none, none, none]) (st2 := [xI q17.1]) rfl rfl ?_
  refine hk.j (X := fun x18 => Sx l z d mc ms M_Mo_judge 17 [some (xR a0), some (xI a1), some (xI a2), none, none, none, none, none, none, none] [] x18 Ph) (fun x18 hk => ?_) (fun k19 jk19 hk => ?_)
  · refine sx_bipush (v := (-2 : Int32)) dc_Mo_judge_17 (by decide) ?_
    exact sx_retI dc_Mo_judge_19 rfl hk.val
  · refine sx_if_eq (tgt := 17) dc_Mo_judge_4 (by decide) (fun c20 => ?_) (fun c20 => ?_)
    · replace hk := hk.t c20
      exact jk19 q17.2 hk
    · replace hk := hk.f c20
      refine sx_iload_n dc_Mo_judge_7 rfl ?_
      refine sx_i2l dc_Mo_judge_8 ?_
      refine sx_lconst (v := 0) dc_Mo_judge_9 (by decide) ?_
      refine sx_lconst (v := 1) dc_Mo_judge_10 (by decide) ?_
      obtain ⟨q21, eq21, hk⟩ := hk.bind
      refine sx_callS (d2 := d - 1) (mc2 := 0) (ms2 := 0) (as := [xJ a2.toInt64, xJ (0 : Int64), xJ (1 : Int64)]) mk_Mo_in rfl wM_Mo_73 mt_Mo_in rfl (Nat.le_of_ble_eq_true rfl) (Nat.le_of_ble_eq_true rfl) dc_Mo_judge_11 (by omega) (Nat.zero_le _) (Nat.zero_le _) ?_
      refine t_Mo_in (by omega) ⟨q21, eq21, ?_⟩
      refine sx_eq0 (lc2 := [some (xR a0), some (xI a1), some (xI a2), none, none, none, none, none, none, none]) (st2 := [xI q21.1]) rfl rfl ?_
      refine sx_if_ne (tgt := 20) dc_Mo_judge_14 (by decide) (fun c22 => ?_) (fun c22 => ?_)
      · replace hk := hk.f c22
        refine sx_aload_n dc_Mo_judge_20 rfl ?_
        obtain ⟨g23, hk⟩ := hk.g
        refine sx_get (ci := 11) (k := 41) rfl (by decide) wF_Mo_54 g23 dc_Mo_judge_21 ?_
        refine sx_iload_n dc_Mo_judge_24 rfl ?_
        obtain ⟨g24, hk⟩ := hk.g
        obtain ⟨g25, hk⟩ := hk.g
        refine sx_zald g24 g25 dc_Mo_judge_25 ?_
        refine sx_if_ne (tgt := 32) dc_Mo_judge_26 (by decide) (fun c26 => ?_) (fun c26 => ?_)
        · replace hk := hk.f c26
          refine sx_aload_n dc_Mo_judge_32 rfl ?_
          obtain ⟨q27, eq27, hk⟩ := hk.bind
          refine sx_callV (d2 := d - 1) (mc2 := 0) (ms2 := 0) (as := []) mk_Mo_gathers rfl (x_rk (ci := 11) g23 rfl rfl) wM_Mo_263 mi_Mo_gathers me_Mo_gathers rfl (Nat.le_of_ble_eq_true rfl) (Nat.le_of_ble_eq_true rfl) dc_Mo_judge_33 (by omega) (Nat.zero_le _) (Nat.zero_le _) ?_
          refine t_Mo_gathers (by omega) ⟨q27, eq27, ?_⟩
          refine sx_eq0 (lc2 := [some (xR a0), some (xI a1), some (xI a2), none, none, none, none, none, none, none]) (st2 := []) rfl rfl ?_
          refine sx_aload_n dc_Mo_judge_36 rfl ?_
          obtain ⟨g28, hk⟩ := hk.g
          refine sx_get (ci := 11) (k := 8) rfl (by decide) wF_Mo_77 g28 dc_Mo_judge_37 ?_
          refine sx_istore_n dc_Mo_judge_40 (by decide) (sx_eq (lc2 := [some (xR a0), some (xI a1), some (xI a2), some (xI (hI q27.2 a0 8)), none, none, none, none, none, none]) rfl rfl ?_)
          refine sx_iconst (v := (-1 : Int32)) dc_Mo_judge_41 (by decide) ?_
          refine sx_istore dc_Mo_judge_42 (by decide) (sx_eq (lc2 := [some (xR a0), some (xI a1), some (xI a2), some (xI (hI q27.2 a0 8)), some (xI (-1 : Int32)), none, none, none, none, none]) rfl rfl ?_)
          refine sx_iconst (v := (-1 : Int32)) dc_Mo_judge_44 (by decide) ?_
          refine sx_istore dc_Mo_judge_45 (by decide) (sx_eq (lc2 := [some (xR a0), some (xI a1), some (xI a2), some (xI (hI q27.2 a0 8)), some (xI (-1 : Int32)), some (xI (-1 : Int32)), none, none, none, none]) rfl rfl ?_)
          refine sx_iconst (v := (0 : Int32)) dc_Mo_judge_47 (by decide) ?_
          refine sx_istore dc_Mo_judge_48 (by decide) (sx_eq (lc2 := [some (xR a0), some (xI a1), some (xI a2), some (xI (hI q27.2 a0 8)), some (xI (-1 : Int32)), some (xI (-1 : Int32)), some (xI (0 : Int32)), none, none, none]) rfl rfl ?_)
          refine t_Mo_judge_L50 (by omega) _ _ _ _ _ _ _ hk (fun v60 v61 v62 v63 h64 hk => ?_)
          refine sx_iload_n dc_Mo_judge_215 rfl ?_
          refine sx_mg (pc2 := 226) (lc2 := [some (xR a0), some (xI a1), some (xI a2), some (xI v60), some (xI v61), some (xI v62), some (xI v63), none, none, none]) (st2 := [xI (if a2 = 0 then v61 else v62)]) (h2 := h64) ?_ (fun J65 => ?_)
          · exact sx_retI dc_Mo_judge_226 rfl hk.val
          · refine sx_if_ne (tgt := 224) dc_Mo_judge_216 (by decide) (fun c66 => ?_) (fun c66 => ?_)
            · try simp only [if_neg c66] at J65
              refine sx_iload dc_Mo_judge_224 rfl ?_
              exact J65
            · try simp only [if_pos c66] at J65
              refine sx_iload dc_Mo_judge_219 rfl ?_
              refine sx_goto (tgt := 226) dc_Mo_judge_221 (by decide) ?_
              exact J65
        · replace hk := hk.t c26
          refine sx_bipush (v := (-11 : Int32)) dc_Mo_judge_29 (by decide) ?_
          exact sx_retI dc_Mo_judge_31 rfl hk.val
      · replace hk := hk.t c22
        exact jk19 q21.2 hk
theorem dc_Mo_drawn_0 : decode M_Mo_drawn.2.1 0 = .ok (.aload_n 0, 1) := by decide +kernel
theorem dc_Mo_drawn_1 : decode M_Mo_drawn.2.1 1 = .ok (.invokevirtual 263, 3) := by decide +kernel
theorem dc_Mo_drawn_4 : decode M_Mo_drawn.2.1 4 = .ok (.iload_n 1, 1) := by decide +kernel
theorem dc_Mo_drawn_5 : decode M_Mo_drawn.2.1 5 = .ok (.istore_n 2, 1) := by decide +kernel
theorem dc_Mo_drawn_6 : decode M_Mo_drawn.2.1 6 = .ok (.iconst 0, 1) := by decide +kernel
theorem dc_Mo_drawn_7 : decode M_Mo_drawn.2.1 7 = .ok (.istore_n 3, 1) := by decide +kernel
theorem dc_Mo_drawn_8 : decode M_Mo_drawn.2.1 8 = .ok (.iconst 0, 1) := by decide +kernel
theorem dc_Mo_drawn_9 : decode M_Mo_drawn.2.1 9 = .ok (.istore 4, 2) := by decide +kernel
theorem dc_Mo_drawn_11 : decode M_Mo_drawn.2.1 11 = .ok (.iload 4, 2) := by decide +kernel
theorem dc_Mo_drawn_13 : decode M_Mo_drawn.2.1 13 = .ok (.aload_n 0, 1) := by decide +kernel
theorem dc_Mo_drawn_14 : decode M_Mo_drawn.2.1 14 = .ok (.getfield 23, 3) := by decide +kernel
theorem dc_Mo_drawn_17 : decode M_Mo_drawn.2.1 17 = .ok (.aload_n 0, 1) := by decide +kernel
theorem dc_Mo_drawn_18 : decode M_Mo_drawn.2.1 18 = .ok (.getfield 23, 3) := by decide +kernel
theorem dc_Mo_drawn_21 : decode M_Mo_drawn.2.1 21 = .ok (.iconst 1, 1) := by decide +kernel
theorem dc_Mo_drawn_22 : decode M_Mo_drawn.2.1 22 = .ok (.isub, 1) := by decide +kernel
theorem dc_Mo_drawn_23 : decode M_Mo_drawn.2.1 23 = .ok (.imul, 1) := by decide +kernel
theorem dc_Mo_drawn_24 : decode M_Mo_drawn.2.1 24 = .ok (.iconst 2, 1) := by decide +kernel
theorem dc_Mo_drawn_25 : decode M_Mo_drawn.2.1 25 = .ok (.idiv, 1) := by decide +kernel
theorem dc_Mo_drawn_26 : decode M_Mo_drawn.2.1 26 = .ok (.if_icmp .ge 31, 3) := by decide +kernel
theorem dc_Mo_drawn_29 : decode M_Mo_drawn.2.1 29 = .ok (.iload_n 2, 1) := by decide +kernel
theorem dc_Mo_drawn_30 : decode M_Mo_drawn.2.1 30 = .ok (.ldc_w 328, 3) := by decide +kernel
theorem dc_Mo_drawn_33 : decode M_Mo_drawn.2.1 33 = .ok (.imul, 1) := by decide +kernel
theorem dc_Mo_drawn_34 : decode M_Mo_drawn.2.1 34 = .ok (.sipush 12345, 3) := by decide +kernel
theorem dc_Mo_drawn_37 : decode M_Mo_drawn.2.1 37 = .ok (.iadd, 1) := by decide +kernel
theorem dc_Mo_drawn_38 : decode M_Mo_drawn.2.1 38 = .ok (.istore_n 2, 1) := by decide +kernel
theorem dc_Mo_drawn_39 : decode M_Mo_drawn.2.1 39 = .ok (.iload_n 3, 1) := by decide +kernel
theorem dc_Mo_drawn_40 : decode M_Mo_drawn.2.1 40 = .ok (.iload_n 2, 1) := by decide +kernel
theorem dc_Mo_drawn_41 : decode M_Mo_drawn.2.1 41 = .ok (.bipush 13, 2) := by decide +kernel
theorem dc_Mo_drawn_43 : decode M_Mo_drawn.2.1 43 = .ok (.iushr, 1) := by decide +kernel
theorem dc_Mo_drawn_44 : decode M_Mo_drawn.2.1 44 = .ok (.iconst 2, 1) := by decide +kernel
theorem dc_Mo_drawn_45 : decode M_Mo_drawn.2.1 45 = .ok (.irem, 1) := by decide +kernel
theorem dc_Mo_drawn_46 : decode M_Mo_drawn.2.1 46 = .ok (.iload 4, 2) := by decide +kernel
theorem dc_Mo_drawn_48 : decode M_Mo_drawn.2.1 48 = .ok (.ishl, 1) := by decide +kernel
theorem dc_Mo_drawn_49 : decode M_Mo_drawn.2.1 49 = .ok (.ior, 1) := by decide +kernel
theorem dc_Mo_drawn_50 : decode M_Mo_drawn.2.1 50 = .ok (.istore_n 3, 1) := by decide +kernel
theorem dc_Mo_drawn_51 : decode M_Mo_drawn.2.1 51 = .ok (.iinc 4 1, 3) := by decide +kernel
theorem dc_Mo_drawn_54 : decode M_Mo_drawn.2.1 54 = .ok (.goto (-43), 3) := by decide +kernel
theorem dc_Mo_drawn_57 : decode M_Mo_drawn.2.1 57 = .ok (.aload_n 0, 1) := by decide +kernel
theorem dc_Mo_drawn_58 : decode M_Mo_drawn.2.1 58 = .ok (.iload_n 3, 1) := by decide +kernel
theorem dc_Mo_drawn_59 : decode M_Mo_drawn.2.1 59 = .ok (.aload_n 0, 1) := by decide +kernel
theorem dc_Mo_drawn_60 : decode M_Mo_drawn.2.1 60 = .ok (.getfield 23, 3) := by decide +kernel
theorem dc_Mo_drawn_63 : decode M_Mo_drawn.2.1 63 = .ok (.invokestatic 90, 3) := by decide +kernel
theorem dc_Mo_drawn_66 : decode M_Mo_drawn.2.1 66 = .ok (.invokevirtual 284, 3) := by decide +kernel
theorem dc_Mo_drawn_69 : decode M_Mo_drawn.2.1 69 = .ok (.ireturn, 1) := by decide +kernel
def f_Mo_drawn_L11 (a0 : Nat) (a1 : Int32) : Nat → Int32 → Int32 → Int32 → xH → (Int32 → Int32 → Int32 → xH → Option (Int32 × xH)) → Option (Int32 × xH)
  | 0, _, _, _, _, _ => none
  | n + 1, a2, a3, a4, h, K => gd (hK h a0 = 11) (if (((hI h a0 7) * ((hI h a0 7) - (1 : Int32))) / (2 : Int32)) ≤ a4 then K a2 a3 a4 h else f_Mo_drawn_L11 a0 a1 n ((a2 * (1103515245 : Int32)) + (12345 : Int32)) (a3 ||| (jShl (jRem (jUshr ((a2 * (1103515245 : Int32)) + (12345 : Int32)) (13 : Int32)) (2 : Int32)) a4)) (a4 + (1 : Int32)) h K)
def f_Mo_drawn (a0 : Nat) (a1 : Int32) (h : xH) : Option (Int32 × xH) := gd (hK h a0 = 11) (Option.bind (f_Mo_gathers a0 h) (fun q7 => f_Mo_drawn_L11 a0 a1 fu a1 (0 : Int32) (0 : Int32) q7.2 (fun v11 v12 v13 h14 => gd (hK h14 a0 = 11) (Option.bind (f_Mo_allOf (hI h14 a0 7) h14) (fun q16 => gd (hK q16.2 a0 = 11) (Option.bind (f_Mo_allThrees a0 v12 q16.1 q16.2) (fun q17 => some (q17.1, q17.2))))))))
theorem t_Mo_drawn_L11 {l : Launch} {z : xZ} {d mc ms : Nat} {Ph : Option xV → xH → Prop} {a0 : Nat} {a1 : Int32}  (hd : 1 ≤ d) : ∀ (n : Nat) (a2 : Int32) (a3 : Int32) (a4 : Int32) (h : xH) (K : Int32 → Int32 → Int32 → xH → Option (Int32 × xH)), OK (f_Mo_drawn_L11 a0 a1 n a2 a3 a4 h K) (fun q => Ph (some (xI q.1)) q.2) → (∀ (a2 : Int32) (a3 : Int32) (a4 : Int32) (h : xH), OK (K a2 a3 a4 h) (fun q => Ph (some (xI q.1)) q.2) → Sx l z d mc ms M_Mo_drawn 57 [some (xR a0), some (xI a1), some (xI a2), some (xI a3), some (xI a4)] [] h Ph) → Sx l z d mc ms M_Mo_drawn 11 [some (xR a0), some (xI a1), some (xI a2), some (xI a3), some (xI a4)] [] h Ph := by
  intro n
  induction n with
  | zero => intro a2 a3 a4 h K hk hE; exact hk.no
  | succ n ih =>
    intro a2 a3 a4 h K hk hE
    rw [f_Mo_drawn_L11] at hk
    refine sx_iload dc_Mo_drawn_11 rfl ?_
    refine sx_aload_n dc_Mo_drawn_13 rfl ?_
    obtain ⟨g9, hk⟩ := hk.g
    refine sx_get (ci := 11) (k := 7) rfl (by decide) wF_Mo_23 g9 dc_Mo_drawn_14 ?_
    refine sx_aload_n dc_Mo_drawn_17 rfl ?_
    refine sx_get (ci := 11) (k := 7) rfl (by decide) wF_Mo_23 g9 dc_Mo_drawn_18 ?_
    refine sx_iconst (v := (1 : Int32)) dc_Mo_drawn_21 (by decide) ?_
    refine sx_isub dc_Mo_drawn_22 ?_
    refine sx_imul dc_Mo_drawn_23 ?_
    refine sx_iconst (v := (2 : Int32)) dc_Mo_drawn_24 (by decide) ?_
    refine sx_idiv dc_Mo_drawn_25 (by decide) ?_
    refine sx_icmp_ge (tgt := 57) dc_Mo_drawn_26 (by decide) (fun c10 => ?_) (fun c10 => ?_)
    · replace hk := hk.t c10
      exact hE a2 a3 a4 h hk
    · replace hk := hk.f c10
      refine sx_iload_n dc_Mo_drawn_29 rfl ?_
      refine sx_ldcw (v := (1103515245 : Int32)) wK_Mo_328 dc_Mo_drawn_30 ?_
      refine sx_imul dc_Mo_drawn_33 ?_
      refine sx_sipush (v := (12345 : Int32)) dc_Mo_drawn_34 (by decide) ?_
      refine sx_iadd dc_Mo_drawn_37 ?_
      refine sx_istore_n dc_Mo_drawn_38 (by decide) (sx_eq (lc2 := [some (xR a0), some (xI a1), some (xI ((a2 * (1103515245 : Int32)) + (12345 : Int32))), some (xI a3), some (xI a4)]) rfl rfl ?_)
      refine sx_iload_n dc_Mo_drawn_39 rfl ?_
      refine sx_iload_n dc_Mo_drawn_40 rfl ?_
      refine sx_bipush (v := (13 : Int32)) dc_Mo_drawn_41 (by decide) ?_
      refine sx_iushr dc_Mo_drawn_43 ?_
      refine sx_iconst (v := (2 : Int32)) dc_Mo_drawn_44 (by decide) ?_
      refine sx_irem dc_Mo_drawn_45 (by decide) ?_
      refine sx_iload dc_Mo_drawn_46 rfl ?_
      refine sx_ishl dc_Mo_drawn_48 ?_
      refine sx_ior dc_Mo_drawn_49 ?_
      refine sx_istore_n dc_Mo_drawn_50 (by decide) (sx_eq (lc2 := [some (xR a0), some (xI a1), some (xI ((a2 * (1103515245 : Int32)) + (12345 : Int32))), some (xI (a3 ||| (jShl (jRem (jUshr ((a2 * (1103515245 : Int32)) + (12345 : Int32)) (13 : Int32)) (2 : Int32)) a4))), some (xI a4)]) rfl rfl ?_)
      refine sx_iinc (v := (1 : Int32)) dc_Mo_drawn_51 rfl (by decide) (by decide) (sx_eq (lc2 := [some (xR a0), some (xI a1), some (xI ((a2 * (1103515245 : Int32)) + (12345 : Int32))), some (xI (a3 ||| (jShl (jRem (jUshr ((a2 * (1103515245 : Int32)) + (12345 : Int32)) (13 : Int32)) (2 : Int32)) a4))), some (xI (a4 + (1 : Int32)))]) rfl rfl ?_)
      refine sx_goto (tgt := 11) dc_Mo_drawn_54 (by decide) ?_
      exact ih ((a2 * (1103515245 : Int32)) + (12345 : Int32)) (a3 ||| (jShl (jRem (jUshr ((a2 * (1103515245 : Int32)) + (12345 : Int32)) (13 : Int32)) (2 : Int32)) a4)) (a4 + (1 : Int32)) h _ hk hE
theorem t_Mo_drawn {l : Launch} {z : xZ} {d mc ms : Nat} {Ph : Option xV → xH → Prop} {a0 : Nat} {a1 : Int32}  {h : xH} (hd : 154 ≤ d) (hk : OK (f_Mo_drawn a0 a1 h) (fun q => Ph (some (xI q.1)) q.2)) : Sx l z d mc ms M_Mo_drawn 0 (x_en [xR a0, xI a1] 5) [] h Ph := by
  unfold f_Mo_drawn at hk
  refine sx_eq (lc2 := [some (xR a0), some (xI a1), none, none, none]) rfl rfl ?_
  refine sx_aload_n dc_Mo_drawn_0 rfl ?_
  obtain ⟨g8, hk⟩ := hk.g
  obtain ⟨q7, eq7, hk⟩ := hk.bind
  refine sx_callV (d2 := d - 1) (mc2 := 0) (ms2 := 0) (as := []) mk_Mo_gathers rfl (x_rk (ci := 11) g8 rfl rfl) wM_Mo_263 mi_Mo_gathers me_Mo_gathers rfl (Nat.le_of_ble_eq_true rfl) (Nat.le_of_ble_eq_true rfl) dc_Mo_drawn_1 (by omega) (Nat.zero_le _) (Nat.zero_le _) ?_
  refine t_Mo_gathers (by omega) ⟨q7, eq7, ?_⟩
  refine sx_eq0 (lc2 := [some (xR a0), some (xI a1), none, none, none]) (st2 := []) rfl rfl ?_
  refine sx_iload_n dc_Mo_drawn_4 rfl ?_
  refine sx_istore_n dc_Mo_drawn_5 (by decide) (sx_eq (lc2 := [some (xR a0), some (xI a1), some (xI a1), none, none]) rfl rfl ?_)
  refine sx_iconst (v := (0 : Int32)) dc_Mo_drawn_6 (by decide) ?_
  refine sx_istore_n dc_Mo_drawn_7 (by decide) (sx_eq (lc2 := [some (xR a0), some (xI a1), some (xI a1), some (xI (0 : Int32)), none]) rfl rfl ?_)
  refine sx_iconst (v := (0 : Int32)) dc_Mo_drawn_8 (by decide) ?_
  refine sx_istore dc_Mo_drawn_9 (by decide) (sx_eq (lc2 := [some (xR a0), some (xI a1), some (xI a1), some (xI (0 : Int32)), some (xI (0 : Int32))]) rfl rfl ?_)
  refine t_Mo_drawn_L11 (by omega) _ _ _ _ _ _ hk (fun v11 v12 v13 h14 hk => ?_)
  refine sx_aload_n dc_Mo_drawn_57 rfl ?_
  refine sx_iload_n dc_Mo_drawn_58 rfl ?_
  refine sx_aload_n dc_Mo_drawn_59 rfl ?_
  obtain ⟨g15, hk⟩ := hk.g
  refine sx_get (ci := 11) (k := 7) rfl (by decide) wF_Mo_23 g15 dc_Mo_drawn_60 ?_
  obtain ⟨q16, eq16, hk⟩ := hk.bind
  refine sx_callS (d2 := d - 1) (mc2 := 0) (ms2 := 0) (as := [xI (hI h14 a0 7)]) mk_Mo_allOf rfl wM_Mo_90 mt_Mo_allOf rfl (Nat.le_of_ble_eq_true rfl) (Nat.le_of_ble_eq_true rfl) dc_Mo_drawn_63 (by omega) (Nat.zero_le _) (Nat.zero_le _) ?_
  refine t_Mo_allOf (by omega) ⟨q16, eq16, ?_⟩
  refine sx_eq0 (lc2 := [some (xR a0), some (xI a1), some (xI v11), some (xI v12), some (xI v13)]) (st2 := [xI q16.1, xI v12, xR a0]) rfl rfl ?_
  obtain ⟨g18, hk⟩ := hk.g
  obtain ⟨q17, eq17, hk⟩ := hk.bind
  refine sx_callV (d2 := d - 1) (mc2 := 0) (ms2 := 0) (as := [xI v12, xI q16.1]) mk_Mo_allThrees rfl (x_rk (ci := 11) g18 rfl rfl) wM_Mo_284 mi_Mo_allThrees me_Mo_allThrees rfl (Nat.le_of_ble_eq_true rfl) (Nat.le_of_ble_eq_true rfl) dc_Mo_drawn_66 (by omega) (Nat.zero_le _) (Nat.zero_le _) ?_
  refine t_Mo_allThrees (by omega) ⟨q17, eq17, ?_⟩
  refine sx_eq0 (lc2 := [some (xR a0), some (xI a1), some (xI v11), some (xI v12), some (xI v13)]) (st2 := [xI q17.1]) rfl rfl ?_
  exact sx_retI dc_Mo_drawn_69 rfl hk.val
theorem dc_Mo_image_0 : decode M_Mo_image.2.1 0 = .ok (.aload_n 0, 1) := by decide +kernel
theorem dc_Mo_image_1 : decode M_Mo_image.2.1 1 = .ok (.aload_n 0, 1) := by decide +kernel
theorem dc_Mo_image_2 : decode M_Mo_image.2.1 2 = .ok (.getfield 23, 3) := by decide +kernel
theorem dc_Mo_image_5 : decode M_Mo_image.2.1 5 = .ok (.putfield 51, 3) := by decide +kernel
theorem dc_Mo_image_8 : decode M_Mo_image.2.1 8 = .ok (.aload_n 0, 1) := by decide +kernel
theorem dc_Mo_image_9 : decode M_Mo_image.2.1 9 = .ok (.aload_n 0, 1) := by decide +kernel
theorem dc_Mo_image_10 : decode M_Mo_image.2.1 10 = .ok (.getfield 77, 3) := by decide +kernel
theorem dc_Mo_image_13 : decode M_Mo_image.2.1 13 = .ok (.putfield 329, 3) := by decide +kernel
theorem dc_Mo_image_16 : decode M_Mo_image.2.1 16 = .ok (.aload_n 0, 1) := by decide +kernel
theorem dc_Mo_image_17 : decode M_Mo_image.2.1 17 = .ok (.aload_n 0, 1) := by decide +kernel
theorem dc_Mo_image_18 : decode M_Mo_image.2.1 18 = .ok (.getfield 26, 3) := by decide +kernel
theorem dc_Mo_image_21 : decode M_Mo_image.2.1 21 = .ok (.putfield 332, 3) := by decide +kernel
theorem dc_Mo_image_24 : decode M_Mo_image.2.1 24 = .ok (.aload_n 0, 1) := by decide +kernel
theorem dc_Mo_image_25 : decode M_Mo_image.2.1 25 = .ok (.aload_n 0, 1) := by decide +kernel
theorem dc_Mo_image_26 : decode M_Mo_image.2.1 26 = .ok (.getfield 242, 3) := by decide +kernel
theorem dc_Mo_image_29 : decode M_Mo_image.2.1 29 = .ok (.putfield 335, 3) := by decide +kernel
theorem dc_Mo_image_32 : decode M_Mo_image.2.1 32 = .ok (.aload_n 0, 1) := by decide +kernel
theorem dc_Mo_image_33 : decode M_Mo_image.2.1 33 = .ok (.getfield 23, 3) := by decide +kernel
theorem dc_Mo_image_36 : decode M_Mo_image.2.1 36 = .ok (.ireturn, 1) := by decide +kernel
def f_Mo_image (a0 : Nat) (h : xH) : Option (Int32 × xH) := gd (hK h a0 = 11) (hp (hIu (hIu (hIu h a0 37 (hI h a0 7)) a0 38 (hI (hIu h a0 37 (hI h a0 7)) a0 8)) a0 39 (hI (hIu (hIu h a0 37 (hI h a0 7)) a0 38 (hI (hIu h a0 37 (hI h a0 7)) a0 8)) a0 9)) (fun h3 => some (hI (hIu h3 a0 40 (hI h3 a0 4)) a0 7, hIu h3 a0 40 (hI h3 a0 4))))
theorem t_Mo_image {l : Launch} {z : xZ} {d mc ms : Nat} {Ph : Option xV → xH → Prop} {a0 : Nat}  {h : xH} (hd : 1 ≤ d) (hk : OK (f_Mo_image a0 h) (fun q => Ph (some (xI q.1)) q.2)) : Sx l z d mc ms M_Mo_image 0 (x_en [xR a0] 1) [] h Ph := by
  unfold f_Mo_image at hk
  refine sx_eq (lc2 := [some (xR a0)]) rfl rfl ?_
  refine sx_aload_n dc_Mo_image_0 rfl ?_
  refine sx_aload_n dc_Mo_image_1 rfl ?_
  obtain ⟨g2, hk⟩ := hk.g
  refine sx_get (ci := 11) (k := 7) rfl (by decide) wF_Mo_23 g2 dc_Mo_image_2 ?_
  refine sx_putI (ci := 11) (k := 37) rfl (by decide) wF_Mo_51 rfl g2 (Or.inl rfl) dc_Mo_image_5 ?_
  refine sx_aload_n dc_Mo_image_8 rfl ?_
  refine sx_aload_n dc_Mo_image_9 rfl ?_
  refine sx_get (ci := 11) (k := 8) rfl (by decide) wF_Mo_77 g2 dc_Mo_image_10 ?_
  refine sx_putI (ci := 11) (k := 38) rfl (by decide) wF_Mo_329 rfl g2 (Or.inl rfl) dc_Mo_image_13 ?_
  refine sx_aload_n dc_Mo_image_16 rfl ?_
  refine sx_aload_n dc_Mo_image_17 rfl ?_
  refine sx_get (ci := 11) (k := 9) rfl (by decide) wF_Mo_26 g2 dc_Mo_image_18 ?_
  refine sx_putI (ci := 11) (k := 39) rfl (by decide) wF_Mo_332 rfl g2 (Or.inl rfl) dc_Mo_image_21 ?_
  obtain ⟨h3, eh3, hk⟩ := hk.h
  refine sx_hp eh3 ?_
  have g4 : hK h3 a0 = 11 := by rw [eh3]; exact g2
  refine sx_aload_n dc_Mo_image_24 rfl ?_
  refine sx_aload_n dc_Mo_image_25 rfl ?_
  refine sx_get (ci := 11) (k := 4) rfl (by decide) wF_Mo_242 g4 dc_Mo_image_26 ?_
  refine sx_putI (ci := 11) (k := 40) rfl (by decide) wF_Mo_335 rfl g4 (Or.inl rfl) dc_Mo_image_29 ?_
  refine sx_aload_n dc_Mo_image_32 rfl ?_
  refine sx_get (ci := 11) (k := 7) rfl (by decide) wF_Mo_23 g4 dc_Mo_image_33 ?_
  exact sx_retI dc_Mo_image_36 rfl hk.val
theorem dc_Mo_back_0 : decode M_Mo_back.2.1 0 = .ok (.aload_n 0, 1) := by decide +kernel
theorem dc_Mo_back_1 : decode M_Mo_back.2.1 1 = .ok (.getfield 51, 3) := by decide +kernel
theorem dc_Mo_back_4 : decode M_Mo_back.2.1 4 = .ok (.iconst (-1), 1) := by decide +kernel
theorem dc_Mo_back_5 : decode M_Mo_back.2.1 5 = .ok (.if_icmp .ne 6, 3) := by decide +kernel
theorem dc_Mo_back_8 : decode M_Mo_back.2.1 8 = .ok (.bipush (-3), 2) := by decide +kernel
theorem dc_Mo_back_10 : decode M_Mo_back.2.1 10 = .ok (.ireturn, 1) := by decide +kernel
theorem dc_Mo_back_11 : decode M_Mo_back.2.1 11 = .ok (.aload_n 0, 1) := by decide +kernel
theorem dc_Mo_back_12 : decode M_Mo_back.2.1 12 = .ok (.aload_n 0, 1) := by decide +kernel
theorem dc_Mo_back_13 : decode M_Mo_back.2.1 13 = .ok (.getfield 51, 3) := by decide +kernel
theorem dc_Mo_back_16 : decode M_Mo_back.2.1 16 = .ok (.putfield 23, 3) := by decide +kernel
theorem dc_Mo_back_19 : decode M_Mo_back.2.1 19 = .ok (.aload_n 0, 1) := by decide +kernel
theorem dc_Mo_back_20 : decode M_Mo_back.2.1 20 = .ok (.aload_n 0, 1) := by decide +kernel
theorem dc_Mo_back_21 : decode M_Mo_back.2.1 21 = .ok (.getfield 329, 3) := by decide +kernel
theorem dc_Mo_back_24 : decode M_Mo_back.2.1 24 = .ok (.putfield 77, 3) := by decide +kernel
theorem dc_Mo_back_27 : decode M_Mo_back.2.1 27 = .ok (.aload_n 0, 1) := by decide +kernel
theorem dc_Mo_back_28 : decode M_Mo_back.2.1 28 = .ok (.aload_n 0, 1) := by decide +kernel
theorem dc_Mo_back_29 : decode M_Mo_back.2.1 29 = .ok (.getfield 332, 3) := by decide +kernel
theorem dc_Mo_back_32 : decode M_Mo_back.2.1 32 = .ok (.putfield 26, 3) := by decide +kernel
theorem dc_Mo_back_35 : decode M_Mo_back.2.1 35 = .ok (.aload_n 0, 1) := by decide +kernel
theorem dc_Mo_back_36 : decode M_Mo_back.2.1 36 = .ok (.aload_n 0, 1) := by decide +kernel
theorem dc_Mo_back_37 : decode M_Mo_back.2.1 37 = .ok (.getfield 335, 3) := by decide +kernel
theorem dc_Mo_back_40 : decode M_Mo_back.2.1 40 = .ok (.putfield 242, 3) := by decide +kernel
theorem dc_Mo_back_43 : decode M_Mo_back.2.1 43 = .ok (.aload_n 0, 1) := by decide +kernel
theorem dc_Mo_back_44 : decode M_Mo_back.2.1 44 = .ok (.getfield 23, 3) := by decide +kernel
theorem dc_Mo_back_47 : decode M_Mo_back.2.1 47 = .ok (.ireturn, 1) := by decide +kernel
def f_Mo_back (a0 : Nat) (h : xH) : Option (Int32 × xH) := gd (hK h a0 = 11) (if (hI h a0 37) = (-1 : Int32) then some ((-3 : Int32), h) else hp (hIu (hIu (hIu h a0 7 (hI h a0 37)) a0 8 (hI (hIu h a0 7 (hI h a0 37)) a0 38)) a0 9 (hI (hIu (hIu h a0 7 (hI h a0 37)) a0 8 (hI (hIu h a0 7 (hI h a0 37)) a0 38)) a0 39)) (fun h4 => some (hI (hIu h4 a0 4 (hI h4 a0 40)) a0 7, hIu h4 a0 4 (hI h4 a0 40))))
theorem t_Mo_back {l : Launch} {z : xZ} {d mc ms : Nat} {Ph : Option xV → xH → Prop} {a0 : Nat}  {h : xH} (hd : 1 ≤ d) (hk : OK (f_Mo_back a0 h) (fun q => Ph (some (xI q.1)) q.2)) : Sx l z d mc ms M_Mo_back 0 (x_en [xR a0] 1) [] h Ph := by
  unfold f_Mo_back at hk
  refine sx_eq (lc2 := [some (xR a0)]) rfl rfl ?_
  refine sx_aload_n dc_Mo_back_0 rfl ?_
  obtain ⟨g2, hk⟩ := hk.g
  refine sx_get (ci := 11) (k := 37) rfl (by decide) wF_Mo_51 g2 dc_Mo_back_1 ?_
  refine sx_iconst (v := (-1 : Int32)) dc_Mo_back_4 (by decide) ?_
  refine sx_icmp_ne (tgt := 11) dc_Mo_back_5 (by decide) (fun c3 => ?_) (fun c3 => ?_)
  · replace hk := hk.f c3
    refine sx_aload_n dc_Mo_back_11 rfl ?_
    refine sx_aload_n dc_Mo_back_12 rfl ?_
    refine sx_get (ci := 11) (k := 37) rfl (by decide) wF_Mo_51 g2 dc_Mo_back_13 ?_
    refine sx_putI (ci := 11) (k := 7) rfl (by decide) wF_Mo_23 rfl g2 (Or.inl rfl) dc_Mo_back_16 ?_
    refine sx_aload_n dc_Mo_back_19 rfl ?_
    refine sx_aload_n dc_Mo_back_20 rfl ?_
    refine sx_get (ci := 11) (k := 38) rfl (by decide) wF_Mo_329 g2 dc_Mo_back_21 ?_
    refine sx_putI (ci := 11) (k := 8) rfl (by decide) wF_Mo_77 rfl g2 (Or.inl rfl) dc_Mo_back_24 ?_
    refine sx_aload_n dc_Mo_back_27 rfl ?_
    refine sx_aload_n dc_Mo_back_28 rfl ?_
    refine sx_get (ci := 11) (k := 39) rfl (by decide) wF_Mo_332 g2 dc_Mo_back_29 ?_
    refine sx_putI (ci := 11) (k := 9) rfl (by decide) wF_Mo_26 rfl g2 (Or.inl rfl) dc_Mo_back_32 ?_
    obtain ⟨h4, eh4, hk⟩ := hk.h
    refine sx_hp eh4 ?_
    have g5 : hK h4 a0 = 11 := by rw [eh4]; exact g2
    refine sx_aload_n dc_Mo_back_35 rfl ?_
    refine sx_aload_n dc_Mo_back_36 rfl ?_
    refine sx_get (ci := 11) (k := 40) rfl (by decide) wF_Mo_335 g5 dc_Mo_back_37 ?_
    refine sx_putI (ci := 11) (k := 4) rfl (by decide) wF_Mo_242 rfl g5 (Or.inl rfl) dc_Mo_back_40 ?_
    refine sx_aload_n dc_Mo_back_43 rfl ?_
    refine sx_get (ci := 11) (k := 7) rfl (by decide) wF_Mo_23 g5 dc_Mo_back_44 ?_
    exact sx_retI dc_Mo_back_47 rfl hk.val
  · replace hk := hk.t c3
    refine sx_bipush (v := (-3 : Int32)) dc_Mo_back_8 (by decide) ?_
    exact sx_retI dc_Mo_back_10 rfl hk.val
theorem dc_Mo_count_0 : decode M_Mo_count.2.1 0 = .ok (.iload_n 1, 1) := by decide +kernel
theorem dc_Mo_count_1 : decode M_Mo_count.2.1 1 = .ok (.i2l, 1) := by decide +kernel
theorem dc_Mo_count_2 : decode M_Mo_count.2.1 2 = .ok (.lconst 0, 1) := by decide +kernel
theorem dc_Mo_count_3 : decode M_Mo_count.2.1 3 = .ok (.ldc2_w 338, 3) := by decide +kernel
theorem dc_Mo_count_6 : decode M_Mo_count.2.1 6 = .ok (.invokestatic 73, 3) := by decide +kernel
theorem dc_Mo_count_9 : decode M_Mo_count.2.1 9 = .ok (.ifCond .ne 6, 3) := by decide +kernel
theorem dc_Mo_count_12 : decode M_Mo_count.2.1 12 = .ok (.bipush (-2), 2) := by decide +kernel
theorem dc_Mo_count_14 : decode M_Mo_count.2.1 14 = .ok (.ireturn, 1) := by decide +kernel
theorem dc_Mo_count_15 : decode M_Mo_count.2.1 15 = .ok (.iload_n 1, 1) := by decide +kernel
theorem dc_Mo_count_16 : decode M_Mo_count.2.1 16 = .ok (.iconst 4, 1) := by decide +kernel
theorem dc_Mo_count_17 : decode M_Mo_count.2.1 17 = .ok (.if_icmp .ge 49, 3) := by decide +kernel
theorem dc_Mo_count_20 : decode M_Mo_count.2.1 20 = .ok (.iload_n 1, 1) := by decide +kernel
theorem dc_Mo_count_21 : decode M_Mo_count.2.1 21 = .ok (.ifCond .ne 10, 3) := by decide +kernel
theorem dc_Mo_count_24 : decode M_Mo_count.2.1 24 = .ok (.aload_n 0, 1) := by decide +kernel
theorem dc_Mo_count_25 : decode M_Mo_count.2.1 25 = .ok (.getfield 23, 3) := by decide +kernel
theorem dc_Mo_count_28 : decode M_Mo_count.2.1 28 = .ok (.goto 37, 3) := by decide +kernel
theorem dc_Mo_count_31 : decode M_Mo_count.2.1 31 = .ok (.iload_n 1, 1) := by decide +kernel
theorem dc_Mo_count_32 : decode M_Mo_count.2.1 32 = .ok (.iconst 1, 1) := by decide +kernel
theorem dc_Mo_count_33 : decode M_Mo_count.2.1 33 = .ok (.if_icmp .ne 13, 3) := by decide +kernel
theorem dc_Mo_count_36 : decode M_Mo_count.2.1 36 = .ok (.aload_n 0, 1) := by decide +kernel
theorem dc_Mo_count_37 : decode M_Mo_count.2.1 37 = .ok (.getfield 77, 3) := by decide +kernel
theorem dc_Mo_count_40 : decode M_Mo_count.2.1 40 = .ok (.invokestatic 117, 3) := by decide +kernel
theorem dc_Mo_count_43 : decode M_Mo_count.2.1 43 = .ok (.goto 22, 3) := by decide +kernel
theorem dc_Mo_count_46 : decode M_Mo_count.2.1 46 = .ok (.iload_n 1, 1) := by decide +kernel
theorem dc_Mo_count_47 : decode M_Mo_count.2.1 47 = .ok (.iconst 2, 1) := by decide +kernel
theorem dc_Mo_count_48 : decode M_Mo_count.2.1 48 = .ok (.if_icmp .ne 13, 3) := by decide +kernel
theorem dc_Mo_count_51 : decode M_Mo_count.2.1 51 = .ok (.aload_n 0, 1) := by decide +kernel
theorem dc_Mo_count_52 : decode M_Mo_count.2.1 52 = .ok (.invokevirtual 304, 3) := by decide +kernel
theorem dc_Mo_count_55 : decode M_Mo_count.2.1 55 = .ok (.invokestatic 117, 3) := by decide +kernel
theorem dc_Mo_count_58 : decode M_Mo_count.2.1 58 = .ok (.goto 7, 3) := by decide +kernel
theorem dc_Mo_count_61 : decode M_Mo_count.2.1 61 = .ok (.aload_n 0, 1) := by decide +kernel
theorem dc_Mo_count_62 : decode M_Mo_count.2.1 62 = .ok (.getfield 103, 3) := by decide +kernel
theorem dc_Mo_count_65 : decode M_Mo_count.2.1 65 = .ok (.ireturn, 1) := by decide +kernel
theorem dc_Mo_count_66 : decode M_Mo_count.2.1 66 = .ok (.iload_n 1, 1) := by decide +kernel
theorem dc_Mo_count_67 : decode M_Mo_count.2.1 67 = .ok (.iconst 4, 1) := by decide +kernel
theorem dc_Mo_count_68 : decode M_Mo_count.2.1 68 = .ok (.if_icmp .ne 10, 3) := by decide +kernel
theorem dc_Mo_count_71 : decode M_Mo_count.2.1 71 = .ok (.aload_n 0, 1) := by decide +kernel
theorem dc_Mo_count_72 : decode M_Mo_count.2.1 72 = .ok (.getfield 70, 3) := by decide +kernel
theorem dc_Mo_count_75 : decode M_Mo_count.2.1 75 = .ok (.goto 19, 3) := by decide +kernel
theorem dc_Mo_count_78 : decode M_Mo_count.2.1 78 = .ok (.iload_n 1, 1) := by decide +kernel
theorem dc_Mo_count_79 : decode M_Mo_count.2.1 79 = .ok (.iconst 5, 1) := by decide +kernel
theorem dc_Mo_count_80 : decode M_Mo_count.2.1 80 = .ok (.if_icmp .ne 10, 3) := by decide +kernel
theorem dc_Mo_count_83 : decode M_Mo_count.2.1 83 = .ok (.aload_n 0, 1) := by decide +kernel
theorem dc_Mo_count_84 : decode M_Mo_count.2.1 84 = .ok (.getfield 126, 3) := by decide +kernel
theorem dc_Mo_count_87 : decode M_Mo_count.2.1 87 = .ok (.goto 7, 3) := by decide +kernel
theorem dc_Mo_count_90 : decode M_Mo_count.2.1 90 = .ok (.aload_n 0, 1) := by decide +kernel
theorem dc_Mo_count_91 : decode M_Mo_count.2.1 91 = .ok (.getfield 242, 3) := by decide +kernel
theorem dc_Mo_count_94 : decode M_Mo_count.2.1 94 = .ok (.ireturn, 1) := by decide +kernel
def f_Mo_count (a0 : Nat) (a1 : Int32) (h : xH) : Option (Int32 × xH) := Option.bind (f_Mo_in a1.toInt64 (0 : Int64) (6 : Int64) h) (fun q12 => if q12.1 = 0 then some ((-2 : Int32), q12.2) else if (4 : Int32) ≤ a1 then jn (fun (x15 : Int32) => some (x15, q12.2)) (fun k16 => if a1 = (4 : Int32) then gd (hK q12.2 a0 = 11) (k16 (hI q12.2 a0 3)) else if a1 = (5 : Int32) then gd (hK q12.2 a0 = 11) (k16 (hI q12.2 a0 6)) else gd (hK q12.2 a0 = 11) (k16 (hI q12.2 a0 4))) else jn (fun (x22 : Int32 × xH) => some (x22.1, x22.2)) (fun k23 => if a1 = 0 then gd (hK q12.2 a0 = 11) (k23 ((hI q12.2 a0 7), q12.2)) else if a1 = (1 : Int32) then gd (hK q12.2 a0 = 11) (Option.bind (f_Mo_bitsOf (hI q12.2 a0 8) q12.2) (fun q32 => k23 (q32.1, q32.2))) else if a1 = (2 : Int32) then gd (hK q12.2 a0 = 11) (Option.bind (f_Mo_unseen a0 q12.2) (fun q28 => Option.bind (f_Mo_bitsOf q28.1 q28.2) (fun q30 => k23 (q30.1, q30.2)))) else gd (hK q12.2 a0 = 11) (k23 ((hI q12.2 a0 12), q12.2))))
theorem t_Mo_count {l : Launch} {z : xZ} {d mc ms : Nat} {Ph : Option xV → xH → Prop} {a0 : Nat} {a1 : Int32}  {h : xH} (hd : 3 ≤ d) (hk : OK (f_Mo_count a0 a1 h) (fun q => Ph (some (xI q.1)) q.2)) : Sx l z d mc ms M_Mo_count 0 (x_en [xR a0, xI a1] 2) [] h Ph := by
  unfold f_Mo_count at hk
  refine sx_eq (lc2 := [some (xR a0), some (xI a1)]) rfl rfl ?_
  refine sx_iload_n dc_Mo_count_0 rfl ?_
  refine sx_i2l dc_Mo_count_1 ?_
  refine sx_lconst (v := 0) dc_Mo_count_2 (by decide) ?_
  refine sx_ldc2 (v := 6) wJ_Mo_338 dc_Mo_count_3 ?_
  obtain ⟨q12, eq12, hk⟩ := hk.bind
  refine sx_callS (d2 := d - 1) (mc2 := 0) (ms2 := 0) (as := [xJ a1.toInt64, xJ (0 : Int64), xJ (6 : Int64)]) mk_Mo_in rfl wM_Mo_73 mt_Mo_in rfl (Nat.le_of_ble_eq_true rfl) (Nat.le_of_ble_eq_true rfl) dc_Mo_count_6 (by omega) (Nat.zero_le _) (Nat.zero_le _) ?_
  refine t_Mo_in (by omega) ⟨q12, eq12, ?_⟩
  refine sx_eq0 (lc2 := [some (xR a0), some (xI a1)]) (st2 := [xI q12.1]) rfl rfl ?_
  refine sx_if_ne (tgt := 15) dc_Mo_count_9 (by decide) (fun c13 => ?_) (fun c13 => ?_)
  · replace hk := hk.f c13
    refine sx_iload_n dc_Mo_count_15 rfl ?_
    refine sx_iconst (v := (4 : Int32)) dc_Mo_count_16 (by decide) ?_
    refine sx_icmp_ge (tgt := 66) dc_Mo_count_17 (by decide) (fun c14 => ?_) (fun c14 => ?_)
    · replace hk := hk.t c14
      refine sx_iload_n dc_Mo_count_66 rfl ?_
      refine sx_iconst (v := (4 : Int32)) dc_Mo_count_67 (by decide) ?_
      refine hk.j (X := fun x15 => Sx l z d mc ms M_Mo_count 94 [some (xR a0), some (xI a1)] [xI x15] q12.2 Ph) (fun x15 hk => ?_) (fun k16 jk16 hk => ?_)
      · exact sx_retI dc_Mo_count_94 rfl hk.val
      · refine sx_icmp_ne (tgt := 78) dc_Mo_count_68 (by decide) (fun c17 => ?_) (fun c17 => ?_)
        · replace hk := hk.f c17
          refine sx_iload_n dc_Mo_count_78 rfl ?_
          refine sx_iconst (v := (5 : Int32)) dc_Mo_count_79 (by decide) ?_
          refine sx_icmp_ne (tgt := 90) dc_Mo_count_80 (by decide) (fun c18 => ?_) (fun c18 => ?_)
          · replace hk := hk.f c18
            refine sx_aload_n dc_Mo_count_90 rfl ?_
            obtain ⟨g19, hk⟩ := hk.g
            refine sx_get (ci := 11) (k := 4) rfl (by decide) wF_Mo_242 g19 dc_Mo_count_91 ?_
            exact jk16 (hI q12.2 a0 4) hk
          · replace hk := hk.t c18
            refine sx_aload_n dc_Mo_count_83 rfl ?_
            obtain ⟨g20, hk⟩ := hk.g
            refine sx_get (ci := 11) (k := 6) rfl (by decide) wF_Mo_126 g20 dc_Mo_count_84 ?_
            refine sx_goto (tgt := 94) dc_Mo_count_87 (by decide) ?_
            exact jk16 (hI q12.2 a0 6) hk
        · replace hk := hk.t c17
          refine sx_aload_n dc_Mo_count_71 rfl ?_
          obtain ⟨g21, hk⟩ := hk.g
          refine sx_get (ci := 11) (k := 3) rfl (by decide) wF_Mo_70 g21 dc_Mo_count_72 ?_
          refine sx_goto (tgt := 94) dc_Mo_count_75 (by decide) ?_
          exact jk16 (hI q12.2 a0 3) hk
    · replace hk := hk.f c14
      refine sx_iload_n dc_Mo_count_20 rfl ?_
      refine hk.j (X := fun x22 => Sx l z d mc ms M_Mo_count 65 [some (xR a0), some (xI a1)] [xI x22.1] x22.2 Ph) (fun x22 hk => ?_) (fun k23 jk23 hk => ?_)
      · exact sx_retI dc_Mo_count_65 rfl hk.val
      · refine sx_if_ne (tgt := 31) dc_Mo_count_21 (by decide) (fun c24 => ?_) (fun c24 => ?_)
        · replace hk := hk.f c24
          refine sx_iload_n dc_Mo_count_31 rfl ?_
          refine sx_iconst (v := (1 : Int32)) dc_Mo_count_32 (by decide) ?_
          refine sx_icmp_ne (tgt := 46) dc_Mo_count_33 (by decide) (fun c25 => ?_) (fun c25 => ?_)
          · replace hk := hk.f c25
            refine sx_iload_n dc_Mo_count_46 rfl ?_
            refine sx_iconst (v := (2 : Int32)) dc_Mo_count_47 (by decide) ?_
            refine sx_icmp_ne (tgt := 61) dc_Mo_count_48 (by decide) (fun c26 => ?_) (fun c26 => ?_)
            · replace hk := hk.f c26
              refine sx_aload_n dc_Mo_count_61 rfl ?_
              obtain ⟨g27, hk⟩ := hk.g
              refine sx_get (ci := 11) (k := 12) rfl (by decide) wF_Mo_103 g27 dc_Mo_count_62 ?_
              exact jk23 ((hI q12.2 a0 12), q12.2) hk
            · replace hk := hk.t c26
              refine sx_aload_n dc_Mo_count_51 rfl ?_
              obtain ⟨g29, hk⟩ := hk.g
              obtain ⟨q28, eq28, hk⟩ := hk.bind
              refine sx_callV (d2 := d - 1) (mc2 := 0) (ms2 := 0) (as := []) mk_Mo_unseen rfl (x_rk (ci := 11) g29 rfl rfl) wM_Mo_304 mi_Mo_unseen me_Mo_unseen rfl (Nat.le_of_ble_eq_true rfl) (Nat.le_of_ble_eq_true rfl) dc_Mo_count_52 (by omega) (Nat.zero_le _) (Nat.zero_le _) ?_
              refine t_Mo_unseen (by omega) ⟨q28, eq28, ?_⟩
              refine sx_eq0 (lc2 := [some (xR a0), some (xI a1)]) (st2 := [xI q28.1]) rfl rfl ?_
              obtain ⟨q30, eq30, hk⟩ := hk.bind
              refine sx_callS (d2 := d - 1) (mc2 := 0) (ms2 := 0) (as := [xI q28.1]) mk_Mo_bitsOf rfl wM_Mo_117 mt_Mo_bitsOf rfl (Nat.le_of_ble_eq_true rfl) (Nat.le_of_ble_eq_true rfl) dc_Mo_count_55 (by omega) (Nat.zero_le _) (Nat.zero_le _) ?_
              refine t_Mo_bitsOf (by omega) ⟨q30, eq30, ?_⟩
              refine sx_eq0 (lc2 := [some (xR a0), some (xI a1)]) (st2 := [xI q30.1]) rfl rfl ?_
              refine sx_goto (tgt := 65) dc_Mo_count_58 (by decide) ?_
              exact jk23 (q30.1, q30.2) hk
          · replace hk := hk.t c25
            refine sx_aload_n dc_Mo_count_36 rfl ?_
            obtain ⟨g31, hk⟩ := hk.g
            refine sx_get (ci := 11) (k := 8) rfl (by decide) wF_Mo_77 g31 dc_Mo_count_37 ?_
            obtain ⟨q32, eq32, hk⟩ := hk.bind
            refine sx_callS (d2 := d - 1) (mc2 := 0) (ms2 := 0) (as := [xI (hI q12.2 a0 8)]) mk_Mo_bitsOf rfl wM_Mo_117 mt_Mo_bitsOf rfl (Nat.le_of_ble_eq_true rfl) (Nat.le_of_ble_eq_true rfl) dc_Mo_count_40 (by omega) (Nat.zero_le _) (Nat.zero_le _) ?_
            refine t_Mo_bitsOf (by omega) ⟨q32, eq32, ?_⟩
            refine sx_eq0 (lc2 := [some (xR a0), some (xI a1)]) (st2 := [xI q32.1]) rfl rfl ?_
            refine sx_goto (tgt := 65) dc_Mo_count_43 (by decide) ?_
            exact jk23 (q32.1, q32.2) hk
        · replace hk := hk.t c24
          refine sx_aload_n dc_Mo_count_24 rfl ?_
          obtain ⟨g33, hk⟩ := hk.g
          refine sx_get (ci := 11) (k := 7) rfl (by decide) wF_Mo_23 g33 dc_Mo_count_25 ?_
          refine sx_goto (tgt := 65) dc_Mo_count_28 (by decide) ?_
          exact jk23 ((hI q12.2 a0 7), q12.2) hk
  · replace hk := hk.t c13
    refine sx_bipush (v := (-2 : Int32)) dc_Mo_count_12 (by decide) ?_
    exact sx_retI dc_Mo_count_14 rfl hk.val
theorem dc_Mo_sheet_0 : decode M_Mo_sheet.2.1 0 = .ok (.iload_n 1, 1) := by decide +kernel
theorem dc_Mo_sheet_1 : decode M_Mo_sheet.2.1 1 = .ok (.invokestatic 325, 3) := by decide +kernel
theorem dc_Mo_sheet_4 : decode M_Mo_sheet.2.1 4 = .ok (.ifCond .eq 27, 3) := by decide +kernel
theorem dc_Mo_sheet_7 : decode M_Mo_sheet.2.1 7 = .ok (.iload_n 2, 1) := by decide +kernel
theorem dc_Mo_sheet_8 : decode M_Mo_sheet.2.1 8 = .ok (.i2l, 1) := by decide +kernel
theorem dc_Mo_sheet_9 : decode M_Mo_sheet.2.1 9 = .ok (.ldc2_w 342, 3) := by decide +kernel
theorem dc_Mo_sheet_12 : decode M_Mo_sheet.2.1 12 = .ok (.ldc2_w 98, 3) := by decide +kernel
theorem dc_Mo_sheet_15 : decode M_Mo_sheet.2.1 15 = .ok (.invokestatic 73, 3) := by decide +kernel
theorem dc_Mo_sheet_18 : decode M_Mo_sheet.2.1 18 = .ok (.ifCond .eq 13, 3) := by decide +kernel
theorem dc_Mo_sheet_21 : decode M_Mo_sheet.2.1 21 = .ok (.iload_n 2, 1) := by decide +kernel
theorem dc_Mo_sheet_22 : decode M_Mo_sheet.2.1 22 = .ok (.ifCond .lt 12, 3) := by decide +kernel
theorem dc_Mo_sheet_25 : decode M_Mo_sheet.2.1 25 = .ok (.iload_n 3, 1) := by decide +kernel
theorem dc_Mo_sheet_26 : decode M_Mo_sheet.2.1 26 = .ok (.bipush 40, 2) := by decide +kernel
theorem dc_Mo_sheet_28 : decode M_Mo_sheet.2.1 28 = .ok (.if_icmp .le 6, 3) := by decide +kernel
theorem dc_Mo_sheet_31 : decode M_Mo_sheet.2.1 31 = .ok (.bipush (-2), 2) := by decide +kernel
theorem dc_Mo_sheet_33 : decode M_Mo_sheet.2.1 33 = .ok (.ireturn, 1) := by decide +kernel
theorem dc_Mo_sheet_34 : decode M_Mo_sheet.2.1 34 = .ok (.iload_n 2, 1) := by decide +kernel
theorem dc_Mo_sheet_35 : decode M_Mo_sheet.2.1 35 = .ok (.ifCond .lt 10, 3) := by decide +kernel
theorem dc_Mo_sheet_38 : decode M_Mo_sheet.2.1 38 = .ok (.iload_n 3, 1) := by decide +kernel
theorem dc_Mo_sheet_39 : decode M_Mo_sheet.2.1 39 = .ok (.ifCond .ge 6, 3) := by decide +kernel
theorem dc_Mo_sheet_42 : decode M_Mo_sheet.2.1 42 = .ok (.bipush (-14), 2) := by decide +kernel
theorem dc_Mo_sheet_44 : decode M_Mo_sheet.2.1 44 = .ok (.ireturn, 1) := by decide +kernel
theorem dc_Mo_sheet_45 : decode M_Mo_sheet.2.1 45 = .ok (.aload_n 0, 1) := by decide +kernel
theorem dc_Mo_sheet_46 : decode M_Mo_sheet.2.1 46 = .ok (.getfield 54, 3) := by decide +kernel
theorem dc_Mo_sheet_49 : decode M_Mo_sheet.2.1 49 = .ok (.iload_n 1, 1) := by decide +kernel
theorem dc_Mo_sheet_50 : decode M_Mo_sheet.2.1 50 = .ok (.iload_n 2, 1) := by decide +kernel
theorem dc_Mo_sheet_51 : decode M_Mo_sheet.2.1 51 = .ok (.ifCond .lt 7, 3) := by decide +kernel
theorem dc_Mo_sheet_54 : decode M_Mo_sheet.2.1 54 = .ok (.iconst 1, 1) := by decide +kernel
theorem dc_Mo_sheet_55 : decode M_Mo_sheet.2.1 55 = .ok (.goto 4, 3) := by decide +kernel
theorem dc_Mo_sheet_58 : decode M_Mo_sheet.2.1 58 = .ok (.iconst 0, 1) := by decide +kernel
theorem dc_Mo_sheet_59 : decode M_Mo_sheet.2.1 59 = .ok (.bastore, 1) := by decide +kernel
theorem dc_Mo_sheet_60 : decode M_Mo_sheet.2.1 60 = .ok (.aload_n 0, 1) := by decide +kernel
theorem dc_Mo_sheet_61 : decode M_Mo_sheet.2.1 61 = .ok (.getfield 57, 3) := by decide +kernel
theorem dc_Mo_sheet_64 : decode M_Mo_sheet.2.1 64 = .ok (.iload_n 1, 1) := by decide +kernel
theorem dc_Mo_sheet_65 : decode M_Mo_sheet.2.1 65 = .ok (.iload_n 2, 1) := by decide +kernel
theorem dc_Mo_sheet_66 : decode M_Mo_sheet.2.1 66 = .ok (.iastore, 1) := by decide +kernel
theorem dc_Mo_sheet_67 : decode M_Mo_sheet.2.1 67 = .ok (.aload_n 0, 1) := by decide +kernel
theorem dc_Mo_sheet_68 : decode M_Mo_sheet.2.1 68 = .ok (.getfield 60, 3) := by decide +kernel
theorem dc_Mo_sheet_71 : decode M_Mo_sheet.2.1 71 = .ok (.iload_n 1, 1) := by decide +kernel
theorem dc_Mo_sheet_72 : decode M_Mo_sheet.2.1 72 = .ok (.iload_n 3, 1) := by decide +kernel
theorem dc_Mo_sheet_73 : decode M_Mo_sheet.2.1 73 = .ok (.iastore, 1) := by decide +kernel
theorem dc_Mo_sheet_74 : decode M_Mo_sheet.2.1 74 = .ok (.iconst 0, 1) := by decide +kernel
theorem dc_Mo_sheet_75 : decode M_Mo_sheet.2.1 75 = .ok (.istore 4, 2) := by decide +kernel
theorem dc_Mo_sheet_77 : decode M_Mo_sheet.2.1 77 = .ok (.iload 4, 2) := by decide +kernel
theorem dc_Mo_sheet_79 : decode M_Mo_sheet.2.1 79 = .ok (.iload_n 3, 1) := by decide +kernel
theorem dc_Mo_sheet_80 : decode M_Mo_sheet.2.1 80 = .ok (.if_icmp .ge 26, 3) := by decide +kernel
theorem dc_Mo_sheet_83 : decode M_Mo_sheet.2.1 83 = .ok (.iload_n 2, 1) := by decide +kernel
theorem dc_Mo_sheet_84 : decode M_Mo_sheet.2.1 84 = .ok (.ifCond .lt 22, 3) := by decide +kernel
theorem dc_Mo_sheet_87 : decode M_Mo_sheet.2.1 87 = .ok (.aload_n 0, 1) := by decide +kernel
theorem dc_Mo_sheet_88 : decode M_Mo_sheet.2.1 88 = .ok (.getfield 63, 3) := by decide +kernel
theorem dc_Mo_sheet_91 : decode M_Mo_sheet.2.1 91 = .ok (.bipush 40, 2) := by decide +kernel
theorem dc_Mo_sheet_93 : decode M_Mo_sheet.2.1 93 = .ok (.iload_n 1, 1) := by decide +kernel
theorem dc_Mo_sheet_94 : decode M_Mo_sheet.2.1 94 = .ok (.imul, 1) := by decide +kernel
theorem dc_Mo_sheet_95 : decode M_Mo_sheet.2.1 95 = .ok (.iload 4, 2) := by decide +kernel
theorem dc_Mo_sheet_97 : decode M_Mo_sheet.2.1 97 = .ok (.iadd, 1) := by decide +kernel
theorem dc_Mo_sheet_98 : decode M_Mo_sheet.2.1 98 = .ok (.iconst 0, 1) := by decide +kernel
theorem dc_Mo_sheet_99 : decode M_Mo_sheet.2.1 99 = .ok (.iastore, 1) := by decide +kernel
theorem dc_Mo_sheet_100 : decode M_Mo_sheet.2.1 100 = .ok (.iinc 4 1, 3) := by decide +kernel
theorem dc_Mo_sheet_103 : decode M_Mo_sheet.2.1 103 = .ok (.goto (-26), 3) := by decide +kernel
theorem dc_Mo_sheet_106 : decode M_Mo_sheet.2.1 106 = .ok (.iconst 1, 1) := by decide +kernel
theorem dc_Mo_sheet_107 : decode M_Mo_sheet.2.1 107 = .ok (.ireturn, 1) := by decide +kernel
def f_Mo_sheet_L77 (a0 : Nat) (a1 : Int32) (a2 : Int32) (a3 : Int32) : Nat → Int32 → xH → (Int32 → xH → Option (Int32 × xH)) → Option (Int32 × xH)
  | 0, _, _, _ => none
  | n + 1, a4, h, K => if a3 ≤ a4 then K a4 h else if a2 < 0 then K a4 h else gd (hK h a0 = 11) (gd (hK h (hR h a0 44) = 12) (gd (¬ ((((40 : Int32) * a1) + a4) < 0 ∨ hL h (hR h a0 44) ≤ (((40 : Int32) * a1) + a4).toNatClampNeg)) (f_Mo_sheet_L77 a0 a1 a2 a3 n (a4 + (1 : Int32)) (hIu h (hR h a0 44) (((40 : Int32) * a1) + a4).toNatClampNeg (0 : Int32)) K)))
def f_Mo_sheet (a0 : Nat) (a1 : Int32) (a2 : Int32) (a3 : Int32) (h : xH) : Option (Int32 × xH) := Option.bind (f_Mo_isSheet a1 h) (fun q12 => jn (fun (x13 : xH) => some ((-2 : Int32), x13)) (fun k14 => if q12.1 = 0 then k14 q12.2 else Option.bind (f_Mo_in a2.toInt64 (-1 : Int64) (2 : Int64) q12.2) (fun q16 => if q16.1 = 0 then k14 q16.2 else jn (fun (x18 : Unit) => jn (fun (x20 : Unit) => gd (hK q16.2 a0 = 11) (gd (hK q16.2 (hR q16.2 a0 41) = 13) (gd (¬ (a1 < 0 ∨ hL q16.2 (hR q16.2 a0 41) ≤ a1.toNatClampNeg)) (gd (hK q16.2 (hR q16.2 a0 42) = 12) (gd (¬ (a1 < 0 ∨ hL q16.2 (hR q16.2 a0 42) ≤ a1.toNatClampNeg)) (gd (hK q16.2 (hR q16.2 a0 43) = 12) (gd (¬ (a1 < 0 ∨ hL q16.2 (hR q16.2 a0 43) ≤ a1.toNatClampNeg)) (hp (hIu (hIu (hIu q16.2 (hR q16.2 a0 41) a1.toNatClampNeg (nb (if a2 < 0 then (0 : Int32) else (1 : Int32)))) (hR q16.2 a0 42) a1.toNatClampNeg a2) (hR q16.2 a0 43) a1.toNatClampNeg a3) (fun h31 => f_Mo_sheet_L77 a0 a1 a2 a3 fu (0 : Int32) h31 (fun v41 h42 => some ((1 : Int32), h42))))))))))) (fun k21 => if a2 < 0 then k21 () else if 0 ≤ a3 then k21 () else some ((-14 : Int32), q16.2))) (fun k19 => if a2 < 0 then k19 () else if a3 ≤ (40 : Int32) then k19 () else k14 q16.2))))
theorem t_Mo_sheet_L77 {l : Launch} {z : xZ} {d mc ms : Nat} {Ph : Option xV → xH → Prop} {a0 : Nat} {a1 : Int32} {a2 : Int32} {a3 : Int32}  (hd : 1 ≤ d) : ∀ (n : Nat) (a4 : Int32) (h : xH) (K : Int32 → xH → Option (Int32 × xH)), OK (f_Mo_sheet_L77 a0 a1 a2 a3 n a4 h K) (fun q => Ph (some (xI q.1)) q.2) → (∀ (a4 : Int32) (h : xH), OK (K a4 h) (fun q => Ph (some (xI q.1)) q.2) → Sx l z d mc ms M_Mo_sheet 106 [some (xR a0), some (xI a1), some (xI a2), some (xI a3), some (xI a4)] [] h Ph) → Sx l z d mc ms M_Mo_sheet 77 [some (xR a0), some (xI a1), some (xI a2), some (xI a3), some (xI a4)] [] h Ph := by
  intro n
  induction n with
  | zero => intro a4 h K hk hE; exact hk.no
  | succ n ih =>
    intro a4 h K hk hE
    rw [f_Mo_sheet_L77] at hk
    refine sx_iload dc_Mo_sheet_77 rfl ?_
    refine sx_iload_n dc_Mo_sheet_79 rfl ?_
    refine sx_icmp_ge (tgt := 106) dc_Mo_sheet_80 (by decide) (fun c36 => ?_) (fun c36 => ?_)
    · replace hk := hk.t c36
      exact hE a4 h hk
    · replace hk := hk.f c36
      refine sx_iload_n dc_Mo_sheet_83 rfl ?_
      refine sx_if_lt (tgt := 106) dc_Mo_sheet_84 (by decide) (fun c37 => ?_) (fun c37 => ?_)
      · replace hk := hk.t c37
        exact hE a4 h hk
      · replace hk := hk.f c37
        refine sx_aload_n dc_Mo_sheet_87 rfl ?_
        obtain ⟨g38, hk⟩ := hk.g
        refine sx_get (ci := 11) (k := 44) rfl (by decide) wF_Mo_63 g38 dc_Mo_sheet_88 ?_
        refine sx_bipush (v := (40 : Int32)) dc_Mo_sheet_91 (by decide) ?_
        refine sx_iload_n dc_Mo_sheet_93 rfl ?_
        refine sx_imul dc_Mo_sheet_94 ?_
        refine sx_iload dc_Mo_sheet_95 rfl ?_
        refine sx_iadd dc_Mo_sheet_97 ?_
        refine sx_iconst (v := (0 : Int32)) dc_Mo_sheet_98 (by decide) ?_
        obtain ⟨g39, hk⟩ := hk.g
        obtain ⟨g40, hk⟩ := hk.g
        refine sx_iast g39 g40 dc_Mo_sheet_99 ?_
        refine sx_iinc (v := (1 : Int32)) dc_Mo_sheet_100 rfl (by decide) (by decide) (sx_eq (lc2 := [some (xR a0), some (xI a1), some (xI a2), some (xI a3), some (xI (a4 + (1 : Int32)))]) rfl rfl ?_)
        refine sx_goto (tgt := 77) dc_Mo_sheet_103 (by decide) ?_
        exact ih (a4 + (1 : Int32)) (hIu h (hR h a0 44) (((40 : Int32) * a1) + a4).toNatClampNeg (0 : Int32)) _ hk hE
theorem t_Mo_sheet {l : Launch} {z : xZ} {d mc ms : Nat} {Ph : Option xV → xH → Prop} {a0 : Nat} {a1 : Int32} {a2 : Int32} {a3 : Int32}  {h : xH} (hd : 3 ≤ d) (hk : OK (f_Mo_sheet a0 a1 a2 a3 h) (fun q => Ph (some (xI q.1)) q.2)) : Sx l z d mc ms M_Mo_sheet 0 (x_en [xR a0, xI a1, xI a2, xI a3] 5) [] h Ph := by
  unfold f_Mo_sheet at hk
  refine sx_eq (lc2 := [some (xR a0), some (xI a1), some (xI a2), some (xI a3), none]) rfl rfl ?_
  refine sx_iload_n dc_Mo_sheet_0 rfl ?_
  obtain ⟨q12, eq12, hk⟩ := hk.bind
  refine sx_callS (d2 := d - 1) (mc2 := 0) (ms2 := 0) (as := [xI a1]) mk_Mo_isSheet rfl wM_Mo_325 mt_Mo_isSheet rfl (Nat.le_of_ble_eq_true rfl) (Nat.le_of_ble_eq_true rfl) dc_Mo_sheet_1 (by omega) (Nat.zero_le _) (Nat.zero_le _) ?_
  refine t_Mo_isSheet (by omega) ⟨q12, eq12, ?_⟩
  refine sx_eq0 (lc2 := [some (xR a0), some (xI a1), some (xI a2), some (xI a3), none]) (st2 := [xI q12.1]) rfl rfl ?_
  refine hk.j (X := fun x13 => Sx l z d mc ms M_Mo_sheet 31 [some (xR a0), some (xI a1), some (xI a2), some (xI a3), none] [] x13 Ph) (fun x13 hk => ?_) (fun k14 jk14 hk => ?_)
  · refine sx_bipush (v := (-2 : Int32)) dc_Mo_sheet_31 (by decide) ?_
    exact sx_retI dc_Mo_sheet_33 rfl hk.val
  · refine sx_if_eq (tgt := 31) dc_Mo_sheet_4 (by decide) (fun c15 => ?_) (fun c15 => ?_)
    · replace hk := hk.t c15
      exact jk14 q12.2 hk
    · replace hk := hk.f c15
      refine sx_iload_n dc_Mo_sheet_7 rfl ?_
      refine sx_i2l dc_Mo_sheet_8 ?_
      refine sx_ldc2 (v := (-1)) wJ_Mo_342 dc_Mo_sheet_9 ?_
      refine sx_ldc2 (v := 2) wJ_Mo_98 dc_Mo_sheet_12 ?_
      obtain ⟨q16, eq16, hk⟩ := hk.bind
      refine sx_callS (d2 := d - 1) (mc2 := 0) (ms2 := 0) (as := [xJ a2.toInt64, xJ (-1 : Int64), xJ (2 : Int64)]) mk_Mo_in rfl wM_Mo_73 mt_Mo_in rfl (Nat.le_of_ble_eq_true rfl) (Nat.le_of_ble_eq_true rfl) dc_Mo_sheet_15 (by omega) (Nat.zero_le _) (Nat.zero_le _) ?_
      refine t_Mo_in (by omega) ⟨q16, eq16, ?_⟩
      refine sx_eq0 (lc2 := [some (xR a0), some (xI a1), some (xI a2), some (xI a3), none]) (st2 := [xI q16.1]) rfl rfl ?_
      refine sx_if_eq (tgt := 31) dc_Mo_sheet_18 (by decide) (fun c17 => ?_) (fun c17 => ?_)
      · replace hk := hk.t c17
        exact jk14 q16.2 hk
      · replace hk := hk.f c17
        refine sx_iload_n dc_Mo_sheet_21 rfl ?_
        refine hk.j (X := fun x18 => Sx l z d mc ms M_Mo_sheet 34 [some (xR a0), some (xI a1), some (xI a2), some (xI a3), none] [] q16.2 Ph) (fun x18 hk => ?_) (fun k19 jk19 hk => ?_)
        · refine sx_iload_n dc_Mo_sheet_34 rfl ?_
          refine hk.j (X := fun x20 => Sx l z d mc ms M_Mo_sheet 45 [some (xR a0), some (xI a1), some (xI a2), some (xI a3), none] [] q16.2 Ph) (fun x20 hk => ?_) (fun k21 jk21 hk => ?_)
          · refine sx_aload_n dc_Mo_sheet_45 rfl ?_
            obtain ⟨g22, hk⟩ := hk.g
            refine sx_get (ci := 11) (k := 41) rfl (by decide) wF_Mo_54 g22 dc_Mo_sheet_46 ?_
            refine sx_iload_n dc_Mo_sheet_49 rfl ?_
            refine sx_iload_n dc_Mo_sheet_50 rfl ?_
            refine sx_mg (pc2 := 59) (lc2 := [some (xR a0), some (xI a1), some (xI a2), some (xI a3), none]) (st2 := [xI (if a2 < 0 then (0 : Int32) else (1 : Int32)), xI a1, xR (hR q16.2 a0 41)]) (h2 := q16.2) ?_ (fun J23 => ?_)
            · obtain ⟨g25, hk⟩ := hk.g
              obtain ⟨g26, hk⟩ := hk.g
              refine sx_zast g25 g26 dc_Mo_sheet_59 ?_
              refine sx_aload_n dc_Mo_sheet_60 rfl ?_
              refine sx_get (ci := 11) (k := 42) rfl (by decide) wF_Mo_57 g22 dc_Mo_sheet_61 ?_
              refine sx_iload_n dc_Mo_sheet_64 rfl ?_
              refine sx_iload_n dc_Mo_sheet_65 rfl ?_
              obtain ⟨g27, hk⟩ := hk.g
              obtain ⟨g28, hk⟩ := hk.g
              refine sx_iast g27 g28 dc_Mo_sheet_66 ?_
              refine sx_aload_n dc_Mo_sheet_67 rfl ?_
              refine sx_get (ci := 11) (k := 43) rfl (by decide) wF_Mo_60 g22 dc_Mo_sheet_68 ?_
              refine sx_iload_n dc_Mo_sheet_71 rfl ?_
              refine sx_iload_n dc_Mo_sheet_72 rfl ?_
              obtain ⟨g29, hk⟩ := hk.g
              obtain ⟨g30, hk⟩ := hk.g
              refine sx_iast g29 g30 dc_Mo_sheet_73 ?_
              obtain ⟨h31, eh31, hk⟩ := hk.h
              refine sx_hp eh31 ?_
              have g32 : hK h31 a0 = 11 := by rw [eh31]; exact g22
              have g33 : hK h31 (hR q16.2 a0 41) = 13 := by rw [eh31]; exact g25
              have g34 : hK h31 (hR q16.2 a0 42) = 12 := by rw [eh31]; exact g27
              have g35 : hK h31 (hR q16.2 a0 43) = 12 := by rw [eh31]; exact g29
              refine sx_iconst (v := (0 : Int32)) dc_Mo_sheet_74 (by decide) ?_
              refine sx_istore dc_Mo_sheet_75 (by decide) (sx_eq (lc2 := [some (xR a0), some (xI a1), some (xI a2), some (xI a3), some (xI (0 : Int32))]) rfl rfl ?_)
              refine t_Mo_sheet_L77 (by omega) _ _ _ _ hk (fun v41 h42 hk => ?_)
              refine sx_iconst (v := (1 : Int32)) dc_Mo_sheet_106 (by decide) ?_
              exact sx_retI dc_Mo_sheet_107 rfl hk.val
            · refine sx_if_lt (tgt := 58) dc_Mo_sheet_51 (by decide) (fun c24 => ?_) (fun c24 => ?_)
              · try simp only [if_pos c24] at J23
                refine sx_iconst (v := (0 : Int32)) dc_Mo_sheet_58 (by decide) ?_
                exact J23
              · try simp only [if_neg c24] at J23
                refine sx_iconst (v := (1 : Int32)) dc_Mo_sheet_54 (by decide) ?_
                refine sx_goto (tgt := 59) dc_Mo_sheet_55 (by decide) ?_
                exact J23
          · refine sx_if_lt (tgt := 45) dc_Mo_sheet_35 (by decide) (fun c43 => ?_) (fun c43 => ?_)
            · replace hk := hk.t c43
              exact jk21 () hk
            · replace hk := hk.f c43
              refine sx_iload_n dc_Mo_sheet_38 rfl ?_
              refine sx_if_ge (tgt := 45) dc_Mo_sheet_39 (by decide) (fun c44 => ?_) (fun c44 => ?_)
              · replace hk := hk.t c44
                exact jk21 () hk
              · replace hk := hk.f c44
                refine sx_bipush (v := (-14 : Int32)) dc_Mo_sheet_42 (by decide) ?_
                exact sx_retI dc_Mo_sheet_44 rfl hk.val
        · refine sx_if_lt (tgt := 34) dc_Mo_sheet_22 (by decide) (fun c45 => ?_) (fun c45 => ?_)
          · replace hk := hk.t c45
            exact jk19 () hk
          · replace hk := hk.f c45
            refine sx_iload_n dc_Mo_sheet_25 rfl ?_
            refine sx_bipush (v := (40 : Int32)) dc_Mo_sheet_26 (by decide) ?_
            refine sx_icmp_le (tgt := 34) dc_Mo_sheet_28 (by decide) (fun c46 => ?_) (fun c46 => ?_)
            · replace hk := hk.t c46
              exact jk19 () hk
            · replace hk := hk.f c46
              exact jk14 q16.2 hk
theorem dc_Mo_cell_0 : decode M_Mo_cell.2.1 0 = .ok (.iload_n 1, 1) := by decide +kernel
theorem dc_Mo_cell_1 : decode M_Mo_cell.2.1 1 = .ok (.invokestatic 325, 3) := by decide +kernel
theorem dc_Mo_cell_4 : decode M_Mo_cell.2.1 4 = .ok (.ifCond .ne 6, 3) := by decide +kernel
theorem dc_Mo_cell_7 : decode M_Mo_cell.2.1 7 = .ok (.bipush (-2), 2) := by decide +kernel
theorem dc_Mo_cell_9 : decode M_Mo_cell.2.1 9 = .ok (.ireturn, 1) := by decide +kernel
theorem dc_Mo_cell_10 : decode M_Mo_cell.2.1 10 = .ok (.aload_n 0, 1) := by decide +kernel
theorem dc_Mo_cell_11 : decode M_Mo_cell.2.1 11 = .ok (.getfield 54, 3) := by decide +kernel
theorem dc_Mo_cell_14 : decode M_Mo_cell.2.1 14 = .ok (.iload_n 1, 1) := by decide +kernel
theorem dc_Mo_cell_15 : decode M_Mo_cell.2.1 15 = .ok (.baload, 1) := by decide +kernel
theorem dc_Mo_cell_16 : decode M_Mo_cell.2.1 16 = .ok (.ifCond .ne 6, 3) := by decide +kernel
theorem dc_Mo_cell_19 : decode M_Mo_cell.2.1 19 = .ok (.bipush (-11), 2) := by decide +kernel
theorem dc_Mo_cell_21 : decode M_Mo_cell.2.1 21 = .ok (.ireturn, 1) := by decide +kernel
theorem dc_Mo_cell_22 : decode M_Mo_cell.2.1 22 = .ok (.iload_n 2, 1) := by decide +kernel
theorem dc_Mo_cell_23 : decode M_Mo_cell.2.1 23 = .ok (.i2l, 1) := by decide +kernel
theorem dc_Mo_cell_24 : decode M_Mo_cell.2.1 24 = .ok (.lconst 0, 1) := by decide +kernel
theorem dc_Mo_cell_25 : decode M_Mo_cell.2.1 25 = .ok (.aload_n 0, 1) := by decide +kernel
theorem dc_Mo_cell_26 : decode M_Mo_cell.2.1 26 = .ok (.getfield 60, 3) := by decide +kernel
theorem dc_Mo_cell_29 : decode M_Mo_cell.2.1 29 = .ok (.iload_n 1, 1) := by decide +kernel
theorem dc_Mo_cell_30 : decode M_Mo_cell.2.1 30 = .ok (.iaload, 1) := by decide +kernel
theorem dc_Mo_cell_31 : decode M_Mo_cell.2.1 31 = .ok (.iconst 1, 1) := by decide +kernel
theorem dc_Mo_cell_32 : decode M_Mo_cell.2.1 32 = .ok (.isub, 1) := by decide +kernel
theorem dc_Mo_cell_33 : decode M_Mo_cell.2.1 33 = .ok (.i2l, 1) := by decide +kernel
theorem dc_Mo_cell_34 : decode M_Mo_cell.2.1 34 = .ok (.invokestatic 73, 3) := by decide +kernel
theorem dc_Mo_cell_37 : decode M_Mo_cell.2.1 37 = .ok (.ifCond .ne 6, 3) := by decide +kernel
theorem dc_Mo_cell_40 : decode M_Mo_cell.2.1 40 = .ok (.bipush (-12), 2) := by decide +kernel
theorem dc_Mo_cell_42 : decode M_Mo_cell.2.1 42 = .ok (.ireturn, 1) := by decide +kernel
theorem dc_Mo_cell_43 : decode M_Mo_cell.2.1 43 = .ok (.aload_n 0, 1) := by decide +kernel
theorem dc_Mo_cell_44 : decode M_Mo_cell.2.1 44 = .ok (.getfield 63, 3) := by decide +kernel
theorem dc_Mo_cell_47 : decode M_Mo_cell.2.1 47 = .ok (.bipush 40, 2) := by decide +kernel
theorem dc_Mo_cell_49 : decode M_Mo_cell.2.1 49 = .ok (.iload_n 1, 1) := by decide +kernel
theorem dc_Mo_cell_50 : decode M_Mo_cell.2.1 50 = .ok (.imul, 1) := by decide +kernel
theorem dc_Mo_cell_51 : decode M_Mo_cell.2.1 51 = .ok (.iload_n 2, 1) := by decide +kernel
theorem dc_Mo_cell_52 : decode M_Mo_cell.2.1 52 = .ok (.iadd, 1) := by decide +kernel
theorem dc_Mo_cell_53 : decode M_Mo_cell.2.1 53 = .ok (.aload_n 0, 1) := by decide +kernel
theorem dc_Mo_cell_54 : decode M_Mo_cell.2.1 54 = .ok (.getfield 57, 3) := by decide +kernel
theorem dc_Mo_cell_57 : decode M_Mo_cell.2.1 57 = .ok (.iload_n 1, 1) := by decide +kernel
theorem dc_Mo_cell_58 : decode M_Mo_cell.2.1 58 = .ok (.iaload, 1) := by decide +kernel
theorem dc_Mo_cell_59 : decode M_Mo_cell.2.1 59 = .ok (.ifCond .ne 8, 3) := by decide +kernel
theorem dc_Mo_cell_62 : decode M_Mo_cell.2.1 62 = .ok (.iload_n 3, 1) := by decide +kernel
theorem dc_Mo_cell_63 : decode M_Mo_cell.2.1 63 = .ok (.i2b, 1) := by decide +kernel
theorem dc_Mo_cell_64 : decode M_Mo_cell.2.1 64 = .ok (.goto 19, 3) := by decide +kernel
theorem dc_Mo_cell_67 : decode M_Mo_cell.2.1 67 = .ok (.aload_n 0, 1) := by decide +kernel
theorem dc_Mo_cell_68 : decode M_Mo_cell.2.1 68 = .ok (.getfield 57, 3) := by decide +kernel
theorem dc_Mo_cell_71 : decode M_Mo_cell.2.1 71 = .ok (.iload_n 1, 1) := by decide +kernel
theorem dc_Mo_cell_72 : decode M_Mo_cell.2.1 72 = .ok (.iaload, 1) := by decide +kernel
theorem dc_Mo_cell_73 : decode M_Mo_cell.2.1 73 = .ok (.iconst 1, 1) := by decide +kernel
theorem dc_Mo_cell_74 : decode M_Mo_cell.2.1 74 = .ok (.if_icmp .ne 8, 3) := by decide +kernel
theorem dc_Mo_cell_77 : decode M_Mo_cell.2.1 77 = .ok (.iload_n 3, 1) := by decide +kernel
theorem dc_Mo_cell_78 : decode M_Mo_cell.2.1 78 = .ok (.i2s, 1) := by decide +kernel
theorem dc_Mo_cell_79 : decode M_Mo_cell.2.1 79 = .ok (.goto 4, 3) := by decide +kernel
theorem dc_Mo_cell_82 : decode M_Mo_cell.2.1 82 = .ok (.iload_n 3, 1) := by decide +kernel
theorem dc_Mo_cell_83 : decode M_Mo_cell.2.1 83 = .ok (.iastore, 1) := by decide +kernel
theorem dc_Mo_cell_84 : decode M_Mo_cell.2.1 84 = .ok (.iconst 1, 1) := by decide +kernel
theorem dc_Mo_cell_85 : decode M_Mo_cell.2.1 85 = .ok (.ireturn, 1) := by decide +kernel
def f_Mo_cell (a0 : Nat) (a1 : Int32) (a2 : Int32) (a3 : Int32) (h : xH) : Option (Int32 × xH) := Option.bind (f_Mo_isSheet a1 h) (fun q14 => if q14.1 = 0 then some ((-2 : Int32), q14.2) else gd (hK q14.2 a0 = 11) (gd (hK q14.2 (hR q14.2 a0 41) = 13) (gd (¬ (a1 < 0 ∨ hL q14.2 (hR q14.2 a0 41) ≤ a1.toNatClampNeg)) (if (hI q14.2 (hR q14.2 a0 41) a1.toNatClampNeg) = 0 then some ((-11 : Int32), q14.2) else gd (hK q14.2 (hR q14.2 a0 43) = 12) (gd (¬ (a1 < 0 ∨ hL q14.2 (hR q14.2 a0 43) ≤ a1.toNatClampNeg)) (Option.bind (f_Mo_in a2.toInt64 (0 : Int64) (((hI q14.2 (hR q14.2 a0 43) a1.toNatClampNeg) - (1 : Int32)).toInt64) q14.2) (fun q22 => if q22.1 = 0 then some ((-12 : Int32), q22.2) else gd (hK q22.2 a0 = 11) (gd (hK q22.2 (hR q22.2 a0 42) = 12) (gd (¬ (a1 < 0 ∨ hL q22.2 (hR q22.2 a0 42) ≤ a1.toNatClampNeg)) (jn (fun (x27 : Int32) => gd (hK q22.2 (hR q22.2 a0 44) = 12) (gd (¬ ((((40 : Int32) * a1) + a2) < 0 ∨ hL q22.2 (hR q22.2 a0 44) ≤ (((40 : Int32) * a1) + a2).toNatClampNeg)) (some ((1 : Int32), hIu q22.2 (hR q22.2 a0 44) (((40 : Int32) * a1) + a2).toNatClampNeg x27)))) (fun k28 => if (hI q22.2 (hR q22.2 a0 42) a1.toNatClampNeg) = 0 then k28 (jB a3) else gd (¬ (a1 < 0 ∨ hL q22.2 (hR q22.2 a0 42) ≤ a1.toNatClampNeg)) (if (hI q22.2 (hR q22.2 a0 42) a1.toNatClampNeg) = (1 : Int32) then k28 (jS a3) else k28 a3))))))))))))
theorem t_Mo_cell {l : Launch} {z : xZ} {d mc ms : Nat} {Ph : Option xV → xH → Prop} {a0 : Nat} {a1 : Int32} {a2 : Int32} {a3 : Int32}  {h : xH} (hd : 3 ≤ d) (hk : OK (f_Mo_cell a0 a1 a2 a3 h) (fun q => Ph (some (xI q.1)) q.2)) : Sx l z d mc ms M_Mo_cell 0 (x_en [xR a0, xI a1, xI a2, xI a3] 4) [] h Ph := by
  unfold f_Mo_cell at hk
  refine sx_eq (lc2 := [some (xR a0), some (xI a1), some (xI a2), some (xI a3)]) rfl rfl ?_
  refine sx_iload_n dc_Mo_cell_0 rfl ?_
  obtain ⟨q14, eq14, hk⟩ := hk.bind
  refine sx_callS (d2 := d - 1) (mc2 := 0) (ms2 := 0) (as := [xI a1]) mk_Mo_isSheet rfl wM_Mo_325 mt_Mo_isSheet rfl (Nat.le_of_ble_eq_true rfl) (Nat.le_of_ble_eq_true rfl) dc_Mo_cell_1 (by omega) (Nat.zero_le _) (Nat.zero_le _) ?_
  refine t_Mo_isSheet (by omega) ⟨q14, eq14, ?_⟩
  refine sx_eq0 (lc2 := [some (xR a0), some (xI a1), some (xI a2), some (xI a3)]) (st2 := [xI q14.1]) rfl rfl ?_
  refine sx_if_ne (tgt := 10) dc_Mo_cell_4 (by decide) (fun c15 => ?_) (fun c15 => ?_)
  · replace hk := hk.f c15
    refine sx_aload_n dc_Mo_cell_10 rfl ?_
    obtain ⟨g16, hk⟩ := hk.g
    refine sx_get (ci := 11) (k := 41) rfl (by decide) wF_Mo_54 g16 dc_Mo_cell_11 ?_
    refine sx_iload_n dc_Mo_cell_14 rfl ?_
    obtain ⟨g17, hk⟩ := hk.g
    obtain ⟨g18, hk⟩ := hk.g
    refine sx_zald g17 g18 dc_Mo_cell_15 ?_
    refine sx_if_ne (tgt := 22) dc_Mo_cell_16 (by decide) (fun c19 => ?_) (fun c19 => ?_)
    · replace hk := hk.f c19
      refine sx_iload_n dc_Mo_cell_22 rfl ?_
      refine sx_i2l dc_Mo_cell_23 ?_
      refine sx_lconst (v := 0) dc_Mo_cell_24 (by decide) ?_
      refine sx_aload_n dc_Mo_cell_25 rfl ?_
      refine sx_get (ci := 11) (k := 43) rfl (by decide) wF_Mo_60 g16 dc_Mo_cell_26 ?_
      refine sx_iload_n dc_Mo_cell_29 rfl ?_
      obtain ⟨g20, hk⟩ := hk.g
      obtain ⟨g21, hk⟩ := hk.g
      refine sx_iald g20 g21 dc_Mo_cell_30 ?_
      refine sx_iconst (v := (1 : Int32)) dc_Mo_cell_31 (by decide) ?_
      refine sx_isub dc_Mo_cell_32 ?_
      refine sx_i2l dc_Mo_cell_33 ?_
      obtain ⟨q22, eq22, hk⟩ := hk.bind
      refine sx_callS (d2 := d - 1) (mc2 := 0) (ms2 := 0) (as := [xJ a2.toInt64, xJ (0 : Int64), xJ (((hI q14.2 (hR q14.2 a0 43) a1.toNatClampNeg) - (1 : Int32)).toInt64)]) mk_Mo_in rfl wM_Mo_73 mt_Mo_in rfl (Nat.le_of_ble_eq_true rfl) (Nat.le_of_ble_eq_true rfl) dc_Mo_cell_34 (by omega) (Nat.zero_le _) (Nat.zero_le _) ?_
      refine t_Mo_in (by omega) ⟨q22, eq22, ?_⟩
      refine sx_eq0 (lc2 := [some (xR a0), some (xI a1), some (xI a2), some (xI a3)]) (st2 := [xI q22.1]) rfl rfl ?_
      refine sx_if_ne (tgt := 43) dc_Mo_cell_37 (by decide) (fun c23 => ?_) (fun c23 => ?_)
      · replace hk := hk.f c23
        refine sx_aload_n dc_Mo_cell_43 rfl ?_
        obtain ⟨g24, hk⟩ := hk.g
        refine sx_get (ci := 11) (k := 44) rfl (by decide) wF_Mo_63 g24 dc_Mo_cell_44 ?_
        refine sx_bipush (v := (40 : Int32)) dc_Mo_cell_47 (by decide) ?_
        refine sx_iload_n dc_Mo_cell_49 rfl ?_
        refine sx_imul dc_Mo_cell_50 ?_
        refine sx_iload_n dc_Mo_cell_51 rfl ?_
        refine sx_iadd dc_Mo_cell_52 ?_
        refine sx_aload_n dc_Mo_cell_53 rfl ?_
        refine sx_get (ci := 11) (k := 42) rfl (by decide) wF_Mo_57 g24 dc_Mo_cell_54 ?_
        refine sx_iload_n dc_Mo_cell_57 rfl ?_
        obtain ⟨g25, hk⟩ := hk.g
        obtain ⟨g26, hk⟩ := hk.g
        refine sx_iald g25 g26 dc_Mo_cell_58 ?_
        refine hk.j (X := fun x27 => Sx l z d mc ms M_Mo_cell 83 [some (xR a0), some (xI a1), some (xI a2), some (xI a3)] [xI x27, xI (((40 : Int32) * a1) + a2), xR (hR q22.2 a0 44)] q22.2 Ph) (fun x27 hk => ?_) (fun k28 jk28 hk => ?_)
        · obtain ⟨g29, hk⟩ := hk.g
          obtain ⟨g30, hk⟩ := hk.g
          refine sx_iast g29 g30 dc_Mo_cell_83 ?_
          refine sx_iconst (v := (1 : Int32)) dc_Mo_cell_84 (by decide) ?_
          exact sx_retI dc_Mo_cell_85 rfl hk.val
        · refine sx_if_ne (tgt := 67) dc_Mo_cell_59 (by decide) (fun c31 => ?_) (fun c31 => ?_)
          · replace hk := hk.f c31
            refine sx_aload_n dc_Mo_cell_67 rfl ?_
            refine sx_get (ci := 11) (k := 42) rfl (by decide) wF_Mo_57 g24 dc_Mo_cell_68 ?_
            refine sx_iload_n dc_Mo_cell_71 rfl ?_
            obtain ⟨g32, hk⟩ := hk.g
            refine sx_iald g25 g32 dc_Mo_cell_72 ?_
            refine sx_iconst (v := (1 : Int32)) dc_Mo_cell_73 (by decide) ?_
            refine sx_icmp_ne (tgt := 82) dc_Mo_cell_74 (by decide) (fun c33 => ?_) (fun c33 => ?_)
            · replace hk := hk.f c33
              refine sx_iload_n dc_Mo_cell_82 rfl ?_
              exact jk28 a3 hk
            · replace hk := hk.t c33
              refine sx_iload_n dc_Mo_cell_77 rfl ?_
              refine sx_i2s dc_Mo_cell_78 ?_
              refine sx_goto (tgt := 83) dc_Mo_cell_79 (by decide) ?_
              exact jk28 (jS a3) hk
          · replace hk := hk.t c31
            refine sx_iload_n dc_Mo_cell_62 rfl ?_
            refine sx_i2b dc_Mo_cell_63 ?_
            refine sx_goto (tgt := 83) dc_Mo_cell_64 (by decide) ?_
            exact jk28 (jB a3) hk
      · replace hk := hk.t c23
        refine sx_bipush (v := (-12 : Int32)) dc_Mo_cell_40 (by decide) ?_
        exact sx_retI dc_Mo_cell_42 rfl hk.val
    · replace hk := hk.t c19
      refine sx_bipush (v := (-11 : Int32)) dc_Mo_cell_19 (by decide) ?_
      exact sx_retI dc_Mo_cell_21 rfl hk.val
  · replace hk := hk.t c15
    refine sx_bipush (v := (-2 : Int32)) dc_Mo_cell_7 (by decide) ?_
    exact sx_retI dc_Mo_cell_9 rfl hk.val
theorem dc_Mo_copy_0 : decode M_Mo_copy.2.1 0 = .ok (.iload_n 1, 1) := by decide +kernel
theorem dc_Mo_copy_1 : decode M_Mo_copy.2.1 1 = .ok (.invokestatic 325, 3) := by decide +kernel
theorem dc_Mo_copy_4 : decode M_Mo_copy.2.1 4 = .ok (.ifCond .eq 10, 3) := by decide +kernel
theorem dc_Mo_copy_7 : decode M_Mo_copy.2.1 7 = .ok (.iload_n 3, 1) := by decide +kernel
theorem dc_Mo_copy_8 : decode M_Mo_copy.2.1 8 = .ok (.invokestatic 325, 3) := by decide +kernel
theorem dc_Mo_copy_11 : decode M_Mo_copy.2.1 11 = .ok (.ifCond .ne 6, 3) := by decide +kernel
theorem dc_Mo_copy_14 : decode M_Mo_copy.2.1 14 = .ok (.bipush (-2), 2) := by decide +kernel
theorem dc_Mo_copy_16 : decode M_Mo_copy.2.1 16 = .ok (.ireturn, 1) := by decide +kernel
theorem dc_Mo_copy_17 : decode M_Mo_copy.2.1 17 = .ok (.aload_n 0, 1) := by decide +kernel
theorem dc_Mo_copy_18 : decode M_Mo_copy.2.1 18 = .ok (.getfield 54, 3) := by decide +kernel
theorem dc_Mo_copy_21 : decode M_Mo_copy.2.1 21 = .ok (.iload_n 1, 1) := by decide +kernel
theorem dc_Mo_copy_22 : decode M_Mo_copy.2.1 22 = .ok (.baload, 1) := by decide +kernel
theorem dc_Mo_copy_23 : decode M_Mo_copy.2.1 23 = .ok (.ifCond .eq 12, 3) := by decide +kernel
theorem dc_Mo_copy_26 : decode M_Mo_copy.2.1 26 = .ok (.aload_n 0, 1) := by decide +kernel
theorem dc_Mo_copy_27 : decode M_Mo_copy.2.1 27 = .ok (.getfield 54, 3) := by decide +kernel
theorem dc_Mo_copy_30 : decode M_Mo_copy.2.1 30 = .ok (.iload_n 3, 1) := by decide +kernel
theorem dc_Mo_copy_31 : decode M_Mo_copy.2.1 31 = .ok (.baload, 1) := by decide +kernel
theorem dc_Mo_copy_32 : decode M_Mo_copy.2.1 32 = .ok (.ifCond .ne 6, 3) := by decide +kernel
theorem dc_Mo_copy_35 : decode M_Mo_copy.2.1 35 = .ok (.bipush (-11), 2) := by decide +kernel
theorem dc_Mo_copy_37 : decode M_Mo_copy.2.1 37 = .ok (.ireturn, 1) := by decide +kernel
theorem dc_Mo_copy_38 : decode M_Mo_copy.2.1 38 = .ok (.aload_n 0, 1) := by decide +kernel
theorem dc_Mo_copy_39 : decode M_Mo_copy.2.1 39 = .ok (.getfield 57, 3) := by decide +kernel
theorem dc_Mo_copy_42 : decode M_Mo_copy.2.1 42 = .ok (.iload_n 1, 1) := by decide +kernel
theorem dc_Mo_copy_43 : decode M_Mo_copy.2.1 43 = .ok (.iaload, 1) := by decide +kernel
theorem dc_Mo_copy_44 : decode M_Mo_copy.2.1 44 = .ok (.aload_n 0, 1) := by decide +kernel
theorem dc_Mo_copy_45 : decode M_Mo_copy.2.1 45 = .ok (.getfield 57, 3) := by decide +kernel
theorem dc_Mo_copy_48 : decode M_Mo_copy.2.1 48 = .ok (.iload_n 3, 1) := by decide +kernel
theorem dc_Mo_copy_49 : decode M_Mo_copy.2.1 49 = .ok (.iaload, 1) := by decide +kernel
theorem dc_Mo_copy_50 : decode M_Mo_copy.2.1 50 = .ok (.if_icmp .eq 6, 3) := by decide +kernel
theorem dc_Mo_copy_53 : decode M_Mo_copy.2.1 53 = .ok (.bipush (-13), 2) := by decide +kernel
theorem dc_Mo_copy_55 : decode M_Mo_copy.2.1 55 = .ok (.ireturn, 1) := by decide +kernel
theorem dc_Mo_copy_56 : decode M_Mo_copy.2.1 56 = .ok (.iload 5, 2) := by decide +kernel
theorem dc_Mo_copy_58 : decode M_Mo_copy.2.1 58 = .ok (.ifCond .lt 39, 3) := by decide +kernel
theorem dc_Mo_copy_61 : decode M_Mo_copy.2.1 61 = .ok (.iload_n 2, 1) := by decide +kernel
theorem dc_Mo_copy_62 : decode M_Mo_copy.2.1 62 = .ok (.ifCond .lt 35, 3) := by decide +kernel
theorem dc_Mo_copy_65 : decode M_Mo_copy.2.1 65 = .ok (.iload 4, 2) := by decide +kernel
theorem dc_Mo_copy_67 : decode M_Mo_copy.2.1 67 = .ok (.ifCond .lt 30, 3) := by decide +kernel
theorem dc_Mo_copy_70 : decode M_Mo_copy.2.1 70 = .ok (.iload_n 2, 1) := by decide +kernel
theorem dc_Mo_copy_71 : decode M_Mo_copy.2.1 71 = .ok (.aload_n 0, 1) := by decide +kernel
theorem dc_Mo_copy_72 : decode M_Mo_copy.2.1 72 = .ok (.getfield 60, 3) := by decide +kernel
theorem dc_Mo_copy_75 : decode M_Mo_copy.2.1 75 = .ok (.iload_n 1, 1) := by decide +kernel
theorem dc_Mo_copy_76 : decode M_Mo_copy.2.1 76 = .ok (.iaload, 1) := by decide +kernel
theorem dc_Mo_copy_77 : decode M_Mo_copy.2.1 77 = .ok (.iload 5, 2) := by decide +kernel
theorem dc_Mo_copy_79 : decode M_Mo_copy.2.1 79 = .ok (.isub, 1) := by decide +kernel
theorem dc_Mo_copy_80 : decode M_Mo_copy.2.1 80 = .ok (.if_icmp .gt 17, 3) := by decide +kernel
theorem dc_Mo_copy_83 : decode M_Mo_copy.2.1 83 = .ok (.iload 4, 2) := by decide +kernel
theorem dc_Mo_copy_85 : decode M_Mo_copy.2.1 85 = .ok (.aload_n 0, 1) := by decide +kernel
theorem dc_Mo_copy_86 : decode M_Mo_copy.2.1 86 = .ok (.getfield 60, 3) := by decide +kernel
theorem dc_Mo_copy_89 : decode M_Mo_copy.2.1 89 = .ok (.iload_n 3, 1) := by decide +kernel
theorem dc_Mo_copy_90 : decode M_Mo_copy.2.1 90 = .ok (.iaload, 1) := by decide +kernel
theorem dc_Mo_copy_91 : decode M_Mo_copy.2.1 91 = .ok (.iload 5, 2) := by decide +kernel
theorem dc_Mo_copy_93 : decode M_Mo_copy.2.1 93 = .ok (.isub, 1) := by decide +kernel
theorem dc_Mo_copy_94 : decode M_Mo_copy.2.1 94 = .ok (.if_icmp .le 6, 3) := by decide +kernel
theorem dc_Mo_copy_97 : decode M_Mo_copy.2.1 97 = .ok (.bipush (-12), 2) := by decide +kernel
theorem dc_Mo_copy_99 : decode M_Mo_copy.2.1 99 = .ok (.ireturn, 1) := by decide +kernel
theorem dc_Mo_copy_100 : decode M_Mo_copy.2.1 100 = .ok (.iload_n 1, 1) := by decide +kernel
theorem dc_Mo_copy_101 : decode M_Mo_copy.2.1 101 = .ok (.iload_n 3, 1) := by decide +kernel
theorem dc_Mo_copy_102 : decode M_Mo_copy.2.1 102 = .ok (.if_icmp .ne 13, 3) := by decide +kernel
theorem dc_Mo_copy_105 : decode M_Mo_copy.2.1 105 = .ok (.iload_n 2, 1) := by decide +kernel
theorem dc_Mo_copy_106 : decode M_Mo_copy.2.1 106 = .ok (.iload 4, 2) := by decide +kernel
theorem dc_Mo_copy_108 : decode M_Mo_copy.2.1 108 = .ok (.if_icmp .ge 7, 3) := by decide +kernel
theorem dc_Mo_copy_111 : decode M_Mo_copy.2.1 111 = .ok (.iconst 1, 1) := by decide +kernel
theorem dc_Mo_copy_112 : decode M_Mo_copy.2.1 112 = .ok (.goto 4, 3) := by decide +kernel
theorem dc_Mo_copy_115 : decode M_Mo_copy.2.1 115 = .ok (.iconst 0, 1) := by decide +kernel
theorem dc_Mo_copy_116 : decode M_Mo_copy.2.1 116 = .ok (.istore 6, 2) := by decide +kernel
theorem dc_Mo_copy_118 : decode M_Mo_copy.2.1 118 = .ok (.iconst 0, 1) := by decide +kernel
theorem dc_Mo_copy_119 : decode M_Mo_copy.2.1 119 = .ok (.istore 7, 2) := by decide +kernel
theorem dc_Mo_copy_121 : decode M_Mo_copy.2.1 121 = .ok (.iload 7, 2) := by decide +kernel
theorem dc_Mo_copy_123 : decode M_Mo_copy.2.1 123 = .ok (.iload 5, 2) := by decide +kernel
theorem dc_Mo_copy_125 : decode M_Mo_copy.2.1 125 = .ok (.if_icmp .ge 57, 3) := by decide +kernel
theorem dc_Mo_copy_128 : decode M_Mo_copy.2.1 128 = .ok (.iload 6, 2) := by decide +kernel
theorem dc_Mo_copy_130 : decode M_Mo_copy.2.1 130 = .ok (.ifCond .eq 13, 3) := by decide +kernel
theorem dc_Mo_copy_133 : decode M_Mo_copy.2.1 133 = .ok (.iload 5, 2) := by decide +kernel
theorem dc_Mo_copy_135 : decode M_Mo_copy.2.1 135 = .ok (.iconst 1, 1) := by decide +kernel
theorem dc_Mo_copy_136 : decode M_Mo_copy.2.1 136 = .ok (.isub, 1) := by decide +kernel
theorem dc_Mo_copy_137 : decode M_Mo_copy.2.1 137 = .ok (.iload 7, 2) := by decide +kernel
theorem dc_Mo_copy_139 : decode M_Mo_copy.2.1 139 = .ok (.isub, 1) := by decide +kernel
theorem dc_Mo_copy_140 : decode M_Mo_copy.2.1 140 = .ok (.goto 5, 3) := by decide +kernel
theorem dc_Mo_copy_143 : decode M_Mo_copy.2.1 143 = .ok (.iload 7, 2) := by decide +kernel
theorem dc_Mo_copy_145 : decode M_Mo_copy.2.1 145 = .ok (.istore 8, 2) := by decide +kernel
theorem dc_Mo_copy_147 : decode M_Mo_copy.2.1 147 = .ok (.aload_n 0, 1) := by decide +kernel
theorem dc_Mo_copy_148 : decode M_Mo_copy.2.1 148 = .ok (.getfield 63, 3) := by decide +kernel
theorem dc_Mo_copy_151 : decode M_Mo_copy.2.1 151 = .ok (.bipush 40, 2) := by decide +kernel
theorem dc_Mo_copy_153 : decode M_Mo_copy.2.1 153 = .ok (.iload_n 3, 1) := by decide +kernel
theorem dc_Mo_copy_154 : decode M_Mo_copy.2.1 154 = .ok (.imul, 1) := by decide +kernel
theorem dc_Mo_copy_155 : decode M_Mo_copy.2.1 155 = .ok (.iload 4, 2) := by decide +kernel
theorem dc_Mo_copy_157 : decode M_Mo_copy.2.1 157 = .ok (.iadd, 1) := by decide +kernel
theorem dc_Mo_copy_158 : decode M_Mo_copy.2.1 158 = .ok (.iload 8, 2) := by decide +kernel
theorem dc_Mo_copy_160 : decode M_Mo_copy.2.1 160 = .ok (.iadd, 1) := by decide +kernel
theorem dc_Mo_copy_161 : decode M_Mo_copy.2.1 161 = .ok (.aload_n 0, 1) := by decide +kernel
theorem dc_Mo_copy_162 : decode M_Mo_copy.2.1 162 = .ok (.getfield 63, 3) := by decide +kernel
theorem dc_Mo_copy_165 : decode M_Mo_copy.2.1 165 = .ok (.bipush 40, 2) := by decide +kernel
theorem dc_Mo_copy_167 : decode M_Mo_copy.2.1 167 = .ok (.iload_n 1, 1) := by decide +kernel
theorem dc_Mo_copy_168 : decode M_Mo_copy.2.1 168 = .ok (.imul, 1) := by decide +kernel
theorem dc_Mo_copy_169 : decode M_Mo_copy.2.1 169 = .ok (.iload_n 2, 1) := by decide +kernel
theorem dc_Mo_copy_170 : decode M_Mo_copy.2.1 170 = .ok (.iadd, 1) := by decide +kernel
theorem dc_Mo_copy_171 : decode M_Mo_copy.2.1 171 = .ok (.iload 8, 2) := by decide +kernel
theorem dc_Mo_copy_173 : decode M_Mo_copy.2.1 173 = .ok (.iadd, 1) := by decide +kernel
theorem dc_Mo_copy_174 : decode M_Mo_copy.2.1 174 = .ok (.iaload, 1) := by decide +kernel
theorem dc_Mo_copy_175 : decode M_Mo_copy.2.1 175 = .ok (.iastore, 1) := by decide +kernel
theorem dc_Mo_copy_176 : decode M_Mo_copy.2.1 176 = .ok (.iinc 7 1, 3) := by decide +kernel
theorem dc_Mo_copy_179 : decode M_Mo_copy.2.1 179 = .ok (.goto (-58), 3) := by decide +kernel
theorem dc_Mo_copy_182 : decode M_Mo_copy.2.1 182 = .ok (.iload 5, 2) := by decide +kernel
theorem dc_Mo_copy_184 : decode M_Mo_copy.2.1 184 = .ok (.ireturn, 1) := by decide +kernel
def f_Mo_copy_L121 (a0 : Nat) (a1 : Int32) (a2 : Int32) (a3 : Int32) (a4 : Int32) (a5 : Int32) (a6 : Int32) : Nat → Int32 → xH → (Int32 → xH → Option (Int32 × xH)) → Option (Int32 × xH)
  | 0, _, _, _ => none
  | n + 1, a7, h, K => if a5 ≤ a7 then K a7 h else gd (hK h a0 = 11) (gd (hK h (hR h a0 44) = 12) (gd (¬ (((((40 : Int32) * a1) + a2) + (if a6 = 0 then a7 else (a5 - (1 : Int32)) - a7)) < 0 ∨ hL h (hR h a0 44) ≤ ((((40 : Int32) * a1) + a2) + (if a6 = 0 then a7 else (a5 - (1 : Int32)) - a7)).toNatClampNeg)) (gd (¬ (((((40 : Int32) * a3) + a4) + (if a6 = 0 then a7 else (a5 - (1 : Int32)) - a7)) < 0 ∨ hL h (hR h a0 44) ≤ ((((40 : Int32) * a3) + a4) + (if a6 = 0 then a7 else (a5 - (1 : Int32)) - a7)).toNatClampNeg)) (hp (hIu h (hR h a0 44) ((((40 : Int32) * a3) + a4) + (if a6 = 0 then a7 else (a5 - (1 : Int32)) - a7)).toNatClampNeg (hI h (hR h a0 44) ((((40 : Int32) * a1) + a2) + (if a6 = 0 then a7 else (a5 - (1 : Int32)) - a7)).toNatClampNeg)) (fun h53 => f_Mo_copy_L121 a0 a1 a2 a3 a4 a5 a6 n (a7 + (1 : Int32)) h53 K)))))
def f_Mo_copy (a0 : Nat) (a1 : Int32) (a2 : Int32) (a3 : Int32) (a4 : Int32) (a5 : Int32) (h : xH) : Option (Int32 × xH) := Option.bind (f_Mo_isSheet a1 h) (fun q16 => jn (fun (x17 : xH) => some ((-2 : Int32), x17)) (fun k18 => if q16.1 = 0 then k18 q16.2 else Option.bind (f_Mo_isSheet a3 q16.2) (fun q20 => if q20.1 = 0 then k18 q20.2 else gd (hK q20.2 a0 = 11) (gd (hK q20.2 (hR q20.2 a0 41) = 13) (gd (¬ (a1 < 0 ∨ hL q20.2 (hR q20.2 a0 41) ≤ a1.toNatClampNeg)) (jn (fun (x25 : Unit) => some ((-11 : Int32), q20.2)) (fun k26 => if (hI q20.2 (hR q20.2 a0 41) a1.toNatClampNeg) = 0 then k26 () else gd (¬ (a3 < 0 ∨ hL q20.2 (hR q20.2 a0 41) ≤ a3.toNatClampNeg)) (if (hI q20.2 (hR q20.2 a0 41) a3.toNatClampNeg) = 0 then k26 () else gd (hK q20.2 (hR q20.2 a0 42) = 12) (gd (¬ (a1 < 0 ∨ hL q20.2 (hR q20.2 a0 42) ≤ a1.toNatClampNeg)) (gd (¬ (a3 < 0 ∨ hL q20.2 (hR q20.2 a0 42) ≤ a3.toNatClampNeg)) (if (hI q20.2 (hR q20.2 a0 42) a1.toNatClampNeg) = (hI q20.2 (hR q20.2 a0 42) a3.toNatClampNeg) then jn (fun (x34 : Unit) => some ((-12 : Int32), q20.2)) (fun k35 => if a5 < 0 then k35 () else if a2 < 0 then k35 () else if a4 < 0 then k35 () else gd (hK q20.2 (hR q20.2 a0 43) = 12) (gd (¬ (a1 < 0 ∨ hL q20.2 (hR q20.2 a0 43) ≤ a1.toNatClampNeg)) (if ((hI q20.2 (hR q20.2 a0 43) a1.toNatClampNeg) - a5) < a2 then k35 () else gd (¬ (a3 < 0 ∨ hL q20.2 (hR q20.2 a0 43) ≤ a3.toNatClampNeg)) (if a4 ≤ ((hI q20.2 (hR q20.2 a0 43) a3.toNatClampNeg) - a5) then jn (fun (x44 : Int32) => f_Mo_copy_L121 a0 a1 a2 a3 a4 a5 x44 fu (0 : Int32) q20.2 (fun v56 h57 => some (a5, h57))) (fun k45 => jn (fun (x58 : Unit) => k45 (0 : Int32)) (fun k59 => if a1 = a3 then if a4 ≤ a2 then k59 () else k45 (1 : Int32) else k59 ())) else k35 ())))) else some ((-13 : Int32), q20.2))))))))))))
theorem t_Mo_copy_L121 {l : Launch} {z : xZ} {d mc ms : Nat} {Ph : Option xV → xH → Prop} {a0 : Nat} {a1 : Int32} {a2 : Int32} {a3 : Int32} {a4 : Int32} {a5 : Int32} {a6 : Int32}  (hd : 1 ≤ d) : ∀ (n : Nat) (a7 : Int32) (h : xH) (K : Int32 → xH → Option (Int32 × xH)), OK (f_Mo_copy_L121 a0 a1 a2 a3 a4 a5 a6 n a7 h K) (fun q => Ph (some (xI q.1)) q.2) → (∀ (a7 : Int32) (h : xH), OK (K a7 h) (fun q => Ph (some (xI q.1)) q.2) → Sx l z d mc ms M_Mo_copy 182 [some (xR a0), some (xI a1), some (xI a2), some (xI a3), some (xI a4), some (xI a5), some (xI a6), some (xI a7), none] [] h Ph) → Sx l z d mc ms M_Mo_copy 121 [some (xR a0), some (xI a1), some (xI a2), some (xI a3), some (xI a4), some (xI a5), some (xI a6), some (xI a7), none] [] h Ph := by
  intro n
  induction n with
  | zero => intro a7 h K hk hE; exact hk.no
  | succ n ih =>
    intro a7 h K hk hE
    rw [f_Mo_copy_L121] at hk
    refine sx_iload dc_Mo_copy_121 rfl ?_
    refine sx_iload dc_Mo_copy_123 rfl ?_
    refine sx_icmp_ge (tgt := 182) dc_Mo_copy_125 (by decide) (fun c46 => ?_) (fun c46 => ?_)
    · replace hk := hk.t c46
      exact hE a7 h hk
    · replace hk := hk.f c46
      refine sx_iload dc_Mo_copy_128 rfl ?_
      refine sx_mg (pc2 := 145) (lc2 := [some (xR a0), some (xI a1), some (xI a2), some (xI a3), some (xI a4), some (xI a5), some (xI a6), some (xI a7), none]) (st2 := [xI (if a6 = 0 then a7 else (a5 - (1 : Int32)) - a7)]) (h2 := h) ?_ (fun J47 => ?_)
      · refine sx_istore dc_Mo_copy_145 (by decide) (sx_eq (lc2 := [some (xR a0), some (xI a1), some (xI a2), some (xI a3), some (xI a4), some (xI a5), some (xI a6), some (xI a7), some (xI (if a6 = 0 then a7 else (a5 - (1 : Int32)) - a7))]) rfl rfl ?_)
        refine sx_aload_n dc_Mo_copy_147 rfl ?_
        obtain ⟨g49, hk⟩ := hk.g
        refine sx_get (ci := 11) (k := 44) rfl (by decide) wF_Mo_63 g49 dc_Mo_copy_148 ?_
        refine sx_bipush (v := (40 : Int32)) dc_Mo_copy_151 (by decide) ?_
        refine sx_iload_n dc_Mo_copy_153 rfl ?_
        refine sx_imul dc_Mo_copy_154 ?_
        refine sx_iload dc_Mo_copy_155 rfl ?_
        refine sx_iadd dc_Mo_copy_157 ?_
        refine sx_iload dc_Mo_copy_158 rfl ?_
        refine sx_iadd dc_Mo_copy_160 ?_
        refine sx_aload_n dc_Mo_copy_161 rfl ?_
        refine sx_get (ci := 11) (k := 44) rfl (by decide) wF_Mo_63 g49 dc_Mo_copy_162 ?_
        refine sx_bipush (v := (40 : Int32)) dc_Mo_copy_165 (by decide) ?_
        refine sx_iload_n dc_Mo_copy_167 rfl ?_
        refine sx_imul dc_Mo_copy_168 ?_
        refine sx_iload_n dc_Mo_copy_169 rfl ?_
        refine sx_iadd dc_Mo_copy_170 ?_
        refine sx_iload dc_Mo_copy_171 rfl ?_
        refine sx_iadd dc_Mo_copy_173 ?_
        obtain ⟨g50, hk⟩ := hk.g
        obtain ⟨g51, hk⟩ := hk.g
        refine sx_iald g50 g51 dc_Mo_copy_174 ?_
        obtain ⟨g52, hk⟩ := hk.g
        refine sx_iast g50 g52 dc_Mo_copy_175 ?_
        obtain ⟨h53, eh53, hk⟩ := hk.h
        refine sx_hp eh53 ?_
        have g54 : hK h53 a0 = 11 := by rw [eh53]; exact g49
        have g55 : hK h53 (hR h a0 44) = 12 := by rw [eh53]; exact g50
        refine sx_iinc (v := (1 : Int32)) dc_Mo_copy_176 rfl (by decide) (by decide) (sx_eq (lc2 := [some (xR a0), some (xI a1), some (xI a2), some (xI a3), some (xI a4), some (xI a5), some (xI a6), some (xI (a7 + (1 : Int32))), some (xI (if a6 = 0 then a7 else (a5 - (1 : Int32)) - a7))]) rfl rfl ?_)
        refine sx_goto (tgt := 121) dc_Mo_copy_179 (by decide) ?_
        exact sx_less (by simp [x_le]) (ih (a7 + (1 : Int32)) h53 _ hk hE)
      · refine sx_if_eq (tgt := 143) dc_Mo_copy_130 (by decide) (fun c48 => ?_) (fun c48 => ?_)
        · try simp only [if_pos c48] at J47
          refine sx_iload dc_Mo_copy_143 rfl ?_
          exact J47
        · try simp only [if_neg c48] at J47
          refine sx_iload dc_Mo_copy_133 rfl ?_
          refine sx_iconst (v := (1 : Int32)) dc_Mo_copy_135 (by decide) ?_
          refine sx_isub dc_Mo_copy_136 ?_
          refine sx_iload dc_Mo_copy_137 rfl ?_
          refine sx_isub dc_Mo_copy_139 ?_
          refine sx_goto (tgt := 145) dc_Mo_copy_140 (by decide) ?_
          exact J47
theorem t_Mo_copy {l : Launch} {z : xZ} {d mc ms : Nat} {Ph : Option xV → xH → Prop} {a0 : Nat} {a1 : Int32} {a2 : Int32} {a3 : Int32} {a4 : Int32} {a5 : Int32}  {h : xH} (hd : 3 ≤ d) (hk : OK (f_Mo_copy a0 a1 a2 a3 a4 a5 h) (fun q => Ph (some (xI q.1)) q.2)) : Sx l z d mc ms M_Mo_copy 0 (x_en [xR a0, xI a1, xI a2, xI a3, xI a4, xI a5] 9) [] h Ph := by
  unfold f_Mo_copy at hk
  refine sx_eq (lc2 := [some (xR a0), some (xI a1), some (xI a2), some (xI a3), some (xI a4), some (xI a5), none, none, none]) rfl rfl ?_
  refine sx_iload_n dc_Mo_copy_0 rfl ?_
  obtain ⟨q16, eq16, hk⟩ := hk.bind
  refine sx_callS (d2 := d - 1) (mc2 := 0) (ms2 := 0) (as := [xI a1]) mk_Mo_isSheet rfl wM_Mo_325 mt_Mo_isSheet rfl (Nat.le_of_ble_eq_true rfl) (Nat.le_of_ble_eq_true rfl) dc_Mo_copy_1 (by omega) (Nat.zero_le _) (Nat.zero_le _) ?_
  refine t_Mo_isSheet (by omega) ⟨q16, eq16, ?_⟩
  refine sx_eq0 (lc2 := [some (xR a0), some (xI a1), some (xI a2), some (xI a3), some (xI a4), some (xI a5), none, none, none]) (st2 := [xI q16.1]) rfl rfl ?_
  refine hk.j (X := fun x17 => Sx l z d mc ms M_Mo_copy 14 [some (xR a0), some (xI a1), some (xI a2), some (xI a3), some (xI a4), some (xI a5), none, none, none] [] x17 Ph) (fun x17 hk => ?_) (fun k18 jk18 hk => ?_)
  · refine sx_bipush (v := (-2 : Int32)) dc_Mo_copy_14 (by decide) ?_
    exact sx_retI dc_Mo_copy_16 rfl hk.val
  · refine sx_if_eq (tgt := 14) dc_Mo_copy_4 (by decide) (fun c19 => ?_) (fun c19 => ?_)
    · replace hk := hk.t c19
      exact jk18 q16.2 hk
    · replace hk := hk.f c19
      refine sx_iload_n dc_Mo_copy_7 rfl ?_
      obtain ⟨q20, eq20, hk⟩ := hk.bind
      refine sx_callS (d2 := d - 1) (mc2 := 0) (ms2 := 0) (as := [xI a3]) mk_Mo_isSheet rfl wM_Mo_325 mt_Mo_isSheet rfl (Nat.le_of_ble_eq_true rfl) (Nat.le_of_ble_eq_true rfl) dc_Mo_copy_8 (by omega) (Nat.zero_le _) (Nat.zero_le _) ?_
      refine t_Mo_isSheet (by omega) ⟨q20, eq20, ?_⟩
      refine sx_eq0 (lc2 := [some (xR a0), some (xI a1), some (xI a2), some (xI a3), some (xI a4), some (xI a5), none, none, none]) (st2 := [xI q20.1]) rfl rfl ?_
      refine sx_if_ne (tgt := 17) dc_Mo_copy_11 (by decide) (fun c21 => ?_) (fun c21 => ?_)
      · replace hk := hk.f c21
        refine sx_aload_n dc_Mo_copy_17 rfl ?_
        obtain ⟨g22, hk⟩ := hk.g
        refine sx_get (ci := 11) (k := 41) rfl (by decide) wF_Mo_54 g22 dc_Mo_copy_18 ?_
        refine sx_iload_n dc_Mo_copy_21 rfl ?_
        obtain ⟨g23, hk⟩ := hk.g
        obtain ⟨g24, hk⟩ := hk.g
        refine sx_zald g23 g24 dc_Mo_copy_22 ?_
        refine hk.j (X := fun x25 => Sx l z d mc ms M_Mo_copy 35 [some (xR a0), some (xI a1), some (xI a2), some (xI a3), some (xI a4), some (xI a5), none, none, none] [] q20.2 Ph) (fun x25 hk => ?_) (fun k26 jk26 hk => ?_)
        · refine sx_bipush (v := (-11 : Int32)) dc_Mo_copy_35 (by decide) ?_
          exact sx_retI dc_Mo_copy_37 rfl hk.val
        · refine sx_if_eq (tgt := 35) dc_Mo_copy_23 (by decide) (fun c27 => ?_) (fun c27 => ?_)
          · replace hk := hk.t c27
            exact jk26 () hk
          · replace hk := hk.f c27
            refine sx_aload_n dc_Mo_copy_26 rfl ?_
            refine sx_get (ci := 11) (k := 41) rfl (by decide) wF_Mo_54 g22 dc_Mo_copy_27 ?_
            refine sx_iload_n dc_Mo_copy_30 rfl ?_
            obtain ⟨g28, hk⟩ := hk.g
            refine sx_zald g23 g28 dc_Mo_copy_31 ?_
            refine sx_if_ne (tgt := 38) dc_Mo_copy_32 (by decide) (fun c29 => ?_) (fun c29 => ?_)
            · replace hk := hk.f c29
              refine sx_aload_n dc_Mo_copy_38 rfl ?_
              refine sx_get (ci := 11) (k := 42) rfl (by decide) wF_Mo_57 g22 dc_Mo_copy_39 ?_
              refine sx_iload_n dc_Mo_copy_42 rfl ?_
              obtain ⟨g30, hk⟩ := hk.g
              obtain ⟨g31, hk⟩ := hk.g
              refine sx_iald g30 g31 dc_Mo_copy_43 ?_
              refine sx_aload_n dc_Mo_copy_44 rfl ?_
              refine sx_get (ci := 11) (k := 42) rfl (by decide) wF_Mo_57 g22 dc_Mo_copy_45 ?_
              refine sx_iload_n dc_Mo_copy_48 rfl ?_
              obtain ⟨g32, hk⟩ := hk.g
              refine sx_iald g30 g32 dc_Mo_copy_49 ?_
              refine sx_icmp_eq (tgt := 56) dc_Mo_copy_50 (by decide) (fun c33 => ?_) (fun c33 => ?_)
              · replace hk := hk.t c33
                refine sx_iload dc_Mo_copy_56 rfl ?_
                refine hk.j (X := fun x34 => Sx l z d mc ms M_Mo_copy 97 [some (xR a0), some (xI a1), some (xI a2), some (xI a3), some (xI a4), some (xI a5), none, none, none] [] q20.2 Ph) (fun x34 hk => ?_) (fun k35 jk35 hk => ?_)
                · refine sx_bipush (v := (-12 : Int32)) dc_Mo_copy_97 (by decide) ?_
                  exact sx_retI dc_Mo_copy_99 rfl hk.val
                · refine sx_if_lt (tgt := 97) dc_Mo_copy_58 (by decide) (fun c36 => ?_) (fun c36 => ?_)
                  · replace hk := hk.t c36
                    exact jk35 () hk
                  · replace hk := hk.f c36
                    refine sx_iload_n dc_Mo_copy_61 rfl ?_
                    refine sx_if_lt (tgt := 97) dc_Mo_copy_62 (by decide) (fun c37 => ?_) (fun c37 => ?_)
                    · replace hk := hk.t c37
                      exact jk35 () hk
                    · replace hk := hk.f c37
                      refine sx_iload dc_Mo_copy_65 rfl ?_
                      refine sx_if_lt (tgt := 97) dc_Mo_copy_67 (by decide) (fun c38 => ?_) (fun c38 => ?_)
                      · replace hk := hk.t c38
                        exact jk35 () hk
                      · replace hk := hk.f c38
                        refine sx_iload_n dc_Mo_copy_70 rfl ?_
                        refine sx_aload_n dc_Mo_copy_71 rfl ?_
                        refine sx_get (ci := 11) (k := 43) rfl (by decide) wF_Mo_60 g22 dc_Mo_copy_72 ?_
                        refine sx_iload_n dc_Mo_copy_75 rfl ?_
                        obtain ⟨g39, hk⟩ := hk.g
                        obtain ⟨g40, hk⟩ := hk.g
                        refine sx_iald g39 g40 dc_Mo_copy_76 ?_
                        refine sx_iload dc_Mo_copy_77 rfl ?_
                        refine sx_isub dc_Mo_copy_79 ?_
                        refine sx_icmp_gt (tgt := 97) dc_Mo_copy_80 (by decide) (fun c41 => ?_) (fun c41 => ?_)
                        · replace hk := hk.t c41
                          exact jk35 () hk
                        · replace hk := hk.f c41
                          refine sx_iload dc_Mo_copy_83 rfl ?_
                          refine sx_aload_n dc_Mo_copy_85 rfl ?_
                          refine sx_get (ci := 11) (k := 43) rfl (by decide) wF_Mo_60 g22 dc_Mo_copy_86 ?_
                          refine sx_iload_n dc_Mo_copy_89 rfl ?_
                          obtain ⟨g42, hk⟩ := hk.g
                          refine sx_iald g39 g42 dc_Mo_copy_90 ?_
                          refine sx_iload dc_Mo_copy_91 rfl ?_
                          refine sx_isub dc_Mo_copy_93 ?_
                          refine sx_icmp_le (tgt := 100) dc_Mo_copy_94 (by decide) (fun c43 => ?_) (fun c43 => ?_)
                          · replace hk := hk.t c43
                            refine sx_iload_n dc_Mo_copy_100 rfl ?_
                            refine sx_iload_n dc_Mo_copy_101 rfl ?_
                            refine hk.j (X := fun x44 => Sx l z d mc ms M_Mo_copy 116 [some (xR a0), some (xI a1), some (xI a2), some (xI a3), some (xI a4), some (xI a5), none, none, none] [xI x44] q20.2 Ph) (fun x44 hk => ?_) (fun k45 jk45 hk => ?_)
                            · refine sx_istore dc_Mo_copy_116 (by decide) (sx_eq (lc2 := [some (xR a0), some (xI a1), some (xI a2), some (xI a3), some (xI a4), some (xI a5), some (xI x44), none, none]) rfl rfl ?_)
                              refine sx_iconst (v := (0 : Int32)) dc_Mo_copy_118 (by decide) ?_
                              refine sx_istore dc_Mo_copy_119 (by decide) (sx_eq (lc2 := [some (xR a0), some (xI a1), some (xI a2), some (xI a3), some (xI a4), some (xI a5), some (xI x44), some (xI (0 : Int32)), none]) rfl rfl ?_)
                              refine t_Mo_copy_L121 (by omega) _ _ _ _ hk (fun v56 h57 hk => ?_)
                              refine sx_iload dc_Mo_copy_182 rfl ?_
                              exact sx_retI dc_Mo_copy_184 rfl hk.val
                            · refine hk.j (X := fun x58 => Sx l z d mc ms M_Mo_copy 115 [some (xR a0), some (xI a1), some (xI a2), some (xI a3), some (xI a4), some (xI a5), none, none, none] [] q20.2 Ph) (fun x58 hk => ?_) (fun k59 jk59 hk => ?_)
                              · refine sx_iconst (v := (0 : Int32)) dc_Mo_copy_115 (by decide) ?_
                                exact jk45 (0 : Int32) hk
                              · refine sx_icmp_ne (tgt := 115) dc_Mo_copy_102 (by decide) (fun c60 => ?_) (fun c60 => ?_)
                                · replace hk := hk.f c60
                                  exact jk59 () hk
                                · replace hk := hk.t c60
                                  refine sx_iload_n dc_Mo_copy_105 rfl ?_
                                  refine sx_iload dc_Mo_copy_106 rfl ?_
                                  refine sx_icmp_ge (tgt := 115) dc_Mo_copy_108 (by decide) (fun c61 => ?_) (fun c61 => ?_)
                                  · replace hk := hk.t c61
                                    exact jk59 () hk
                                  · replace hk := hk.f c61
                                    refine sx_iconst (v := (1 : Int32)) dc_Mo_copy_111 (by decide) ?_
                                    refine sx_goto (tgt := 116) dc_Mo_copy_112 (by decide) ?_
                                    exact jk45 (1 : Int32) hk
                          · replace hk := hk.f c43
                            exact jk35 () hk
              · replace hk := hk.f c33
                refine sx_bipush (v := (-13 : Int32)) dc_Mo_copy_53 (by decide) ?_
                exact sx_retI dc_Mo_copy_55 rfl hk.val
            · replace hk := hk.t c29
              exact jk26 () hk
      · replace hk := hk.t c21
        exact jk18 q20.2 hk

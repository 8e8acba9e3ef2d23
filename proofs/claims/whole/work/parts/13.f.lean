theorem dc_To_price_0 : decode M_To_price.2.1 0 = .ok (.aload_n 0, 1) := by decide +kernel
theorem dc_To_price_1 : decode M_To_price.2.1 1 = .ok (.getfield 9, 3) := by decide +kernel
theorem dc_To_price_4 : decode M_To_price.2.1 4 = .ok (.tableswitch 84 1 5 #[36, 40, 47, 53, 66], 36) := by decide +kernel
theorem dc_To_price_40 : decode M_To_price.2.1 40 = .ok (.iconst 1, 1) := by decide +kernel
theorem dc_To_price_41 : decode M_To_price.2.1 41 = .ok (.iload_n 1, 1) := by decide +kernel
theorem dc_To_price_42 : decode M_To_price.2.1 42 = .ok (.iadd, 1) := by decide +kernel
theorem dc_To_price_43 : decode M_To_price.2.1 43 = .ok (.ireturn, 1) := by decide +kernel
theorem dc_To_price_44 : decode M_To_price.2.1 44 = .ok (.iconst 1, 1) := by decide +kernel
theorem dc_To_price_45 : decode M_To_price.2.1 45 = .ok (.aload_n 0, 1) := by decide +kernel
theorem dc_To_price_46 : decode M_To_price.2.1 46 = .ok (.getfield 15, 3) := by decide +kernel
theorem dc_To_price_49 : decode M_To_price.2.1 49 = .ok (.iadd, 1) := by decide +kernel
theorem dc_To_price_50 : decode M_To_price.2.1 50 = .ok (.ireturn, 1) := by decide +kernel
theorem dc_To_price_51 : decode M_To_price.2.1 51 = .ok (.iconst 2, 1) := by decide +kernel
theorem dc_To_price_52 : decode M_To_price.2.1 52 = .ok (.iconst 1, 1) := by decide +kernel
theorem dc_To_price_53 : decode M_To_price.2.1 53 = .ok (.iload_n 1, 1) := by decide +kernel
theorem dc_To_price_54 : decode M_To_price.2.1 54 = .ok (.iadd, 1) := by decide +kernel
theorem dc_To_price_55 : decode M_To_price.2.1 55 = .ok (.imul, 1) := by decide +kernel
theorem dc_To_price_56 : decode M_To_price.2.1 56 = .ok (.ireturn, 1) := by decide +kernel
theorem dc_To_price_57 : decode M_To_price.2.1 57 = .ok (.iconst 0, 1) := by decide +kernel
theorem dc_To_price_58 : decode M_To_price.2.1 58 = .ok (.iconst 1, 1) := by decide +kernel
theorem dc_To_price_59 : decode M_To_price.2.1 59 = .ok (.aload_n 0, 1) := by decide +kernel
theorem dc_To_price_60 : decode M_To_price.2.1 60 = .ok (.getfield 15, 3) := by decide +kernel
theorem dc_To_price_63 : decode M_To_price.2.1 63 = .ok (.iadd, 1) := by decide +kernel
theorem dc_To_price_64 : decode M_To_price.2.1 64 = .ok (.iload_n 2, 1) := by decide +kernel
theorem dc_To_price_65 : decode M_To_price.2.1 65 = .ok (.isub, 1) := by decide +kernel
theorem dc_To_price_66 : decode M_To_price.2.1 66 = .ok (.invokestatic 29, 3) := by decide +kernel
theorem dc_To_price_69 : decode M_To_price.2.1 69 = .ok (.ireturn, 1) := by decide +kernel
theorem dc_To_price_70 : decode M_To_price.2.1 70 = .ok (.iconst 1, 1) := by decide +kernel
theorem dc_To_price_71 : decode M_To_price.2.1 71 = .ok (.aload_n 0, 1) := by decide +kernel
theorem dc_To_price_72 : decode M_To_price.2.1 72 = .ok (.getfield 15, 3) := by decide +kernel
theorem dc_To_price_75 : decode M_To_price.2.1 75 = .ok (.iadd, 1) := by decide +kernel
theorem dc_To_price_76 : decode M_To_price.2.1 76 = .ok (.iload_n 1, 1) := by decide +kernel
theorem dc_To_price_77 : decode M_To_price.2.1 77 = .ok (.iconst 1, 1) := by decide +kernel
theorem dc_To_price_78 : decode M_To_price.2.1 78 = .ok (.if_icmp .ne 7, 3) := by decide +kernel
theorem dc_To_price_81 : decode M_To_price.2.1 81 = .ok (.iconst 3, 1) := by decide +kernel
theorem dc_To_price_82 : decode M_To_price.2.1 82 = .ok (.goto 4, 3) := by decide +kernel
theorem dc_To_price_85 : decode M_To_price.2.1 85 = .ok (.iconst 0, 1) := by decide +kernel
theorem dc_To_price_86 : decode M_To_price.2.1 86 = .ok (.iadd, 1) := by decide +kernel
theorem dc_To_price_87 : decode M_To_price.2.1 87 = .ok (.ireturn, 1) := by decide +kernel
theorem dc_To_price_88 : decode M_To_price.2.1 88 = .ok (.iconst 1, 1) := by decide +kernel
theorem dc_To_price_89 : decode M_To_price.2.1 89 = .ok (.ireturn, 1) := by decide +kernel
def f_To_price (a0 : Nat) (a1 : Int32) (a2 : Int32) (h : xH) : Option (Int32 × xH) := gd (hK h a0 = 8) (if (hI h a0 0) = (1 : Int32) then some ((1 : Int32) + a1, h) else if (hI h a0 0) = (2 : Int32) then some ((1 : Int32) + (hI h a0 1), h) else if (hI h a0 0) = (3 : Int32) then some ((2 : Int32) * ((1 : Int32) + a1), h) else if (hI h a0 0) = (4 : Int32) then some (jMax (0 : Int32) (((1 : Int32) + (hI h a0 1)) - a2), h) else if (hI h a0 0) = (5 : Int32) then some (((1 : Int32) + (hI h a0 1)) + (if a1 = (1 : Int32) then (3 : Int32) else (0 : Int32)), h) else some ((1 : Int32), h))
theorem t_To_price {l : Launch} {z : xZ} {d mc ms : Nat} {Ph : Option xV → xH → Prop} {a0 : Nat} {a1 : Int32} {a2 : Int32}  {h : xH} (hd : 2 ≤ d) (hk : OK (f_To_price a0 a1 a2 h) (fun q => Ph (some (xI q.1)) q.2)) : Sx l z d mc ms M_To_price 0 (x_en [xR a0, xI a1, xI a2] 3) [] h Ph := by
  unfold f_To_price at hk
  refine sx_eq (lc2 := [some (xR a0), some (xI a1), some (xI a2)]) rfl rfl ?_
  refine sx_aload_n dc_To_price_0 rfl ?_
  obtain ⟨g2, hk⟩ := hk.g
  refine sx_get (ci := 8) (k := 0) rfl (by decide) wF_To_9 g2 dc_To_price_1 ?_
  by_cases c3 : (hI h a0 0) = (1 : Int32)
  · replace hk := hk.t c3
    refine sx_tabIn (off := 36) (tgt := 40) dc_To_price_4 (by rw [c3]; decide) (by rw [c3]; decide) (by rw [c3]; rfl) (by decide) ?_
    refine sx_iconst (v := (1 : Int32)) dc_To_price_40 (by decide) ?_
    refine sx_iload_n dc_To_price_41 rfl ?_
    refine sx_iadd dc_To_price_42 ?_
    exact sx_retI dc_To_price_43 rfl hk.val
  · replace hk := hk.f c3
    by_cases c4 : (hI h a0 0) = (2 : Int32)
    · replace hk := hk.t c4
      refine sx_tabIn (off := 40) (tgt := 44) dc_To_price_4 (by rw [c4]; decide) (by rw [c4]; decide) (by rw [c4]; rfl) (by decide) ?_
      refine sx_iconst (v := (1 : Int32)) dc_To_price_44 (by decide) ?_
      refine sx_aload_n dc_To_price_45 rfl ?_
      refine sx_get (ci := 8) (k := 1) rfl (by decide) wF_To_15 g2 dc_To_price_46 ?_
      refine sx_iadd dc_To_price_49 ?_
      exact sx_retI dc_To_price_50 rfl hk.val
    · replace hk := hk.f c4
      by_cases c5 : (hI h a0 0) = (3 : Int32)
      · replace hk := hk.t c5
        refine sx_tabIn (off := 47) (tgt := 51) dc_To_price_4 (by rw [c5]; decide) (by rw [c5]; decide) (by rw [c5]; rfl) (by decide) ?_
        refine sx_iconst (v := (2 : Int32)) dc_To_price_51 (by decide) ?_
        refine sx_iconst (v := (1 : Int32)) dc_To_price_52 (by decide) ?_
        refine sx_iload_n dc_To_price_53 rfl ?_
        refine sx_iadd dc_To_price_54 ?_
        refine sx_imul dc_To_price_55 ?_
        exact sx_retI dc_To_price_56 rfl hk.val
      · replace hk := hk.f c5
        by_cases c6 : (hI h a0 0) = (4 : Int32)
        · replace hk := hk.t c6
          refine sx_tabIn (off := 53) (tgt := 57) dc_To_price_4 (by rw [c6]; decide) (by rw [c6]; decide) (by rw [c6]; rfl) (by decide) ?_
          refine sx_iconst (v := (0 : Int32)) dc_To_price_57 (by decide) ?_
          refine sx_iconst (v := (1 : Int32)) dc_To_price_58 (by decide) ?_
          refine sx_aload_n dc_To_price_59 rfl ?_
          refine sx_get (ci := 8) (k := 1) rfl (by decide) wF_To_15 g2 dc_To_price_60 ?_
          refine sx_iadd dc_To_price_63 ?_
          refine sx_iload_n dc_To_price_64 rfl ?_
          refine sx_isub dc_To_price_65 ?_
          refine sx_max wM_To_29 mt_Mt_max wT_Mt wV_max (Nat.le_of_ble_eq_true rfl) (by omega) dc_To_price_66 ?_
          exact sx_retI dc_To_price_69 rfl hk.val
        · replace hk := hk.f c6
          by_cases c9 : (hI h a0 0) = (5 : Int32)
          · replace hk := hk.t c9
            refine sx_tabIn (off := 66) (tgt := 70) dc_To_price_4 (by rw [c9]; decide) (by rw [c9]; decide) (by rw [c9]; rfl) (by decide) ?_
            refine sx_iconst (v := (1 : Int32)) dc_To_price_70 (by decide) ?_
            refine sx_aload_n dc_To_price_71 rfl ?_
            refine sx_get (ci := 8) (k := 1) rfl (by decide) wF_To_15 g2 dc_To_price_72 ?_
            refine sx_iadd dc_To_price_75 ?_
            refine sx_iload_n dc_To_price_76 rfl ?_
            refine sx_iconst (v := (1 : Int32)) dc_To_price_77 (by decide) ?_
            refine sx_mg (pc2 := 86) (lc2 := [some (xR a0), some (xI a1), some (xI a2)]) (st2 := [xI (if a1 = (1 : Int32) then (3 : Int32) else (0 : Int32)), xI ((1 : Int32) + (hI h a0 1))]) (h2 := h) ?_ (fun J7 => ?_)
            · refine sx_iadd dc_To_price_86 ?_
              exact sx_retI dc_To_price_87 rfl hk.val
            · refine sx_icmp_ne (tgt := 85) dc_To_price_78 (by decide) (fun c8 => ?_) (fun c8 => ?_)
              · try simp only [if_neg c8] at J7
                refine sx_iconst (v := (0 : Int32)) dc_To_price_85 (by decide) ?_
                exact J7
              · try simp only [if_pos c8] at J7
                refine sx_iconst (v := (3 : Int32)) dc_To_price_81 (by decide) ?_
                refine sx_goto (tgt := 86) dc_To_price_82 (by decide) ?_
                exact J7
          · replace hk := hk.f c9
            refine sx_tabOut (tgt := 88) dc_To_price_4 (sw_out (fun k h1 h2 => ?_)) (by decide) ?_
            · have h3 : k = 1 ∨ k = 2 ∨ k = 3 ∨ k = 4 ∨ k = 5 := by omega
              rcases h3 with rfl | rfl | rfl | rfl | rfl
              · exact c3
              · exact c4
              · exact c5
              · exact c6
              · exact c9
            · refine sx_iconst (v := (1 : Int32)) dc_To_price_88 (by decide) ?_
              exact sx_retI dc_To_price_89 rfl hk.val
theorem dc_Wa_init_0 : decode M_Wa_init.2.1 0 = .ok (.aload_n 0, 1) := by decide +kernel
theorem dc_Wa_init_1 : decode M_Wa_init.2.1 1 = .ok (.invokespecial 3, 3) := by decide +kernel
theorem dc_Wa_init_4 : decode M_Wa_init.2.1 4 = .ok (.aload_n 0, 1) := by decide +kernel
theorem dc_Wa_init_5 : decode M_Wa_init.2.1 5 = .ok (.aload_n 1, 1) := by decide +kernel
theorem dc_Wa_init_6 : decode M_Wa_init.2.1 6 = .ok (.putfield 9, 3) := by decide +kernel
theorem dc_Wa_init_9 : decode M_Wa_init.2.1 9 = .ok (.aload_n 0, 1) := by decide +kernel
theorem dc_Wa_init_10 : decode M_Wa_init.2.1 10 = .ok (.aload_n 2, 1) := by decide +kernel
theorem dc_Wa_init_11 : decode M_Wa_init.2.1 11 = .ok (.putfield 15, 3) := by decide +kernel
theorem dc_Wa_init_14 : decode M_Wa_init.2.1 14 = .ok (.return_, 1) := by decide +kernel
def f_Wa_init (a0 : Nat) (a1 : Nat) (a2 : Nat) (h : xH) : Option (Unit × xH) := gd (hK h a0 = 9) (some ((), hRu (hRu h a0 0 a1) a0 1 a2))
theorem t_Wa_init {l : Launch} {z : xZ} {d mc ms : Nat} {Ph : Option xV → xH → Prop} {a0 : Nat} {a1 : Nat} {a2 : Nat}  {h : xH} (hd : 2 ≤ d) (hk : OK (f_Wa_init a0 a1 a2 h) (fun q => Ph (none) q.2)) : Sx l z d mc ms M_Wa_init 0 (x_en [xR a0, xR a1, xR a2] 3) [] h Ph := by
  unfold f_Wa_init at hk
  refine sx_eq (lc2 := [some (xR a0), some (xR a1), some (xR a2)]) rfl rfl ?_
  refine sx_aload_n dc_Wa_init_0 rfl ?_
  obtain ⟨g2, hk⟩ := hk.g
  refine sx_objInit g2 (by decide) wM_Wa_3 wO wP (Nat.le_of_ble_eq_true rfl) (by omega) dc_Wa_init_1 ?_
  refine sx_aload_n dc_Wa_init_4 rfl ?_
  refine sx_aload_n dc_Wa_init_5 rfl ?_
  refine sx_putRF (ci := 9) (k := 0) rfl (by decide) wF_Wa_9 rfl (by rfl) rfl g2 rfl dc_Wa_init_6 ?_
  refine sx_aload_n dc_Wa_init_9 rfl ?_
  refine sx_aload_n dc_Wa_init_10 rfl ?_
  refine sx_putRF (ci := 9) (k := 1) rfl (by decide) wF_Wa_15 rfl (by rfl) rfl g2 rfl dc_Wa_init_11 ?_
  exact sx_retV dc_Wa_init_14 rfl hk.val
theorem dc_Wa_fillFrom_0 : decode M_Wa_fillFrom.2.1 0 = .ok (.iload_n 1, 1) := by decide +kernel
theorem dc_Wa_fillFrom_1 : decode M_Wa_fillFrom.2.1 1 = .ok (.istore 5, 2) := by decide +kernel
theorem dc_Wa_fillFrom_3 : decode M_Wa_fillFrom.2.1 3 = .ok (.iload 5, 2) := by decide +kernel
theorem dc_Wa_fillFrom_5 : decode M_Wa_fillFrom.2.1 5 = .ok (.aload_n 0, 1) := by decide +kernel
theorem dc_Wa_fillFrom_6 : decode M_Wa_fillFrom.2.1 6 = .ok (.getfield 31, 3) := by decide +kernel
theorem dc_Wa_fillFrom_9 : decode M_Wa_fillFrom.2.1 9 = .ok (.if_icmp .ge 21, 3) := by decide +kernel
theorem dc_Wa_fillFrom_12 : decode M_Wa_fillFrom.2.1 12 = .ok (.iload_n 2, 1) := by decide +kernel
theorem dc_Wa_fillFrom_13 : decode M_Wa_fillFrom.2.1 13 = .ok (.iload_n 3, 1) := by decide +kernel
theorem dc_Wa_fillFrom_14 : decode M_Wa_fillFrom.2.1 14 = .ok (.ior, 1) := by decide +kernel
theorem dc_Wa_fillFrom_15 : decode M_Wa_fillFrom.2.1 15 = .ok (.iload 5, 2) := by decide +kernel
theorem dc_Wa_fillFrom_17 : decode M_Wa_fillFrom.2.1 17 = .ok (.ishr, 1) := by decide +kernel
theorem dc_Wa_fillFrom_18 : decode M_Wa_fillFrom.2.1 18 = .ok (.iconst 1, 1) := by decide +kernel
theorem dc_Wa_fillFrom_19 : decode M_Wa_fillFrom.2.1 19 = .ok (.iand, 1) := by decide +kernel
theorem dc_Wa_fillFrom_20 : decode M_Wa_fillFrom.2.1 20 = .ok (.iconst 1, 1) := by decide +kernel
theorem dc_Wa_fillFrom_21 : decode M_Wa_fillFrom.2.1 21 = .ok (.if_icmp .ne 9, 3) := by decide +kernel
theorem dc_Wa_fillFrom_24 : decode M_Wa_fillFrom.2.1 24 = .ok (.iinc 5 1, 3) := by decide +kernel
theorem dc_Wa_fillFrom_27 : decode M_Wa_fillFrom.2.1 27 = .ok (.goto (-24), 3) := by decide +kernel
theorem dc_Wa_fillFrom_30 : decode M_Wa_fillFrom.2.1 30 = .ok (.iload 5, 2) := by decide +kernel
theorem dc_Wa_fillFrom_32 : decode M_Wa_fillFrom.2.1 32 = .ok (.aload_n 0, 1) := by decide +kernel
theorem dc_Wa_fillFrom_33 : decode M_Wa_fillFrom.2.1 33 = .ok (.getfield 31, 3) := by decide +kernel
theorem dc_Wa_fillFrom_36 : decode M_Wa_fillFrom.2.1 36 = .ok (.if_icmp .lt 32, 3) := by decide +kernel
theorem dc_Wa_fillFrom_39 : decode M_Wa_fillFrom.2.1 39 = .ok (.iload 4, 2) := by decide +kernel
theorem dc_Wa_fillFrom_41 : decode M_Wa_fillFrom.2.1 41 = .ok (.ifCond .ne 13, 3) := by decide +kernel
theorem dc_Wa_fillFrom_44 : decode M_Wa_fillFrom.2.1 44 = .ok (.aload_n 0, 1) := by decide +kernel
theorem dc_Wa_fillFrom_45 : decode M_Wa_fillFrom.2.1 45 = .ok (.dup, 1) := by decide +kernel
theorem dc_Wa_fillFrom_46 : decode M_Wa_fillFrom.2.1 46 = .ok (.getfield 34, 3) := by decide +kernel
theorem dc_Wa_fillFrom_49 : decode M_Wa_fillFrom.2.1 49 = .ok (.iconst 1, 1) := by decide +kernel
theorem dc_Wa_fillFrom_50 : decode M_Wa_fillFrom.2.1 50 = .ok (.iadd, 1) := by decide +kernel
theorem dc_Wa_fillFrom_51 : decode M_Wa_fillFrom.2.1 51 = .ok (.putfield 34, 3) := by decide +kernel
theorem dc_Wa_fillFrom_54 : decode M_Wa_fillFrom.2.1 54 = .ok (.aload_n 0, 1) := by decide +kernel
theorem dc_Wa_fillFrom_55 : decode M_Wa_fillFrom.2.1 55 = .ok (.aload_n 0, 1) := by decide +kernel
theorem dc_Wa_fillFrom_56 : decode M_Wa_fillFrom.2.1 56 = .ok (.getfield 37, 3) := by decide +kernel
theorem dc_Wa_fillFrom_59 : decode M_Wa_fillFrom.2.1 59 = .ok (.iload 4, 2) := by decide +kernel
theorem dc_Wa_fillFrom_61 : decode M_Wa_fillFrom.2.1 61 = .ok (.invokestatic 56, 3) := by decide +kernel
theorem dc_Wa_fillFrom_64 : decode M_Wa_fillFrom.2.1 64 = .ok (.putfield 37, 3) := by decide +kernel
theorem dc_Wa_fillFrom_67 : decode M_Wa_fillFrom.2.1 67 = .ok (.return_, 1) := by decide +kernel
theorem dc_Wa_fillFrom_68 : decode M_Wa_fillFrom.2.1 68 = .ok (.iload_n 2, 1) := by decide +kernel
theorem dc_Wa_fillFrom_69 : decode M_Wa_fillFrom.2.1 69 = .ok (.iconst 1, 1) := by decide +kernel
theorem dc_Wa_fillFrom_70 : decode M_Wa_fillFrom.2.1 70 = .ok (.iload 5, 2) := by decide +kernel
theorem dc_Wa_fillFrom_72 : decode M_Wa_fillFrom.2.1 72 = .ok (.ishl, 1) := by decide +kernel
theorem dc_Wa_fillFrom_73 : decode M_Wa_fillFrom.2.1 73 = .ok (.ior, 1) := by decide +kernel
theorem dc_Wa_fillFrom_74 : decode M_Wa_fillFrom.2.1 74 = .ok (.istore 6, 2) := by decide +kernel
theorem dc_Wa_fillFrom_76 : decode M_Wa_fillFrom.2.1 76 = .ok (.iload_n 3, 1) := by decide +kernel
theorem dc_Wa_fillFrom_77 : decode M_Wa_fillFrom.2.1 77 = .ok (.iconst 1, 1) := by decide +kernel
theorem dc_Wa_fillFrom_78 : decode M_Wa_fillFrom.2.1 78 = .ok (.iload 5, 2) := by decide +kernel
theorem dc_Wa_fillFrom_80 : decode M_Wa_fillFrom.2.1 80 = .ok (.ishl, 1) := by decide +kernel
theorem dc_Wa_fillFrom_81 : decode M_Wa_fillFrom.2.1 81 = .ok (.ior, 1) := by decide +kernel
theorem dc_Wa_fillFrom_82 : decode M_Wa_fillFrom.2.1 82 = .ok (.istore 7, 2) := by decide +kernel
theorem dc_Wa_fillFrom_84 : decode M_Wa_fillFrom.2.1 84 = .ok (.aload_n 0, 1) := by decide +kernel
theorem dc_Wa_fillFrom_85 : decode M_Wa_fillFrom.2.1 85 = .ok (.iload 5, 2) := by decide +kernel
theorem dc_Wa_fillFrom_87 : decode M_Wa_fillFrom.2.1 87 = .ok (.iconst 1, 1) := by decide +kernel
theorem dc_Wa_fillFrom_88 : decode M_Wa_fillFrom.2.1 88 = .ok (.iadd, 1) := by decide +kernel
theorem dc_Wa_fillFrom_89 : decode M_Wa_fillFrom.2.1 89 = .ok (.iload 6, 2) := by decide +kernel
theorem dc_Wa_fillFrom_91 : decode M_Wa_fillFrom.2.1 91 = .ok (.iload_n 3, 1) := by decide +kernel
theorem dc_Wa_fillFrom_92 : decode M_Wa_fillFrom.2.1 92 = .ok (.iload 4, 2) := by decide +kernel
theorem dc_Wa_fillFrom_94 : decode M_Wa_fillFrom.2.1 94 = .ok (.aload_n 0, 1) := by decide +kernel
theorem dc_Wa_fillFrom_95 : decode M_Wa_fillFrom.2.1 95 = .ok (.getfield 15, 3) := by decide +kernel
theorem dc_Wa_fillFrom_98 : decode M_Wa_fillFrom.2.1 98 = .ok (.iload 5, 2) := by decide +kernel
theorem dc_Wa_fillFrom_100 : decode M_Wa_fillFrom.2.1 100 = .ok (.iload 6, 2) := by decide +kernel
theorem dc_Wa_fillFrom_102 : decode M_Wa_fillFrom.2.1 102 = .ok (.iload_n 3, 1) := by decide +kernel
theorem dc_Wa_fillFrom_103 : decode M_Wa_fillFrom.2.1 103 = .ok (.invokevirtual 61, 3) := by decide +kernel
theorem dc_Wa_fillFrom_106 : decode M_Wa_fillFrom.2.1 106 = .ok (.iadd, 1) := by decide +kernel
theorem dc_Wa_fillFrom_107 : decode M_Wa_fillFrom.2.1 107 = .ok (.invokestatic 52, 3) := by decide +kernel
theorem dc_Wa_fillFrom_110 : decode M_Wa_fillFrom.2.1 110 = .ok (.aload_n 0, 1) := by decide +kernel
theorem dc_Wa_fillFrom_111 : decode M_Wa_fillFrom.2.1 111 = .ok (.iload 5, 2) := by decide +kernel
theorem dc_Wa_fillFrom_113 : decode M_Wa_fillFrom.2.1 113 = .ok (.iconst 1, 1) := by decide +kernel
theorem dc_Wa_fillFrom_114 : decode M_Wa_fillFrom.2.1 114 = .ok (.iadd, 1) := by decide +kernel
theorem dc_Wa_fillFrom_115 : decode M_Wa_fillFrom.2.1 115 = .ok (.iload_n 2, 1) := by decide +kernel
theorem dc_Wa_fillFrom_116 : decode M_Wa_fillFrom.2.1 116 = .ok (.iload 7, 2) := by decide +kernel
theorem dc_Wa_fillFrom_118 : decode M_Wa_fillFrom.2.1 118 = .ok (.iload 4, 2) := by decide +kernel
theorem dc_Wa_fillFrom_120 : decode M_Wa_fillFrom.2.1 120 = .ok (.aload_n 0, 1) := by decide +kernel
theorem dc_Wa_fillFrom_121 : decode M_Wa_fillFrom.2.1 121 = .ok (.getfield 15, 3) := by decide +kernel
theorem dc_Wa_fillFrom_124 : decode M_Wa_fillFrom.2.1 124 = .ok (.iload 5, 2) := by decide +kernel
theorem dc_Wa_fillFrom_126 : decode M_Wa_fillFrom.2.1 126 = .ok (.iload_n 2, 1) := by decide +kernel
theorem dc_Wa_fillFrom_127 : decode M_Wa_fillFrom.2.1 127 = .ok (.iload 7, 2) := by decide +kernel
theorem dc_Wa_fillFrom_129 : decode M_Wa_fillFrom.2.1 129 = .ok (.invokevirtual 61, 3) := by decide +kernel
theorem dc_Wa_fillFrom_132 : decode M_Wa_fillFrom.2.1 132 = .ok (.iadd, 1) := by decide +kernel
theorem dc_Wa_fillFrom_133 : decode M_Wa_fillFrom.2.1 133 = .ok (.invokestatic 52, 3) := by decide +kernel
theorem dc_Wa_fillFrom_136 : decode M_Wa_fillFrom.2.1 136 = .ok (.return_, 1) := by decide +kernel
def f_Wa_fillFrom_L3 (R0 : Nat → Int32 → Int32 → Int32 → Int32 → xH → Option (Unit × xH)) (a0 : Nat) (a1 : Int32) (a2 : Int32) (a3 : Int32) (a4 : Int32) : Nat → Int32 → xH → (Int32 → xH → Option (Unit × xH)) → Option (Unit × xH)
  | 0, _, _, _ => none
  | n + 1, a5, h, K => gd (hK h a0 = 9) (if (hI h a0 2) ≤ a5 then K a5 h else if ((jShr (a2 ||| a3) a5) &&& (1 : Int32)) = (1 : Int32) then f_Wa_fillFrom_L3 R0 a0 a1 a2 a3 a4 n (a5 + (1 : Int32)) h K else K a5 h)
def fb_Wa_fillFrom (R0 : Nat → Int32 → Int32 → Int32 → Int32 → xH → Option (Unit × xH)) (a0 : Nat) (a1 : Int32) (a2 : Int32) (a3 : Int32) (a4 : Int32) (h : xH) : Option (Unit × xH) := f_Wa_fillFrom_L3 R0 a0 a1 a2 a3 a4 fu a1 h (fun v12 h13 => gd (hK h13 a0 = 9) (if v12 < (hI h13 a0 2) then gd (hK h13 (hR h13 a0 1) = 5) (Option.bind (f_St_howManyWith (hR h13 a0 1) v12 (a2 ||| (jShl (1 : Int32) v12)) a3 h13) (fun q16 => Option.bind (R0 a0 (v12 + (1 : Int32)) (a2 ||| (jShl (1 : Int32) v12)) a3 (a4 + q16.1) q16.2) (fun q18 => gd (hK q18.2 a0 = 9) (gd (hK q18.2 (hR q18.2 a0 1) = 5) (Option.bind (f_St_howManyWith (hR q18.2 a0 1) v12 a2 (a3 ||| (jShl (1 : Int32) v12)) q18.2) (fun q20 => Option.bind (R0 a0 (v12 + (1 : Int32)) a2 (a3 ||| (jShl (1 : Int32) v12)) (a4 + q20.1) q20.2) (fun q22 => some ((), q22.2)))))))) else jn (fun (x23 : xH) => gd (hK x23 a0 = 9) (some ((), hIu x23 a0 4 (jMax (hI x23 a0 4) a4)))) (fun k24 => if a4 = 0 then k24 (hIu h13 a0 3 ((hI h13 a0 3) + (1 : Int32))) else k24 h13)))
def G_Wa_fillFrom : Nat → Nat → Int32 → Int32 → Int32 → Int32 → xH → Option (Unit × xH)
  | 0 => fun _ _ _ _ _ _ => none
  | g + 1 => fun a0 a1 a2 a3 a4 h => fb_Wa_fillFrom (G_Wa_fillFrom g) a0 a1 a2 a3 a4 h
def f_Wa_fillFrom (a0 : Nat) (a1 : Int32) (a2 : Int32) (a3 : Int32) (a4 : Int32) (h : xH) : Option (Unit × xH) := G_Wa_fillFrom 24 a0 a1 a2 a3 a4 h
theorem t_Wa_fillFrom_L3 {l : Launch} {z : xZ} {d mc ms : Nat} {Ph : Option xV → xH → Prop} {R0 : Nat → Int32 → Int32 → Int32 → Int32 → xH → Option (Unit × xH)} {a0 : Nat} {a1 : Int32} {a2 : Int32} {a3 : Int32} {a4 : Int32} {B : Nat} (hR0 : ∀ {d mc ms : Nat} {Ph : Option xV → xH → Prop} {a0 : Nat} {a1 : Int32} {a2 : Int32} {a3 : Int32} {a4 : Int32} {h : xH}, B ≤ d → OK (R0 a0 a1 a2 a3 a4 h) (fun q => Ph (none) q.2) → Sx l z d mc ms M_Wa_fillFrom 0 (x_en [xR a0, xI a1, xI a2, xI a3, xI a4] 8) [] h Ph) (hd : B + 1 ≤ d) : ∀ (n : Nat) (a5 : Int32) (h : xH) (K : Int32 → xH → Option (Unit × xH)), OK (f_Wa_fillFrom_L3 R0 a0 a1 a2 a3 a4 n a5 h K) (fun q => Ph (none) q.2) → (∀ (a5 : Int32) (h : xH), OK (K a5 h) (fun q => Ph (none) q.2) → Sx l z d mc ms M_Wa_fillFrom 30 [some (xR a0), some (xI a1), some (xI a2), some (xI a3), some (xI a4), some (xI a5), none, none] [] h Ph) → Sx l z d mc ms M_Wa_fillFrom 3 [some (xR a0), some (xI a1), some (xI a2), some (xI a3), some (xI a4), some (xI a5), none, none] [] h Ph := by
  intro n
  induction n with
  | zero => intro a5 h K hk hE; exact hk.no
  | succ n ih =>
    intro a5 h K hk hE
    rw [f_Wa_fillFrom_L3] at hk
    refine sx_iload dc_Wa_fillFrom_3 rfl ?_
    refine sx_aload_n dc_Wa_fillFrom_5 rfl ?_
    obtain ⟨g9, hk⟩ := hk.g
    refine sx_get (ci := 9) (k := 2) rfl (by decide) wF_Wa_31 g9 dc_Wa_fillFrom_6 ?_
    refine sx_icmp_ge (tgt := 30) dc_Wa_fillFrom_9 (by decide) (fun c10 => ?_) (fun c10 => ?_)
    · replace hk := hk.t c10
      exact hE a5 h hk
    · replace hk := hk.f c10
      refine sx_iload_n dc_Wa_fillFrom_12 rfl ?_
      refine sx_iload_n dc_Wa_fillFrom_13 rfl ?_
      refine sx_ior dc_Wa_fillFrom_14 ?_
      refine sx_iload dc_Wa_fillFrom_15 rfl ?_
      refine sx_ishr dc_Wa_fillFrom_17 ?_
      refine sx_iconst (v := (1 : Int32)) dc_Wa_fillFrom_18 (by decide) ?_
      refine sx_iand dc_Wa_fillFrom_19 ?_
      refine sx_iconst (v := (1 : Int32)) dc_Wa_fillFrom_20 (by decide) ?_
      refine sx_icmp_ne (tgt := 30) dc_Wa_fillFrom_21 (by decide) (fun c11 => ?_) (fun c11 => ?_)
      · replace hk := hk.f c11
        exact hE a5 h hk
      · replace hk := hk.t c11
        refine sx_iinc (v := (1 : Int32)) dc_Wa_fillFrom_24 rfl (by decide) (by decide) (sx_eq (lc2 := [some (xR a0), some (xI a1), some (xI a2), some (xI a3), some (xI a4), some (xI (a5 + (1 : Int32))), none, none]) rfl rfl ?_)
        refine sx_goto (tgt := 3) dc_Wa_fillFrom_27 (by decide) ?_
        exact ih (a5 + (1 : Int32)) h _ hk hE
theorem tb_Wa_fillFrom {l : Launch} {z : xZ} {d mc ms : Nat} {Ph : Option xV → xH → Prop} {R0 : Nat → Int32 → Int32 → Int32 → Int32 → xH → Option (Unit × xH)} {B : Nat} (hR0 : ∀ {d mc ms : Nat} {Ph : Option xV → xH → Prop} {a0 : Nat} {a1 : Int32} {a2 : Int32} {a3 : Int32} {a4 : Int32} {h : xH}, B ≤ d → OK (R0 a0 a1 a2 a3 a4 h) (fun q => Ph (none) q.2) → Sx l z d mc ms M_Wa_fillFrom 0 (x_en [xR a0, xI a1, xI a2, xI a3, xI a4] 8) [] h Ph) {a0 : Nat} {a1 : Int32} {a2 : Int32} {a3 : Int32} {a4 : Int32}  {h : xH} (hd : B + 4 ≤ d) (hk : OK (fb_Wa_fillFrom R0 a0 a1 a2 a3 a4 h) (fun q => Ph (none) q.2)) : Sx l z d mc ms M_Wa_fillFrom 0 (x_en [xR a0, xI a1, xI a2, xI a3, xI a4] 8) [] h Ph := by
  unfold fb_Wa_fillFrom at hk
  refine sx_eq (lc2 := [some (xR a0), some (xI a1), some (xI a2), some (xI a3), some (xI a4), none, none, none]) rfl rfl ?_
  refine sx_iload_n dc_Wa_fillFrom_0 rfl ?_
  refine sx_istore dc_Wa_fillFrom_1 (by decide) (sx_eq (lc2 := [some (xR a0), some (xI a1), some (xI a2), some (xI a3), some (xI a4), some (xI a1), none, none]) rfl rfl ?_)
  refine t_Wa_fillFrom_L3 hR0 (by omega) _ _ _ _ hk (fun v12 h13 hk => ?_)
  refine sx_iload dc_Wa_fillFrom_30 rfl ?_
  refine sx_aload_n dc_Wa_fillFrom_32 rfl ?_
  obtain ⟨g14, hk⟩ := hk.g
  refine sx_get (ci := 9) (k := 2) rfl (by decide) wF_Wa_31 g14 dc_Wa_fillFrom_33 ?_
  refine sx_icmp_lt (tgt := 68) dc_Wa_fillFrom_36 (by decide) (fun c15 => ?_) (fun c15 => ?_)
  · replace hk := hk.t c15
    refine sx_iload_n dc_Wa_fillFrom_68 rfl ?_
    refine sx_iconst (v := (1 : Int32)) dc_Wa_fillFrom_69 (by decide) ?_
    refine sx_iload dc_Wa_fillFrom_70 rfl ?_
    refine sx_ishl dc_Wa_fillFrom_72 ?_
    refine sx_ior dc_Wa_fillFrom_73 ?_
    refine sx_istore dc_Wa_fillFrom_74 (by decide) (sx_eq (lc2 := [some (xR a0), some (xI a1), some (xI a2), some (xI a3), some (xI a4), some (xI v12), some (xI (a2 ||| (jShl (1 : Int32) v12))), none]) rfl rfl ?_)
    refine sx_iload_n dc_Wa_fillFrom_76 rfl ?_
    refine sx_iconst (v := (1 : Int32)) dc_Wa_fillFrom_77 (by decide) ?_
    refine sx_iload dc_Wa_fillFrom_78 rfl ?_
    refine sx_ishl dc_Wa_fillFrom_80 ?_
    refine sx_ior dc_Wa_fillFrom_81 ?_
    refine sx_istore dc_Wa_fillFrom_82 (by decide) (sx_eq (lc2 := [some (xR a0), some (xI a1), some (xI a2), some (xI a3), some (xI a4), some (xI v12), some (xI (a2 ||| (jShl (1 : Int32) v12))), some (xI (a3 ||| (jShl (1 : Int32) v12)))]) rfl rfl ?_)
    refine sx_aload_n dc_Wa_fillFrom_84 rfl ?_
    refine sx_iload dc_Wa_fillFrom_85 rfl ?_
    refine sx_iconst (v := (1 : Int32)) dc_Wa_fillFrom_87 (by decide) ?_
    refine sx_iadd dc_Wa_fillFrom_88 ?_
    refine sx_iload dc_Wa_fillFrom_89 rfl ?_
    refine sx_iload_n dc_Wa_fillFrom_91 rfl ?_
    refine sx_iload dc_Wa_fillFrom_92 rfl ?_
    refine sx_aload_n dc_Wa_fillFrom_94 rfl ?_
    refine sx_get (ci := 9) (k := 1) rfl (by decide) wF_Wa_15 g14 dc_Wa_fillFrom_95 ?_
    refine sx_iload dc_Wa_fillFrom_98 rfl ?_
    refine sx_iload dc_Wa_fillFrom_100 rfl ?_
    refine sx_iload_n dc_Wa_fillFrom_102 rfl ?_
    obtain ⟨g17, hk⟩ := hk.g
    obtain ⟨q16, eq16, hk⟩ := hk.bind
    refine sx_callV (d2 := d - 1) (mc2 := 0) (ms2 := 0) (as := [xI v12, xI (a2 ||| (jShl (1 : Int32) v12)), xI a3]) mk_St_howManyWith rfl (x_rk (ci := 5) g17 rfl rfl) wM_Wa_61 mi_St_howManyWith me_St_howManyWith rfl (Nat.le_of_ble_eq_true rfl) (Nat.le_of_ble_eq_true rfl) dc_Wa_fillFrom_103 (by omega) (Nat.zero_le _) (Nat.zero_le _) ?_
    refine t_St_howManyWith (by omega) ⟨q16, eq16, ?_⟩
    refine sx_eq0 (lc2 := [some (xR a0), some (xI a1), some (xI a2), some (xI a3), some (xI a4), some (xI v12), some (xI (a2 ||| (jShl (1 : Int32) v12))), some (xI (a3 ||| (jShl (1 : Int32) v12)))]) (st2 := [xI q16.1, xI a4, xI a3, xI (a2 ||| (jShl (1 : Int32) v12)), xI (v12 + (1 : Int32)), xR a0]) rfl rfl ?_
    refine sx_iadd dc_Wa_fillFrom_106 ?_
    obtain ⟨q18, eq18, hk⟩ := hk.bind
    refine sx_callS (d2 := d - 1) (mc2 := 0) (ms2 := 0) (as := [xR a0, xI (v12 + (1 : Int32)), xI (a2 ||| (jShl (1 : Int32) v12)), xI a3, xI (a4 + q16.1)]) mk_Wa_fillFrom rfl wM_Wa_52 mt_Wa_fillFrom rfl (Nat.le_of_ble_eq_true rfl) (Nat.le_of_ble_eq_true rfl) dc_Wa_fillFrom_107 (by omega) (Nat.zero_le _) (Nat.zero_le _) ?_
    refine hR0 (by omega) ⟨q18, eq18, ?_⟩
    refine sx_eq0 (lc2 := [some (xR a0), some (xI a1), some (xI a2), some (xI a3), some (xI a4), some (xI v12), some (xI (a2 ||| (jShl (1 : Int32) v12))), some (xI (a3 ||| (jShl (1 : Int32) v12)))]) (st2 := []) rfl rfl ?_
    refine sx_aload_n dc_Wa_fillFrom_110 rfl ?_
    refine sx_iload dc_Wa_fillFrom_111 rfl ?_
    refine sx_iconst (v := (1 : Int32)) dc_Wa_fillFrom_113 (by decide) ?_
    refine sx_iadd dc_Wa_fillFrom_114 ?_
    refine sx_iload_n dc_Wa_fillFrom_115 rfl ?_
    refine sx_iload dc_Wa_fillFrom_116 rfl ?_
    refine sx_iload dc_Wa_fillFrom_118 rfl ?_
    refine sx_aload_n dc_Wa_fillFrom_120 rfl ?_
    obtain ⟨g19, hk⟩ := hk.g
    refine sx_get (ci := 9) (k := 1) rfl (by decide) wF_Wa_15 g19 dc_Wa_fillFrom_121 ?_
    refine sx_iload dc_Wa_fillFrom_124 rfl ?_
    refine sx_iload_n dc_Wa_fillFrom_126 rfl ?_
    refine sx_iload dc_Wa_fillFrom_127 rfl ?_
    obtain ⟨g21, hk⟩ := hk.g
    obtain ⟨q20, eq20, hk⟩ := hk.bind
    refine sx_callV (d2 := d - 1) (mc2 := 0) (ms2 := 0) (as := [xI v12, xI a2, xI (a3 ||| (jShl (1 : Int32) v12))]) mk_St_howManyWith rfl (x_rk (ci := 5) g21 rfl rfl) wM_Wa_61 mi_St_howManyWith me_St_howManyWith rfl (Nat.le_of_ble_eq_true rfl) (Nat.le_of_ble_eq_true rfl) dc_Wa_fillFrom_129 (by omega) (Nat.zero_le _) (Nat.zero_le _) ?_
    refine t_St_howManyWith (by omega) ⟨q20, eq20, ?_⟩
    refine sx_eq0 (lc2 := [some (xR a0), some (xI a1), some (xI a2), some (xI a3), some (xI a4), some (xI v12), some (xI (a2 ||| (jShl (1 : Int32) v12))), some (xI (a3 ||| (jShl (1 : Int32) v12)))]) (st2 := [xI q20.1, xI a4, xI (a3 ||| (jShl (1 : Int32) v12)), xI a2, xI (v12 + (1 : Int32)), xR a0]) rfl rfl ?_
    refine sx_iadd dc_Wa_fillFrom_132 ?_
    obtain ⟨q22, eq22, hk⟩ := hk.bind
    refine sx_callS (d2 := d - 1) (mc2 := 0) (ms2 := 0) (as := [xR a0, xI (v12 + (1 : Int32)), xI a2, xI (a3 ||| (jShl (1 : Int32) v12)), xI (a4 + q20.1)]) mk_Wa_fillFrom rfl wM_Wa_52 mt_Wa_fillFrom rfl (Nat.le_of_ble_eq_true rfl) (Nat.le_of_ble_eq_true rfl) dc_Wa_fillFrom_133 (by omega) (Nat.zero_le _) (Nat.zero_le _) ?_
    refine hR0 (by omega) ⟨q22, eq22, ?_⟩
    refine sx_eq0 (lc2 := [some (xR a0), some (xI a1), some (xI a2), some (xI a3), some (xI a4), some (xI v12), some (xI (a2 ||| (jShl (1 : Int32) v12))), some (xI (a3 ||| (jShl (1 : Int32) v12)))]) (st2 := []) rfl rfl ?_
    exact sx_retV dc_Wa_fillFrom_136 rfl hk.val
  · replace hk := hk.f c15
    refine sx_iload dc_Wa_fillFrom_39 rfl ?_
    refine hk.j (X := fun x23 => Sx l z d mc ms M_Wa_fillFrom 54 [some (xR a0), some (xI a1), some (xI a2), some (xI a3), some (xI a4), some (xI v12), none, none] [] x23 Ph) (fun x23 hk => ?_) (fun k24 jk24 hk => ?_)
    · refine sx_aload_n dc_Wa_fillFrom_54 rfl ?_
      refine sx_aload_n dc_Wa_fillFrom_55 rfl ?_
      obtain ⟨g25, hk⟩ := hk.g
      refine sx_get (ci := 9) (k := 4) rfl (by decide) wF_Wa_37 g25 dc_Wa_fillFrom_56 ?_
      refine sx_iload dc_Wa_fillFrom_59 rfl ?_
      refine sx_max wM_Wa_56 mt_Mt_max wT_Mt wV_max (Nat.le_of_ble_eq_true rfl) (by omega) dc_Wa_fillFrom_61 ?_
      refine sx_putI (ci := 9) (k := 4) rfl (by decide) wF_Wa_37 rfl g25 (Or.inl rfl) dc_Wa_fillFrom_64 ?_
      exact sx_retV dc_Wa_fillFrom_67 rfl hk.val
    · refine sx_if_ne (tgt := 54) dc_Wa_fillFrom_41 (by decide) (fun c26 => ?_) (fun c26 => ?_)
      · replace hk := hk.f c26
        exact jk24 h13 hk
      · replace hk := hk.t c26
        refine sx_aload_n dc_Wa_fillFrom_44 rfl ?_
        refine sx_dup dc_Wa_fillFrom_45 rfl ?_
        refine sx_get (ci := 9) (k := 3) rfl (by decide) wF_Wa_34 g14 dc_Wa_fillFrom_46 ?_
        refine sx_iconst (v := (1 : Int32)) dc_Wa_fillFrom_49 (by decide) ?_
        refine sx_iadd dc_Wa_fillFrom_50 ?_
        refine sx_putI (ci := 9) (k := 3) rfl (by decide) wF_Wa_34 rfl g14 (Or.inl rfl) dc_Wa_fillFrom_51 ?_
        exact jk24 (hIu h13 a0 3 ((hI h13 a0 3) + (1 : Int32))) hk
theorem tg_Wa_fillFrom {l : Launch} {z : xZ} : ∀ (g : Nat) {d mc ms : Nat} {Ph : Option xV → xH → Prop} {a0 : Nat} {a1 : Int32} {a2 : Int32} {a3 : Int32} {a4 : Int32} {h : xH}, 4 * g ≤ d → OK (G_Wa_fillFrom g a0 a1 a2 a3 a4 h) (fun q => Ph (none) q.2) → Sx l z d mc ms M_Wa_fillFrom 0 (x_en [xR a0, xI a1, xI a2, xI a3, xI a4] 8) [] h Ph
  | 0 => fun _ hk => hk.no
  | g + 1 => fun hd hk => tb_Wa_fillFrom (R0 := G_Wa_fillFrom g) (B := 4 * g) (fun hd hk => tg_Wa_fillFrom g hd hk) (by omega) hk
theorem t_Wa_fillFrom {l : Launch} {z : xZ} {d mc ms : Nat} {Ph : Option xV → xH → Prop} {a0 : Nat} {a1 : Int32} {a2 : Int32} {a3 : Int32} {a4 : Int32} {h : xH} (hd : 96 ≤ d) (hk : OK (f_Wa_fillFrom a0 a1 a2 a3 a4 h) (fun q => Ph (none) q.2)) : Sx l z d mc ms M_Wa_fillFrom 0 (x_en [xR a0, xI a1, xI a2, xI a3, xI a4] 8) [] h Ph := tg_Wa_fillFrom 24 (by omega) hk
theorem dc_Wa_fillAll_0 : decode M_Wa_fillAll.2.1 0 = .ok (.aload_n 0, 1) := by decide +kernel
theorem dc_Wa_fillAll_1 : decode M_Wa_fillAll.2.1 1 = .ok (.aload_n 1, 1) := by decide +kernel
theorem dc_Wa_fillAll_2 : decode M_Wa_fillAll.2.1 2 = .ok (.getfield 19, 3) := by decide +kernel
theorem dc_Wa_fillAll_5 : decode M_Wa_fillAll.2.1 5 = .ok (.invokestatic 25, 3) := by decide +kernel
theorem dc_Wa_fillAll_8 : decode M_Wa_fillAll.2.1 8 = .ok (.putfield 31, 3) := by decide +kernel
theorem dc_Wa_fillAll_11 : decode M_Wa_fillAll.2.1 11 = .ok (.aload_n 0, 1) := by decide +kernel
theorem dc_Wa_fillAll_12 : decode M_Wa_fillAll.2.1 12 = .ok (.iconst 0, 1) := by decide +kernel
theorem dc_Wa_fillAll_13 : decode M_Wa_fillAll.2.1 13 = .ok (.putfield 34, 3) := by decide +kernel
theorem dc_Wa_fillAll_16 : decode M_Wa_fillAll.2.1 16 = .ok (.aload_n 0, 1) := by decide +kernel
theorem dc_Wa_fillAll_17 : decode M_Wa_fillAll.2.1 17 = .ok (.iconst 0, 1) := by decide +kernel
theorem dc_Wa_fillAll_18 : decode M_Wa_fillAll.2.1 18 = .ok (.putfield 37, 3) := by decide +kernel
theorem dc_Wa_fillAll_21 : decode M_Wa_fillAll.2.1 21 = .ok (.aload_n 0, 1) := by decide +kernel
theorem dc_Wa_fillAll_22 : decode M_Wa_fillAll.2.1 22 = .ok (.getfield 15, 3) := by decide +kernel
theorem dc_Wa_fillAll_25 : decode M_Wa_fillAll.2.1 25 = .ok (.aload_n 1, 1) := by decide +kernel
theorem dc_Wa_fillAll_26 : decode M_Wa_fillAll.2.1 26 = .ok (.getfield 40, 3) := by decide +kernel
theorem dc_Wa_fillAll_29 : decode M_Wa_fillAll.2.1 29 = .ok (.aload_n 1, 1) := by decide +kernel
theorem dc_Wa_fillAll_30 : decode M_Wa_fillAll.2.1 30 = .ok (.getfield 43, 3) := by decide +kernel
theorem dc_Wa_fillAll_33 : decode M_Wa_fillAll.2.1 33 = .ok (.invokevirtual 46, 3) := by decide +kernel
theorem dc_Wa_fillAll_36 : decode M_Wa_fillAll.2.1 36 = .ok (.istore_n 2, 1) := by decide +kernel
theorem dc_Wa_fillAll_37 : decode M_Wa_fillAll.2.1 37 = .ok (.aload_n 0, 1) := by decide +kernel
theorem dc_Wa_fillAll_38 : decode M_Wa_fillAll.2.1 38 = .ok (.iconst 0, 1) := by decide +kernel
theorem dc_Wa_fillAll_39 : decode M_Wa_fillAll.2.1 39 = .ok (.aload_n 1, 1) := by decide +kernel
theorem dc_Wa_fillAll_40 : decode M_Wa_fillAll.2.1 40 = .ok (.getfield 40, 3) := by decide +kernel
theorem dc_Wa_fillAll_43 : decode M_Wa_fillAll.2.1 43 = .ok (.aload_n 1, 1) := by decide +kernel
theorem dc_Wa_fillAll_44 : decode M_Wa_fillAll.2.1 44 = .ok (.getfield 43, 3) := by decide +kernel
theorem dc_Wa_fillAll_47 : decode M_Wa_fillAll.2.1 47 = .ok (.iload_n 2, 1) := by decide +kernel
theorem dc_Wa_fillAll_48 : decode M_Wa_fillAll.2.1 48 = .ok (.invokestatic 52, 3) := by decide +kernel
theorem dc_Wa_fillAll_51 : decode M_Wa_fillAll.2.1 51 = .ok (.return_, 1) := by decide +kernel
def f_Wa_fillAll (a0 : Nat) (a1 : Nat) (h : xH) : Option (Unit × xH) := gd (hK h a1 = 6) (Option.bind (f_Se_pairsAmong (hI h a1 1) h) (fun q10 => gd (hK q10.2 a0 = 9) (gd (hK q10.2 a1 = 6) (gd (hK q10.2 (hR q10.2 a0 1) = 5) (Option.bind (f_St_howMany (hR q10.2 a0 1) (hI (hIu (hIu (hIu q10.2 a0 2 q10.1) a0 3 (0 : Int32)) a0 4 (0 : Int32)) a1 2) (hI (hIu (hIu (hIu q10.2 a0 2 q10.1) a0 3 (0 : Int32)) a0 4 (0 : Int32)) a1 3) (hIu (hIu (hIu q10.2 a0 2 q10.1) a0 3 (0 : Int32)) a0 4 (0 : Int32))) (fun q13 => gd (hK q13.2 a1 = 6) (Option.bind (f_Wa_fillFrom a0 (0 : Int32) (hI q13.2 a1 2) (hI q13.2 a1 3) q13.1 q13.2) (fun q16 => some ((), q16.2)))))))))
theorem t_Wa_fillAll {l : Launch} {z : xZ} {d mc ms : Nat} {Ph : Option xV → xH → Prop} {a0 : Nat} {a1 : Nat}  {h : xH} (hd : 97 ≤ d) (hk : OK (f_Wa_fillAll a0 a1 h) (fun q => Ph (none) q.2)) : Sx l z d mc ms M_Wa_fillAll 0 (x_en [xR a0, xR a1] 3) [] h Ph := by
  unfold f_Wa_fillAll at hk
  refine sx_eq (lc2 := [some (xR a0), some (xR a1), none]) rfl rfl ?_
  refine sx_aload_n dc_Wa_fillAll_0 rfl ?_
  refine sx_aload_n dc_Wa_fillAll_1 rfl ?_
  obtain ⟨g9, hk⟩ := hk.g
  refine sx_get (ci := 6) (k := 1) rfl (by decide) wF_Wa_19 g9 dc_Wa_fillAll_2 ?_
  obtain ⟨q10, eq10, hk⟩ := hk.bind
  refine sx_callS (d2 := d - 1) (mc2 := 0) (ms2 := 0) (as := [xI (hI h a1 1)]) mk_Se_pairsAmong rfl wM_Wa_25 mt_Se_pairsAmong rfl (Nat.le_of_ble_eq_true rfl) (Nat.le_of_ble_eq_true rfl) dc_Wa_fillAll_5 (by omega) (Nat.zero_le _) (Nat.zero_le _) ?_
  refine t_Se_pairsAmong (by omega) ⟨q10, eq10, ?_⟩
  refine sx_eq0 (lc2 := [some (xR a0), some (xR a1), none]) (st2 := [xI q10.1, xR a0]) rfl rfl ?_
  obtain ⟨g11, hk⟩ := hk.g
  refine sx_putI (ci := 9) (k := 2) rfl (by decide) wF_Wa_31 rfl g11 (Or.inl rfl) dc_Wa_fillAll_8 ?_
  refine sx_aload_n dc_Wa_fillAll_11 rfl ?_
  refine sx_iconst (v := (0 : Int32)) dc_Wa_fillAll_12 (by decide) ?_
  refine sx_putI (ci := 9) (k := 3) rfl (by decide) wF_Wa_34 rfl g11 (Or.inl rfl) dc_Wa_fillAll_13 ?_
  refine sx_aload_n dc_Wa_fillAll_16 rfl ?_
  refine sx_iconst (v := (0 : Int32)) dc_Wa_fillAll_17 (by decide) ?_
  refine sx_putI (ci := 9) (k := 4) rfl (by decide) wF_Wa_37 rfl g11 (Or.inl rfl) dc_Wa_fillAll_18 ?_
  refine sx_aload_n dc_Wa_fillAll_21 rfl ?_
  refine sx_get (ci := 9) (k := 1) rfl (by decide) wF_Wa_15 g11 dc_Wa_fillAll_22 ?_
  refine sx_aload_n dc_Wa_fillAll_25 rfl ?_
  obtain ⟨g12, hk⟩ := hk.g
  refine sx_get (ci := 6) (k := 2) rfl (by decide) wF_Wa_40 g12 dc_Wa_fillAll_26 ?_
  refine sx_aload_n dc_Wa_fillAll_29 rfl ?_
  refine sx_get (ci := 6) (k := 3) rfl (by decide) wF_Wa_43 g12 dc_Wa_fillAll_30 ?_
  obtain ⟨g14, hk⟩ := hk.g
  obtain ⟨q13, eq13, hk⟩ := hk.bind
  refine sx_callV (d2 := d - 1) (mc2 := 0) (ms2 := 0) (as := [xI (hI (hIu (hIu (hIu q10.2 a0 2 q10.1) a0 3 (0 : Int32)) a0 4 (0 : Int32)) a1 2), xI (hI (hIu (hIu (hIu q10.2 a0 2 q10.1) a0 3 (0 : Int32)) a0 4 (0 : Int32)) a1 3)]) mk_St_howMany rfl (x_rk (ci := 5) g14 rfl rfl) wM_Wa_46 mi_St_howMany me_St_howMany rfl (Nat.le_of_ble_eq_true rfl) (Nat.le_of_ble_eq_true rfl) dc_Wa_fillAll_33 (by omega) (Nat.zero_le _) (Nat.zero_le _) ?_
  refine t_St_howMany (by omega) ⟨q13, eq13, ?_⟩
  refine sx_eq0 (lc2 := [some (xR a0), some (xR a1), none]) (st2 := [xI q13.1]) rfl rfl ?_
  refine sx_istore_n dc_Wa_fillAll_36 (by decide) (sx_eq (lc2 := [some (xR a0), some (xR a1), some (xI q13.1)]) rfl rfl ?_)
  refine sx_aload_n dc_Wa_fillAll_37 rfl ?_
  refine sx_iconst (v := (0 : Int32)) dc_Wa_fillAll_38 (by decide) ?_
  refine sx_aload_n dc_Wa_fillAll_39 rfl ?_
  obtain ⟨g15, hk⟩ := hk.g
  refine sx_get (ci := 6) (k := 2) rfl (by decide) wF_Wa_40 g15 dc_Wa_fillAll_40 ?_
  refine sx_aload_n dc_Wa_fillAll_43 rfl ?_
  refine sx_get (ci := 6) (k := 3) rfl (by decide) wF_Wa_43 g15 dc_Wa_fillAll_44 ?_
  refine sx_iload_n dc_Wa_fillAll_47 rfl ?_
  obtain ⟨q16, eq16, hk⟩ := hk.bind
  refine sx_callS (d2 := d - 1) (mc2 := 0) (ms2 := 0) (as := [xR a0, xI (0 : Int32), xI (hI q13.2 a1 2), xI (hI q13.2 a1 3), xI q13.1]) mk_Wa_fillFrom rfl wM_Wa_52 mt_Wa_fillFrom rfl (Nat.le_of_ble_eq_true rfl) (Nat.le_of_ble_eq_true rfl) dc_Wa_fillAll_48 (by omega) (Nat.zero_le _) (Nat.zero_le _) ?_
  refine t_Wa_fillFrom (by omega) ⟨q16, eq16, ?_⟩
  refine sx_eq0 (lc2 := [some (xR a0), some (xR a1), some (xI q13.1)]) (st2 := []) rfl rfl ?_
  exact sx_retV dc_Wa_fillAll_51 rfl hk.val
theorem dc_Wa_drawFrom_0 : decode M_Wa_drawFrom.2.1 0 = .ok (.iload_n 1, 1) := by decide +kernel
theorem dc_Wa_drawFrom_1 : decode M_Wa_drawFrom.2.1 1 = .ok (.aload_n 0, 1) := by decide +kernel
theorem dc_Wa_drawFrom_2 : decode M_Wa_drawFrom.2.1 2 = .ok (.getfield 31, 3) := by decide +kernel
theorem dc_Wa_drawFrom_5 : decode M_Wa_drawFrom.2.1 5 = .ok (.if_icmp .lt 34, 3) := by decide +kernel
theorem dc_Wa_drawFrom_8 : decode M_Wa_drawFrom.2.1 8 = .ok (.aload_n 0, 1) := by decide +kernel
theorem dc_Wa_drawFrom_9 : decode M_Wa_drawFrom.2.1 9 = .ok (.dup, 1) := by decide +kernel
theorem dc_Wa_drawFrom_10 : decode M_Wa_drawFrom.2.1 10 = .ok (.getfield 34, 3) := by decide +kernel
theorem dc_Wa_drawFrom_13 : decode M_Wa_drawFrom.2.1 13 = .ok (.iconst 1, 1) := by decide +kernel
theorem dc_Wa_drawFrom_14 : decode M_Wa_drawFrom.2.1 14 = .ok (.iadd, 1) := by decide +kernel
theorem dc_Wa_drawFrom_15 : decode M_Wa_drawFrom.2.1 15 = .ok (.putfield 34, 3) := by decide +kernel
theorem dc_Wa_drawFrom_18 : decode M_Wa_drawFrom.2.1 18 = .ok (.aload_n 0, 1) := by decide +kernel
theorem dc_Wa_drawFrom_19 : decode M_Wa_drawFrom.2.1 19 = .ok (.getfield 65, 3) := by decide +kernel
theorem dc_Wa_drawFrom_22 : decode M_Wa_drawFrom.2.1 22 = .ok (.ifCond .lt 11, 3) := by decide +kernel
theorem dc_Wa_drawFrom_25 : decode M_Wa_drawFrom.2.1 25 = .ok (.iload_n 2, 1) := by decide +kernel
theorem dc_Wa_drawFrom_26 : decode M_Wa_drawFrom.2.1 26 = .ok (.aload_n 0, 1) := by decide +kernel
theorem dc_Wa_drawFrom_27 : decode M_Wa_drawFrom.2.1 27 = .ok (.getfield 65, 3) := by decide +kernel
theorem dc_Wa_drawFrom_30 : decode M_Wa_drawFrom.2.1 30 = .ok (.if_icmp .ge 8, 3) := by decide +kernel
theorem dc_Wa_drawFrom_33 : decode M_Wa_drawFrom.2.1 33 = .ok (.aload_n 0, 1) := by decide +kernel
theorem dc_Wa_drawFrom_34 : decode M_Wa_drawFrom.2.1 34 = .ok (.iload_n 2, 1) := by decide +kernel
theorem dc_Wa_drawFrom_35 : decode M_Wa_drawFrom.2.1 35 = .ok (.putfield 65, 3) := by decide +kernel
theorem dc_Wa_drawFrom_38 : decode M_Wa_drawFrom.2.1 38 = .ok (.return_, 1) := by decide +kernel
theorem dc_Wa_drawFrom_39 : decode M_Wa_drawFrom.2.1 39 = .ok (.iload_n 2, 1) := by decide +kernel
theorem dc_Wa_drawFrom_40 : decode M_Wa_drawFrom.2.1 40 = .ok (.iconst 1, 1) := by decide +kernel
theorem dc_Wa_drawFrom_41 : decode M_Wa_drawFrom.2.1 41 = .ok (.iload_n 1, 1) := by decide +kernel
theorem dc_Wa_drawFrom_42 : decode M_Wa_drawFrom.2.1 42 = .ok (.ishl, 1) := by decide +kernel
theorem dc_Wa_drawFrom_43 : decode M_Wa_drawFrom.2.1 43 = .ok (.ior, 1) := by decide +kernel
theorem dc_Wa_drawFrom_44 : decode M_Wa_drawFrom.2.1 44 = .ok (.istore 4, 2) := by decide +kernel
theorem dc_Wa_drawFrom_46 : decode M_Wa_drawFrom.2.1 46 = .ok (.iload_n 3, 1) := by decide +kernel
theorem dc_Wa_drawFrom_47 : decode M_Wa_drawFrom.2.1 47 = .ok (.iconst 1, 1) := by decide +kernel
theorem dc_Wa_drawFrom_48 : decode M_Wa_drawFrom.2.1 48 = .ok (.iload_n 1, 1) := by decide +kernel
theorem dc_Wa_drawFrom_49 : decode M_Wa_drawFrom.2.1 49 = .ok (.ishl, 1) := by decide +kernel
theorem dc_Wa_drawFrom_50 : decode M_Wa_drawFrom.2.1 50 = .ok (.ior, 1) := by decide +kernel
theorem dc_Wa_drawFrom_51 : decode M_Wa_drawFrom.2.1 51 = .ok (.istore 5, 2) := by decide +kernel
theorem dc_Wa_drawFrom_53 : decode M_Wa_drawFrom.2.1 53 = .ok (.aload_n 0, 1) := by decide +kernel
theorem dc_Wa_drawFrom_54 : decode M_Wa_drawFrom.2.1 54 = .ok (.getfield 9, 3) := by decide +kernel
theorem dc_Wa_drawFrom_57 : decode M_Wa_drawFrom.2.1 57 = .ok (.iload_n 1, 1) := by decide +kernel
theorem dc_Wa_drawFrom_58 : decode M_Wa_drawFrom.2.1 58 = .ok (.iload 4, 2) := by decide +kernel
theorem dc_Wa_drawFrom_60 : decode M_Wa_drawFrom.2.1 60 = .ok (.invokevirtual 72, 3) := by decide +kernel
theorem dc_Wa_drawFrom_63 : decode M_Wa_drawFrom.2.1 63 = .ok (.ifCond .ne 13, 3) := by decide +kernel
theorem dc_Wa_drawFrom_66 : decode M_Wa_drawFrom.2.1 66 = .ok (.aload_n 0, 1) := by decide +kernel
theorem dc_Wa_drawFrom_67 : decode M_Wa_drawFrom.2.1 67 = .ok (.iload_n 1, 1) := by decide +kernel
theorem dc_Wa_drawFrom_68 : decode M_Wa_drawFrom.2.1 68 = .ok (.iconst 1, 1) := by decide +kernel
theorem dc_Wa_drawFrom_69 : decode M_Wa_drawFrom.2.1 69 = .ok (.iadd, 1) := by decide +kernel
theorem dc_Wa_drawFrom_70 : decode M_Wa_drawFrom.2.1 70 = .ok (.iload 4, 2) := by decide +kernel
theorem dc_Wa_drawFrom_72 : decode M_Wa_drawFrom.2.1 72 = .ok (.iload_n 3, 1) := by decide +kernel
theorem dc_Wa_drawFrom_73 : decode M_Wa_drawFrom.2.1 73 = .ok (.invokestatic 68, 3) := by decide +kernel
theorem dc_Wa_drawFrom_76 : decode M_Wa_drawFrom.2.1 76 = .ok (.aload_n 0, 1) := by decide +kernel
theorem dc_Wa_drawFrom_77 : decode M_Wa_drawFrom.2.1 77 = .ok (.getfield 9, 3) := by decide +kernel
theorem dc_Wa_drawFrom_80 : decode M_Wa_drawFrom.2.1 80 = .ok (.iload_n 1, 1) := by decide +kernel
theorem dc_Wa_drawFrom_81 : decode M_Wa_drawFrom.2.1 81 = .ok (.iload 5, 2) := by decide +kernel
theorem dc_Wa_drawFrom_83 : decode M_Wa_drawFrom.2.1 83 = .ok (.invokevirtual 72, 3) := by decide +kernel
theorem dc_Wa_drawFrom_86 : decode M_Wa_drawFrom.2.1 86 = .ok (.ifCond .ne 13, 3) := by decide +kernel
theorem dc_Wa_drawFrom_89 : decode M_Wa_drawFrom.2.1 89 = .ok (.aload_n 0, 1) := by decide +kernel
theorem dc_Wa_drawFrom_90 : decode M_Wa_drawFrom.2.1 90 = .ok (.iload_n 1, 1) := by decide +kernel
theorem dc_Wa_drawFrom_91 : decode M_Wa_drawFrom.2.1 91 = .ok (.iconst 1, 1) := by decide +kernel
theorem dc_Wa_drawFrom_92 : decode M_Wa_drawFrom.2.1 92 = .ok (.iadd, 1) := by decide +kernel
theorem dc_Wa_drawFrom_93 : decode M_Wa_drawFrom.2.1 93 = .ok (.iload_n 2, 1) := by decide +kernel
theorem dc_Wa_drawFrom_94 : decode M_Wa_drawFrom.2.1 94 = .ok (.iload 5, 2) := by decide +kernel
theorem dc_Wa_drawFrom_96 : decode M_Wa_drawFrom.2.1 96 = .ok (.invokestatic 68, 3) := by decide +kernel
theorem dc_Wa_drawFrom_99 : decode M_Wa_drawFrom.2.1 99 = .ok (.return_, 1) := by decide +kernel
def fb_Wa_drawFrom (R0 : Nat → Int32 → Int32 → Int32 → xH → Option (Unit × xH)) (a0 : Nat) (a1 : Int32) (a2 : Int32) (a3 : Int32) (h : xH) : Option (Unit × xH) := gd (hK h a0 = 9) (if a1 < (hI h a0 2) then gd (hK h (hR h a0 0) = 3) (Option.bind (f_Se_closes (hR h a0 0) a1 (a2 ||| (jShl (1 : Int32) a1)) h) (fun q11 => jn (fun (x13 : xH) => gd (hK x13 a0 = 9) (gd (hK x13 (hR x13 a0 0) = 3) (Option.bind (f_Se_closes (hR x13 a0 0) a1 (a3 ||| (jShl (1 : Int32) a1)) x13) (fun q16 => jn (fun (x18 : xH) => some ((), x18)) (fun k19 => if q16.1 = 0 then Option.bind (R0 a0 (a1 + (1 : Int32)) a2 (a3 ||| (jShl (1 : Int32) a1)) q16.2) (fun q21 => k19 q21.2) else k19 q16.2))))) (fun k14 => if q11.1 = 0 then Option.bind (R0 a0 (a1 + (1 : Int32)) (a2 ||| (jShl (1 : Int32) a1)) a3 q11.2) (fun q23 => k14 q23.2) else k14 q11.2))) else jn (fun (x24 : xH) => some ((), x24)) (fun k25 => jn (fun (x26 : Unit) => k25 (hIu (hIu h a0 3 ((hI h a0 3) + (1 : Int32))) a0 5 a2)) (fun k27 => if (hI (hIu h a0 3 ((hI h a0 3) + (1 : Int32))) a0 5) < 0 then k27 () else if (hI (hIu h a0 3 ((hI h a0 3) + (1 : Int32))) a0 5) ≤ a2 then k25 (hIu h a0 3 ((hI h a0 3) + (1 : Int32))) else k27 ())))
def G_Wa_drawFrom : Nat → Nat → Int32 → Int32 → Int32 → xH → Option (Unit × xH)
  | 0 => fun _ _ _ _ _ => none
  | g + 1 => fun a0 a1 a2 a3 h => fb_Wa_drawFrom (G_Wa_drawFrom g) a0 a1 a2 a3 h
def f_Wa_drawFrom (a0 : Nat) (a1 : Int32) (a2 : Int32) (a3 : Int32) (h : xH) : Option (Unit × xH) := G_Wa_drawFrom 24 a0 a1 a2 a3 h
theorem tb_Wa_drawFrom {l : Launch} {z : xZ} {d mc ms : Nat} {Ph : Option xV → xH → Prop} {R0 : Nat → Int32 → Int32 → Int32 → xH → Option (Unit × xH)} {B : Nat} (hR0 : ∀ {d mc ms : Nat} {Ph : Option xV → xH → Prop} {a0 : Nat} {a1 : Int32} {a2 : Int32} {a3 : Int32} {h : xH}, B ≤ d → OK (R0 a0 a1 a2 a3 h) (fun q => Ph (none) q.2) → Sx l z d mc ms M_Wa_drawFrom 0 (x_en [xR a0, xI a1, xI a2, xI a3] 6) [] h Ph) {a0 : Nat} {a1 : Int32} {a2 : Int32} {a3 : Int32}  {h : xH} (hd : B + 3 ≤ d) (hk : OK (fb_Wa_drawFrom R0 a0 a1 a2 a3 h) (fun q => Ph (none) q.2)) : Sx l z d mc ms M_Wa_drawFrom 0 (x_en [xR a0, xI a1, xI a2, xI a3] 6) [] h Ph := by
  unfold fb_Wa_drawFrom at hk
  refine sx_eq (lc2 := [some (xR a0), some (xI a1), some (xI a2), some (xI a3), none, none]) rfl rfl ?_
  refine sx_iload_n dc_Wa_drawFrom_0 rfl ?_
  refine sx_aload_n dc_Wa_drawFrom_1 rfl ?_
  obtain ⟨g9, hk⟩ := hk.g
  refine sx_get (ci := 9) (k := 2) rfl (by decide) wF_Wa_31 g9 dc_Wa_drawFrom_2 ?_
  refine sx_icmp_lt (tgt := 39) dc_Wa_drawFrom_5 (by decide) (fun c10 => ?_) (fun c10 => ?_)
  · replace hk := hk.t c10
    refine sx_iload_n dc_Wa_drawFrom_39 rfl ?_
    refine sx_iconst (v := (1 : Int32)) dc_Wa_drawFrom_40 (by decide) ?_
    refine sx_iload_n dc_Wa_drawFrom_41 rfl ?_
    refine sx_ishl dc_Wa_drawFrom_42 ?_
    refine sx_ior dc_Wa_drawFrom_43 ?_
    refine sx_istore dc_Wa_drawFrom_44 (by decide) (sx_eq (lc2 := [some (xR a0), some (xI a1), some (xI a2), some (xI a3), some (xI (a2 ||| (jShl (1 : Int32) a1))), none]) rfl rfl ?_)
    refine sx_iload_n dc_Wa_drawFrom_46 rfl ?_
    refine sx_iconst (v := (1 : Int32)) dc_Wa_drawFrom_47 (by decide) ?_
    refine sx_iload_n dc_Wa_drawFrom_48 rfl ?_
    refine sx_ishl dc_Wa_drawFrom_49 ?_
    refine sx_ior dc_Wa_drawFrom_50 ?_
    refine sx_istore dc_Wa_drawFrom_51 (by decide) (sx_eq (lc2 := [some (xR a0), some (xI a1), some (xI a2), some (xI a3), some (xI (a2 ||| (jShl (1 : Int32) a1))), some (xI (a3 ||| (jShl (1 : Int32) a1)))]) rfl rfl ?_)
    refine sx_aload_n dc_Wa_drawFrom_53 rfl ?_
    refine sx_get (ci := 9) (k := 0) rfl (by decide) wF_Wa_9 g9 dc_Wa_drawFrom_54 ?_
    refine sx_iload_n dc_Wa_drawFrom_57 rfl ?_
    refine sx_iload dc_Wa_drawFrom_58 rfl ?_
    obtain ⟨g12, hk⟩ := hk.g
    obtain ⟨q11, eq11, hk⟩ := hk.bind
    refine sx_callV (d2 := d - 1) (mc2 := 0) (ms2 := 0) (as := [xI a1, xI (a2 ||| (jShl (1 : Int32) a1))]) mk_Se_closes rfl (x_rk (ci := 3) g12 rfl rfl) wM_Wa_72 mi_Se_closes me_Se_closes rfl (Nat.le_of_ble_eq_true rfl) (Nat.le_of_ble_eq_true rfl) dc_Wa_drawFrom_60 (by omega) (Nat.zero_le _) (Nat.zero_le _) ?_
    refine t_Se_closes (by omega) ⟨q11, eq11, ?_⟩
    refine sx_eq0 (lc2 := [some (xR a0), some (xI a1), some (xI a2), some (xI a3), some (xI (a2 ||| (jShl (1 : Int32) a1))), some (xI (a3 ||| (jShl (1 : Int32) a1)))]) (st2 := [xI q11.1]) rfl rfl ?_
    refine hk.j (X := fun x13 => Sx l z d mc ms M_Wa_drawFrom 76 [some (xR a0), some (xI a1), some (xI a2), some (xI a3), some (xI (a2 ||| (jShl (1 : Int32) a1))), some (xI (a3 ||| (jShl (1 : Int32) a1)))] [] x13 Ph) (fun x13 hk => ?_) (fun k14 jk14 hk => ?_)
    · refine sx_aload_n dc_Wa_drawFrom_76 rfl ?_
      obtain ⟨g15, hk⟩ := hk.g
      refine sx_get (ci := 9) (k := 0) rfl (by decide) wF_Wa_9 g15 dc_Wa_drawFrom_77 ?_
      refine sx_iload_n dc_Wa_drawFrom_80 rfl ?_
      refine sx_iload dc_Wa_drawFrom_81 rfl ?_
      obtain ⟨g17, hk⟩ := hk.g
      obtain ⟨q16, eq16, hk⟩ := hk.bind
      refine sx_callV (d2 := d - 1) (mc2 := 0) (ms2 := 0) (as := [xI a1, xI (a3 ||| (jShl (1 : Int32) a1))]) mk_Se_closes rfl (x_rk (ci := 3) g17 rfl rfl) wM_Wa_72 mi_Se_closes me_Se_closes rfl (Nat.le_of_ble_eq_true rfl) (Nat.le_of_ble_eq_true rfl) dc_Wa_drawFrom_83 (by omega) (Nat.zero_le _) (Nat.zero_le _) ?_
      refine t_Se_closes (by omega) ⟨q16, eq16, ?_⟩
      refine sx_eq0 (lc2 := [some (xR a0), some (xI a1), some (xI a2), some (xI a3), some (xI (a2 ||| (jShl (1 : Int32) a1))), some (xI (a3 ||| (jShl (1 : Int32) a1)))]) (st2 := [xI q16.1]) rfl rfl ?_
      refine hk.j (X := fun x18 => Sx l z d mc ms M_Wa_drawFrom 99 [some (xR a0), some (xI a1), some (xI a2), some (xI a3), some (xI (a2 ||| (jShl (1 : Int32) a1))), some (xI (a3 ||| (jShl (1 : Int32) a1)))] [] x18 Ph) (fun x18 hk => ?_) (fun k19 jk19 hk => ?_)
      · exact sx_retV dc_Wa_drawFrom_99 rfl hk.val
      · refine sx_if_ne (tgt := 99) dc_Wa_drawFrom_86 (by decide) (fun c20 => ?_) (fun c20 => ?_)
        · replace hk := hk.f c20
          exact jk19 q16.2 hk
        · replace hk := hk.t c20
          refine sx_aload_n dc_Wa_drawFrom_89 rfl ?_
          refine sx_iload_n dc_Wa_drawFrom_90 rfl ?_
          refine sx_iconst (v := (1 : Int32)) dc_Wa_drawFrom_91 (by decide) ?_
          refine sx_iadd dc_Wa_drawFrom_92 ?_
          refine sx_iload_n dc_Wa_drawFrom_93 rfl ?_
          refine sx_iload dc_Wa_drawFrom_94 rfl ?_
          obtain ⟨q21, eq21, hk⟩ := hk.bind
          refine sx_callS (d2 := d - 1) (mc2 := 0) (ms2 := 0) (as := [xR a0, xI (a1 + (1 : Int32)), xI a2, xI (a3 ||| (jShl (1 : Int32) a1))]) mk_Wa_drawFrom rfl wM_Wa_68 mt_Wa_drawFrom rfl (Nat.le_of_ble_eq_true rfl) (Nat.le_of_ble_eq_true rfl) dc_Wa_drawFrom_96 (by omega) (Nat.zero_le _) (Nat.zero_le _) ?_
          refine hR0 (by omega) ⟨q21, eq21, ?_⟩
          refine sx_eq0 (lc2 := [some (xR a0), some (xI a1), some (xI a2), some (xI a3), some (xI (a2 ||| (jShl (1 : Int32) a1))), some (xI (a3 ||| (jShl (1 : Int32) a1)))]) (st2 := []) rfl rfl ?_
          exact jk19 q21.2 hk
    · refine sx_if_ne (tgt := 76) dc_Wa_drawFrom_63 (by decide) (fun c22 => ?_) (fun c22 => ?_)
      · replace hk := hk.f c22
        exact jk14 q11.2 hk
      · replace hk := hk.t c22
        refine sx_aload_n dc_Wa_drawFrom_66 rfl ?_
        refine sx_iload_n dc_Wa_drawFrom_67 rfl ?_
        refine sx_iconst (v := (1 : Int32)) dc_Wa_drawFrom_68 (by decide) ?_
        refine sx_iadd dc_Wa_drawFrom_69 ?_
        refine sx_iload dc_Wa_drawFrom_70 rfl ?_
        refine sx_iload_n dc_Wa_drawFrom_72 rfl ?_
        obtain ⟨q23, eq23, hk⟩ := hk.bind
        refine sx_callS (d2 := d - 1) (mc2 := 0) (ms2 := 0) (as := [xR a0, xI (a1 + (1 : Int32)), xI (a2 ||| (jShl (1 : Int32) a1)), xI a3]) mk_Wa_drawFrom rfl wM_Wa_68 mt_Wa_drawFrom rfl (Nat.le_of_ble_eq_true rfl) (Nat.le_of_ble_eq_true rfl) dc_Wa_drawFrom_73 (by omega) (Nat.zero_le _) (Nat.zero_le _) ?_
        refine hR0 (by omega) ⟨q23, eq23, ?_⟩
        refine sx_eq0 (lc2 := [some (xR a0), some (xI a1), some (xI a2), some (xI a3), some (xI (a2 ||| (jShl (1 : Int32) a1))), some (xI (a3 ||| (jShl (1 : Int32) a1)))]) (st2 := []) rfl rfl ?_
        exact jk14 q23.2 hk
  · replace hk := hk.f c10
    refine sx_aload_n dc_Wa_drawFrom_8 rfl ?_
    refine sx_dup dc_Wa_drawFrom_9 rfl ?_
    refine sx_get (ci := 9) (k := 3) rfl (by decide) wF_Wa_34 g9 dc_Wa_drawFrom_10 ?_
    refine sx_iconst (v := (1 : Int32)) dc_Wa_drawFrom_13 (by decide) ?_
    refine sx_iadd dc_Wa_drawFrom_14 ?_
    refine sx_putI (ci := 9) (k := 3) rfl (by decide) wF_Wa_34 rfl g9 (Or.inl rfl) dc_Wa_drawFrom_15 ?_
    refine sx_aload_n dc_Wa_drawFrom_18 rfl ?_
    refine sx_get (ci := 9) (k := 5) rfl (by decide) wF_Wa_65 g9 dc_Wa_drawFrom_19 ?_
    refine hk.j (X := fun x24 => Sx l z d mc ms M_Wa_drawFrom 38 [some (xR a0), some (xI a1), some (xI a2), some (xI a3), none, none] [] x24 Ph) (fun x24 hk => ?_) (fun k25 jk25 hk => ?_)
    · exact sx_retV dc_Wa_drawFrom_38 rfl hk.val
    · refine hk.j (X := fun x26 => Sx l z d mc ms M_Wa_drawFrom 33 [some (xR a0), some (xI a1), some (xI a2), some (xI a3), none, none] [] (hIu h a0 3 ((hI h a0 3) + (1 : Int32))) Ph) (fun x26 hk => ?_) (fun k27 jk27 hk => ?_)
      · refine sx_aload_n dc_Wa_drawFrom_33 rfl ?_
        refine sx_iload_n dc_Wa_drawFrom_34 rfl ?_
        refine sx_putI (ci := 9) (k := 5) rfl (by decide) wF_Wa_65 rfl g9 (Or.inl rfl) dc_Wa_drawFrom_35 ?_
        exact jk25 (hIu (hIu h a0 3 ((hI h a0 3) + (1 : Int32))) a0 5 a2) hk
      · refine sx_if_lt (tgt := 33) dc_Wa_drawFrom_22 (by decide) (fun c28 => ?_) (fun c28 => ?_)
        · replace hk := hk.t c28
          exact jk27 () hk
        · replace hk := hk.f c28
          refine sx_iload_n dc_Wa_drawFrom_25 rfl ?_
          refine sx_aload_n dc_Wa_drawFrom_26 rfl ?_
          refine sx_get (ci := 9) (k := 5) rfl (by decide) wF_Wa_65 g9 dc_Wa_drawFrom_27 ?_
          refine sx_icmp_ge (tgt := 38) dc_Wa_drawFrom_30 (by decide) (fun c29 => ?_) (fun c29 => ?_)
          · replace hk := hk.t c29
            exact jk25 (hIu h a0 3 ((hI h a0 3) + (1 : Int32))) hk
          · replace hk := hk.f c29
            exact jk27 () hk
theorem tg_Wa_drawFrom {l : Launch} {z : xZ} : ∀ (g : Nat) {d mc ms : Nat} {Ph : Option xV → xH → Prop} {a0 : Nat} {a1 : Int32} {a2 : Int32} {a3 : Int32} {h : xH}, 3 * g ≤ d → OK (G_Wa_drawFrom g a0 a1 a2 a3 h) (fun q => Ph (none) q.2) → Sx l z d mc ms M_Wa_drawFrom 0 (x_en [xR a0, xI a1, xI a2, xI a3] 6) [] h Ph
  | 0 => fun _ hk => hk.no
  | g + 1 => fun hd hk => tb_Wa_drawFrom (R0 := G_Wa_drawFrom g) (B := 3 * g) (fun hd hk => tg_Wa_drawFrom g hd hk) (by omega) hk
theorem t_Wa_drawFrom {l : Launch} {z : xZ} {d mc ms : Nat} {Ph : Option xV → xH → Prop} {a0 : Nat} {a1 : Int32} {a2 : Int32} {a3 : Int32} {h : xH} (hd : 72 ≤ d) (hk : OK (f_Wa_drawFrom a0 a1 a2 a3 h) (fun q => Ph (none) q.2)) : Sx l z d mc ms M_Wa_drawFrom 0 (x_en [xR a0, xI a1, xI a2, xI a3] 6) [] h Ph := tg_Wa_drawFrom 24 (by omega) hk
theorem dc_Wa_drawAll_0 : decode M_Wa_drawAll.2.1 0 = .ok (.aload_n 0, 1) := by decide +kernel
theorem dc_Wa_drawAll_1 : decode M_Wa_drawAll.2.1 1 = .ok (.iload_n 1, 1) := by decide +kernel
theorem dc_Wa_drawAll_2 : decode M_Wa_drawAll.2.1 2 = .ok (.invokestatic 25, 3) := by decide +kernel
theorem dc_Wa_drawAll_5 : decode M_Wa_drawAll.2.1 5 = .ok (.putfield 31, 3) := by decide +kernel
theorem dc_Wa_drawAll_8 : decode M_Wa_drawAll.2.1 8 = .ok (.aload_n 0, 1) := by decide +kernel
theorem dc_Wa_drawAll_9 : decode M_Wa_drawAll.2.1 9 = .ok (.iconst 0, 1) := by decide +kernel
theorem dc_Wa_drawAll_10 : decode M_Wa_drawAll.2.1 10 = .ok (.putfield 34, 3) := by decide +kernel
theorem dc_Wa_drawAll_13 : decode M_Wa_drawAll.2.1 13 = .ok (.aload_n 0, 1) := by decide +kernel
theorem dc_Wa_drawAll_14 : decode M_Wa_drawAll.2.1 14 = .ok (.iconst (-1), 1) := by decide +kernel
theorem dc_Wa_drawAll_15 : decode M_Wa_drawAll.2.1 15 = .ok (.putfield 65, 3) := by decide +kernel
theorem dc_Wa_drawAll_18 : decode M_Wa_drawAll.2.1 18 = .ok (.aload_n 0, 1) := by decide +kernel
theorem dc_Wa_drawAll_19 : decode M_Wa_drawAll.2.1 19 = .ok (.iconst 0, 1) := by decide +kernel
theorem dc_Wa_drawAll_20 : decode M_Wa_drawAll.2.1 20 = .ok (.iconst 0, 1) := by decide +kernel
theorem dc_Wa_drawAll_21 : decode M_Wa_drawAll.2.1 21 = .ok (.iconst 0, 1) := by decide +kernel
theorem dc_Wa_drawAll_22 : decode M_Wa_drawAll.2.1 22 = .ok (.invokestatic 68, 3) := by decide +kernel
theorem dc_Wa_drawAll_25 : decode M_Wa_drawAll.2.1 25 = .ok (.return_, 1) := by decide +kernel
def f_Wa_drawAll (a0 : Nat) (a1 : Int32) (h : xH) : Option (Unit × xH) := Option.bind (f_Se_pairsAmong a1 h) (fun q4 => gd (hK q4.2 a0 = 9) (Option.bind (f_Wa_drawFrom a0 (0 : Int32) (0 : Int32) (0 : Int32) (hIu (hIu (hIu q4.2 a0 2 q4.1) a0 3 (0 : Int32)) a0 5 (-1 : Int32))) (fun q6 => some ((), q6.2))))
theorem t_Wa_drawAll {l : Launch} {z : xZ} {d mc ms : Nat} {Ph : Option xV → xH → Prop} {a0 : Nat} {a1 : Int32}  {h : xH} (hd : 73 ≤ d) (hk : OK (f_Wa_drawAll a0 a1 h) (fun q => Ph (none) q.2)) : Sx l z d mc ms M_Wa_drawAll 0 (x_en [xR a0, xI a1] 2) [] h Ph := by
  unfold f_Wa_drawAll at hk
  refine sx_eq (lc2 := [some (xR a0), some (xI a1)]) rfl rfl ?_
  refine sx_aload_n dc_Wa_drawAll_0 rfl ?_
  refine sx_iload_n dc_Wa_drawAll_1 rfl ?_
  obtain ⟨q4, eq4, hk⟩ := hk.bind
  refine sx_callS (d2 := d - 1) (mc2 := 0) (ms2 := 0) (as := [xI a1]) mk_Se_pairsAmong rfl wM_Wa_25 mt_Se_pairsAmong rfl (Nat.le_of_ble_eq_true rfl) (Nat.le_of_ble_eq_true rfl) dc_Wa_drawAll_2 (by omega) (Nat.zero_le _) (Nat.zero_le _) ?_
  refine t_Se_pairsAmong (by omega) ⟨q4, eq4, ?_⟩
  refine sx_eq0 (lc2 := [some (xR a0), some (xI a1)]) (st2 := [xI q4.1, xR a0]) rfl rfl ?_
  obtain ⟨g5, hk⟩ := hk.g
  refine sx_putI (ci := 9) (k := 2) rfl (by decide) wF_Wa_31 rfl g5 (Or.inl rfl) dc_Wa_drawAll_5 ?_
  refine sx_aload_n dc_Wa_drawAll_8 rfl ?_
  refine sx_iconst (v := (0 : Int32)) dc_Wa_drawAll_9 (by decide) ?_
  refine sx_putI (ci := 9) (k := 3) rfl (by decide) wF_Wa_34 rfl g5 (Or.inl rfl) dc_Wa_drawAll_10 ?_
  refine sx_aload_n dc_Wa_drawAll_13 rfl ?_
  refine sx_iconst (v := (-1 : Int32)) dc_Wa_drawAll_14 (by decide) ?_
  refine sx_putI (ci := 9) (k := 5) rfl (by decide) wF_Wa_65 rfl g5 (Or.inl rfl) dc_Wa_drawAll_15 ?_
  refine sx_aload_n dc_Wa_drawAll_18 rfl ?_
  refine sx_iconst (v := (0 : Int32)) dc_Wa_drawAll_19 (by decide) ?_
  refine sx_iconst (v := (0 : Int32)) dc_Wa_drawAll_20 (by decide) ?_
  refine sx_iconst (v := (0 : Int32)) dc_Wa_drawAll_21 (by decide) ?_
  obtain ⟨q6, eq6, hk⟩ := hk.bind
  refine sx_callS (d2 := d - 1) (mc2 := 0) (ms2 := 0) (as := [xR a0, xI (0 : Int32), xI (0 : Int32), xI (0 : Int32)]) mk_Wa_drawFrom rfl wM_Wa_68 mt_Wa_drawFrom rfl (Nat.le_of_ble_eq_true rfl) (Nat.le_of_ble_eq_true rfl) dc_Wa_drawAll_22 (by omega) (Nat.zero_le _) (Nat.zero_le _) ?_
  refine t_Wa_drawFrom (by omega) ⟨q6, eq6, ?_⟩
  refine sx_eq0 (lc2 := [some (xR a0), some (xI a1)]) (st2 := []) rfl rfl ?_
  exact sx_retV dc_Wa_drawAll_25 rfl hk.val
theorem dc_Ma_keepText_0 : decode M_Ma_keepText.2.1 0 = .ok (.aload_n 0, 1) := by decide +kernel
theorem dc_Ma_keepText_1 : decode M_Ma_keepText.2.1 1 = .ok (.getfield 167, 3) := by decide +kernel
theorem dc_Ma_keepText_4 : decode M_Ma_keepText.2.1 4 = .ok (.bipush 6, 2) := by decide +kernel
theorem dc_Ma_keepText_6 : decode M_Ma_keepText.2.1 6 = .ok (.if_icmp .lt 6, 3) := by decide +kernel
theorem dc_Ma_keepText_9 : decode M_Ma_keepText.2.1 9 = .ok (.bipush (-4), 2) := by decide +kernel
theorem dc_Ma_keepText_11 : decode M_Ma_keepText.2.1 11 = .ok (.ireturn, 1) := by decide +kernel
theorem dc_Ma_keepText_12 : decode M_Ma_keepText.2.1 12 = .ok (.aload_n 0, 1) := by decide +kernel
theorem dc_Ma_keepText_13 : decode M_Ma_keepText.2.1 13 = .ok (.getfield 66, 3) := by decide +kernel
theorem dc_Ma_keepText_16 : decode M_Ma_keepText.2.1 16 = .ok (.aload_n 0, 1) := by decide +kernel
theorem dc_Ma_keepText_17 : decode M_Ma_keepText.2.1 17 = .ok (.getfield 167, 3) := by decide +kernel
theorem dc_Ma_keepText_20 : decode M_Ma_keepText.2.1 20 = .ok (.aload_n 0, 1) := by decide +kernel
theorem dc_Ma_keepText_21 : decode M_Ma_keepText.2.1 21 = .ok (.getfield 60, 3) := by decide +kernel
theorem dc_Ma_keepText_24 : decode M_Ma_keepText.2.1 24 = .ok (.invokevirtual 182, 3) := by decide +kernel
theorem dc_Ma_keepText_27 : decode M_Ma_keepText.2.1 27 = .ok (.aastore, 1) := by decide +kernel
theorem dc_Ma_keepText_28 : decode M_Ma_keepText.2.1 28 = .ok (.aload_n 0, 1) := by decide +kernel
theorem dc_Ma_keepText_29 : decode M_Ma_keepText.2.1 29 = .ok (.dup, 1) := by decide +kernel
theorem dc_Ma_keepText_30 : decode M_Ma_keepText.2.1 30 = .ok (.getfield 167, 3) := by decide +kernel
theorem dc_Ma_keepText_33 : decode M_Ma_keepText.2.1 33 = .ok (.dup_x1, 1) := by decide +kernel
theorem dc_Ma_keepText_34 : decode M_Ma_keepText.2.1 34 = .ok (.iconst 1, 1) := by decide +kernel
theorem dc_Ma_keepText_35 : decode M_Ma_keepText.2.1 35 = .ok (.iadd, 1) := by decide +kernel
theorem dc_Ma_keepText_36 : decode M_Ma_keepText.2.1 36 = .ok (.putfield 167, 3) := by decide +kernel
theorem dc_Ma_keepText_39 : decode M_Ma_keepText.2.1 39 = .ok (.ireturn, 1) := by decide +kernel
def f_Ma_keepText (a0 : Nat) (h : xH) : Option (Int32 × xH) := gd (hK h a0 = 10) (if (hI h a0 11) < (6 : Int32) then gd (hK h (hR h a0 6) = 1) (Option.bind (f_Re_written (hR h a0 6) h) (fun q10 => gd (hK q10.2 (hR h a0 7) = 14) (gd (hK q10.2 q10.1 = 7) (gd (¬ ((hI h a0 11) < 0 ∨ hL q10.2 (hR h a0 7) ≤ (hI h a0 11).toNatClampNeg)) (gd (hK q10.2 a0 = 10) (some (hI q10.2 a0 11, hIu (hRu q10.2 (hR h a0 7) (hI h a0 11).toNatClampNeg q10.1) a0 11 ((hI q10.2 a0 11) + (1 : Int32))))))))) else some ((-4 : Int32), h))
theorem t_Ma_keepText {l : Launch} {z : xZ} {d mc ms : Nat} {Ph : Option xV → xH → Prop} {a0 : Nat}  {h : xH} (hd : 4 ≤ d) (hmc : 3 ≤ mc) (hms : 402 ≤ ms) (hk : OK (f_Ma_keepText a0 h) (fun q => Ph (some (xI q.1)) q.2)) : Sx l z d mc ms M_Ma_keepText 0 (x_en [xR a0] 1) [] h Ph := by
  unfold f_Ma_keepText at hk
  refine sx_eq (lc2 := [some (xR a0)]) rfl rfl ?_
  refine sx_aload_n dc_Ma_keepText_0 rfl ?_
  obtain ⟨g8, hk⟩ := hk.g
  refine sx_get (ci := 10) (k := 11) rfl (by decide) wF_Ma_167 g8 dc_Ma_keepText_1 ?_
  refine sx_bipush (v := (6 : Int32)) dc_Ma_keepText_4 (by decide) ?_
  refine sx_icmp_lt (tgt := 12) dc_Ma_keepText_6 (by decide) (fun c9 => ?_) (fun c9 => ?_)
  · replace hk := hk.t c9
    refine sx_aload_n dc_Ma_keepText_12 rfl ?_
    refine sx_get (ci := 10) (k := 7) rfl (by decide) wF_Ma_66 g8 dc_Ma_keepText_13 ?_
    refine sx_aload_n dc_Ma_keepText_16 rfl ?_
    refine sx_get (ci := 10) (k := 11) rfl (by decide) wF_Ma_167 g8 dc_Ma_keepText_17 ?_
    refine sx_aload_n dc_Ma_keepText_20 rfl ?_
    refine sx_get (ci := 10) (k := 6) rfl (by decide) wF_Ma_60 g8 dc_Ma_keepText_21 ?_
    obtain ⟨g11, hk⟩ := hk.g
    obtain ⟨q10, eq10, hk⟩ := hk.bind
    refine sx_callV (d2 := d - 1) (mc2 := 3) (ms2 := 402) (as := []) mk_Re_written rfl (x_rk (ci := 1) g11 rfl rfl) wM_Ma_182 mi_Re_written me_Re_written rfl (Nat.le_of_ble_eq_true rfl) (Nat.le_of_ble_eq_true rfl) dc_Ma_keepText_24 (by omega) (by omega) (by omega) ?_
    refine t_Re_written (by omega) (by omega) (by omega) ⟨q10, eq10, ?_⟩
    refine sx_eq (lc2 := [some (xR a0)]) (st2 := [xR q10.1, xI (hI h a0 11), xR (hR h a0 7)]) rfl rfl ?_
    obtain ⟨g12, hk⟩ := hk.g
    obtain ⟨g13, hk⟩ := hk.g
    obtain ⟨g14, hk⟩ := hk.g
    refine sx_aast g12 (Or.inl ⟨rfl, rfl⟩) g13 g14 dc_Ma_keepText_27 ?_
    refine sx_aload_n dc_Ma_keepText_28 rfl ?_
    refine sx_dup dc_Ma_keepText_29 rfl ?_
    obtain ⟨g15, hk⟩ := hk.g
    refine sx_get (ci := 10) (k := 11) rfl (by decide) wF_Ma_167 g15 dc_Ma_keepText_30 ?_
    refine sx_dup_x1 dc_Ma_keepText_33 rfl rfl ?_
    refine sx_iconst (v := (1 : Int32)) dc_Ma_keepText_34 (by decide) ?_
    refine sx_iadd dc_Ma_keepText_35 ?_
    refine sx_putI (ci := 10) (k := 11) rfl (by decide) wF_Ma_167 rfl g15 (Or.inl rfl) dc_Ma_keepText_36 ?_
    exact sx_retI dc_Ma_keepText_39 rfl hk.val
  · replace hk := hk.f c9
    refine sx_bipush (v := (-4 : Int32)) dc_Ma_keepText_9 (by decide) ?_
    exact sx_retI dc_Ma_keepText_11 rfl hk.val
theorem dc_Ma_learnFirstText_0 : decode M_Ma_learnFirstText.2.1 0 = .ok (.iconst 0, 1) := by decide +kernel
theorem dc_Ma_learnFirstText_1 : decode M_Ma_learnFirstText.2.1 1 = .ok (.istore_n 1, 1) := by decide +kernel
theorem dc_Ma_learnFirstText_2 : decode M_Ma_learnFirstText.2.1 2 = .ok (.iload_n 1, 1) := by decide +kernel
theorem dc_Ma_learnFirstText_3 : decode M_Ma_learnFirstText.2.1 3 = .ok (.ldc 186, 2) := by decide +kernel
theorem dc_Ma_learnFirstText_5 : decode M_Ma_learnFirstText.2.1 5 = .ok (.invokevirtual 188, 3) := by decide +kernel
theorem dc_Ma_learnFirstText_8 : decode M_Ma_learnFirstText.2.1 8 = .ok (.if_icmp .ge 23, 3) := by decide +kernel
theorem dc_Ma_learnFirstText_11 : decode M_Ma_learnFirstText.2.1 11 = .ok (.aload_n 0, 1) := by decide +kernel
theorem dc_Ma_learnFirstText_12 : decode M_Ma_learnFirstText.2.1 12 = .ok (.getfield 60, 3) := by decide +kernel
theorem dc_Ma_learnFirstText_15 : decode M_Ma_learnFirstText.2.1 15 = .ok (.ldc 186, 2) := by decide +kernel
theorem dc_Ma_learnFirstText_17 : decode M_Ma_learnFirstText.2.1 17 = .ok (.iload_n 1, 1) := by decide +kernel
theorem dc_Ma_learnFirstText_18 : decode M_Ma_learnFirstText.2.1 18 = .ok (.invokevirtual 193, 3) := by decide +kernel
theorem dc_Ma_learnFirstText_21 : decode M_Ma_learnFirstText.2.1 21 = .ok (.invokevirtual 162, 3) := by decide +kernel
theorem dc_Ma_learnFirstText_24 : decode M_Ma_learnFirstText.2.1 24 = .ok (.pop, 1) := by decide +kernel
theorem dc_Ma_learnFirstText_25 : decode M_Ma_learnFirstText.2.1 25 = .ok (.iinc 1 1, 3) := by decide +kernel
theorem dc_Ma_learnFirstText_28 : decode M_Ma_learnFirstText.2.1 28 = .ok (.goto (-26), 3) := by decide +kernel
theorem dc_Ma_learnFirstText_31 : decode M_Ma_learnFirstText.2.1 31 = .ok (.aload_n 0, 1) := by decide +kernel
theorem dc_Ma_learnFirstText_32 : decode M_Ma_learnFirstText.2.1 32 = .ok (.getfield 60, 3) := by decide +kernel
theorem dc_Ma_learnFirstText_35 : decode M_Ma_learnFirstText.2.1 35 = .ok (.invokevirtual 170, 3) := by decide +kernel
theorem dc_Ma_learnFirstText_38 : decode M_Ma_learnFirstText.2.1 38 = .ok (.ifCond .ge 8, 3) := by decide +kernel
theorem dc_Ma_learnFirstText_41 : decode M_Ma_learnFirstText.2.1 41 = .ok (.aload_n 0, 1) := by decide +kernel
theorem dc_Ma_learnFirstText_42 : decode M_Ma_learnFirstText.2.1 42 = .ok (.invokevirtual 176, 3) := by decide +kernel
theorem dc_Ma_learnFirstText_45 : decode M_Ma_learnFirstText.2.1 45 = .ok (.pop, 1) := by decide +kernel
theorem dc_Ma_learnFirstText_46 : decode M_Ma_learnFirstText.2.1 46 = .ok (.aload_n 0, 1) := by decide +kernel
theorem dc_Ma_learnFirstText_47 : decode M_Ma_learnFirstText.2.1 47 = .ok (.getfield 60, 3) := by decide +kernel
theorem dc_Ma_learnFirstText_50 : decode M_Ma_learnFirstText.2.1 50 = .ok (.invokevirtual 173, 3) := by decide +kernel
theorem dc_Ma_learnFirstText_53 : decode M_Ma_learnFirstText.2.1 53 = .ok (.return_, 1) := by decide +kernel
def f_Ma_learnFirstText_L2 (a0 : Nat) : Nat → Int32 → xH → (Int32 → xH → Option (Unit × xH)) → Option (Unit × xH)
  | 0, _, _, _ => none
  | n + 1, a1, h, K => gd (0 < 14) (Option.bind (f_Sg_length 0 h) (fun q16 => if q16.1 ≤ a1 then K a1 q16.2 else gd (hK q16.2 a0 = 10) (gd (0 < 14) (Option.bind (f_Sg_charAt 0 a1 q16.2) (fun q20 => gd (hK q20.2 (hR q16.2 a0 6) = 1) (Option.bind (f_Re_put (hR q16.2 a0 6) q20.1 q20.2) (fun q22 => f_Ma_learnFirstText_L2 a0 n (a1 + (1 : Int32)) q22.2 K)))))))
def f_Ma_learnFirstText (a0 : Nat) (h : xH) : Option (Unit × xH) := f_Ma_learnFirstText_L2 a0 fu (0 : Int32) h (fun v24 h25 => gd (hK h25 a0 = 10) (gd (hK h25 (hR h25 a0 6) = 1) (Option.bind (f_Re_read (hR h25 a0 6) h25) (fun q27 => jn (fun (x29 : xH) => gd (hK x29 a0 = 10) (gd (hK x29 (hR x29 a0 6) = 1) (Option.bind (f_Re_empty (hR x29 a0 6) x29) (fun q32 => some ((), q32.2))))) (fun k30 => if 0 ≤ q27.1 then k30 q27.2 else gd (hK q27.2 a0 = 10) (Option.bind (f_Ma_keepText a0 q27.2) (fun q35 => k30 q35.2)))))))
theorem t_Ma_learnFirstText_L2 {l : Launch} {z : xZ} {d mc ms : Nat} {Ph : Option xV → xH → Prop} {a0 : Nat}  (hd : 5 ≤ d) : ∀ (n : Nat) (a1 : Int32) (h : xH) (K : Int32 → xH → Option (Unit × xH)), OK (f_Ma_learnFirstText_L2 a0 n a1 h K) (fun q => Ph (none) q.2) → (∀ (a1 : Int32) (h : xH), OK (K a1 h) (fun q => Ph (none) q.2) → Sx l z d mc ms M_Ma_learnFirstText 31 [some (xR a0), some (xI a1)] [] h Ph) → Sx l z d mc ms M_Ma_learnFirstText 2 [some (xR a0), some (xI a1)] [] h Ph := by
  intro n
  induction n with
  | zero => intro a1 h K hk hE; exact hk.no
  | succ n ih =>
    intro a1 h K hk hE
    rw [f_Ma_learnFirstText_L2] at hk
    refine sx_iload_n dc_Ma_learnFirstText_2 rfl ?_
    refine sx_ldcS (i := 0) rfl (by decide) dc_Ma_learnFirstText_3 ?_
    obtain ⟨g17, hk⟩ := hk.g
    obtain ⟨q16, eq16, hk⟩ := hk.bind
    refine sx_callX (d2 := d - 1) (mc2 := 0) (ms2 := 0) (as := []) mk_Sg_length rfl g17 rfl wM_Ma_188 mi_Sg_length me_Sg_length rfl (Nat.le_of_ble_eq_true rfl) (Nat.le_of_ble_eq_true rfl) dc_Ma_learnFirstText_5 (by omega) (Nat.zero_le _) (Nat.zero_le _) ?_
    refine t_Sg_length (by omega) ⟨q16, eq16, ?_⟩
    refine sx_eq0 (lc2 := [some (xR a0), some (xI a1)]) (st2 := [xI q16.1, xI a1]) rfl rfl ?_
    refine sx_icmp_ge (tgt := 31) dc_Ma_learnFirstText_8 (by decide) (fun c18 => ?_) (fun c18 => ?_)
    · replace hk := hk.t c18
      exact hE a1 q16.2 hk
    · replace hk := hk.f c18
      refine sx_aload_n dc_Ma_learnFirstText_11 rfl ?_
      obtain ⟨g19, hk⟩ := hk.g
      refine sx_get (ci := 10) (k := 6) rfl (by decide) wF_Ma_60 g19 dc_Ma_learnFirstText_12 ?_
      refine sx_ldcS (i := 0) rfl (by decide) dc_Ma_learnFirstText_15 ?_
      refine sx_iload_n dc_Ma_learnFirstText_17 rfl ?_
      obtain ⟨g21, hk⟩ := hk.g
      obtain ⟨q20, eq20, hk⟩ := hk.bind
      refine sx_callX (d2 := d - 1) (mc2 := 0) (ms2 := 0) (as := [xI a1]) mk_Sg_charAt rfl g21 rfl wM_Ma_193 mi_Sg_charAt me_Sg_charAt rfl (Nat.le_of_ble_eq_true rfl) (Nat.le_of_ble_eq_true rfl) dc_Ma_learnFirstText_18 (by omega) (Nat.zero_le _) (Nat.zero_le _) ?_
      refine t_Sg_charAt (by omega) ⟨q20, eq20, ?_⟩
      refine sx_eq0 (lc2 := [some (xR a0), some (xI a1)]) (st2 := [xI q20.1, xR (hR q16.2 a0 6)]) rfl rfl ?_
      obtain ⟨g23, hk⟩ := hk.g
      obtain ⟨q22, eq22, hk⟩ := hk.bind
      refine sx_callV (d2 := d - 1) (mc2 := 0) (ms2 := 0) (as := [xI q20.1]) mk_Re_put rfl (x_rk (ci := 1) g23 rfl rfl) wM_Ma_162 mi_Re_put me_Re_put rfl (Nat.le_of_ble_eq_true rfl) (Nat.le_of_ble_eq_true rfl) dc_Ma_learnFirstText_21 (by omega) (Nat.zero_le _) (Nat.zero_le _) ?_
      refine t_Re_put (by omega) ⟨q22, eq22, ?_⟩
      refine sx_eq0 (lc2 := [some (xR a0), some (xI a1)]) (st2 := [xI q22.1]) rfl rfl ?_
      refine sx_pop dc_Ma_learnFirstText_24 rfl ?_
      refine sx_iinc (v := (1 : Int32)) dc_Ma_learnFirstText_25 rfl (by decide) (by decide) (sx_eq (lc2 := [some (xR a0), some (xI (a1 + (1 : Int32)))]) rfl rfl ?_)
      refine sx_goto (tgt := 2) dc_Ma_learnFirstText_28 (by decide) ?_
      exact ih (a1 + (1 : Int32)) q22.2 _ hk hE
theorem t_Ma_learnFirstText {l : Launch} {z : xZ} {d mc ms : Nat} {Ph : Option xV → xH → Prop} {a0 : Nat}  {h : xH} (hd : 386 ≤ d) (hmc : 3 ≤ mc) (hms : 402 ≤ ms) (hk : OK (f_Ma_learnFirstText a0 h) (fun q => Ph (none) q.2)) : Sx l z d mc ms M_Ma_learnFirstText 0 (x_en [xR a0] 2) [] h Ph := by
  unfold f_Ma_learnFirstText at hk
  refine sx_eq (lc2 := [some (xR a0), none]) rfl rfl ?_
  refine sx_iconst (v := (0 : Int32)) dc_Ma_learnFirstText_0 (by decide) ?_
  refine sx_istore_n dc_Ma_learnFirstText_1 (by decide) (sx_eq (lc2 := [some (xR a0), some (xI (0 : Int32))]) rfl rfl ?_)
  refine t_Ma_learnFirstText_L2 (by omega) _ _ _ _ hk (fun v24 h25 hk => ?_)
  refine sx_aload_n dc_Ma_learnFirstText_31 rfl ?_
  obtain ⟨g26, hk⟩ := hk.g
  refine sx_get (ci := 10) (k := 6) rfl (by decide) wF_Ma_60 g26 dc_Ma_learnFirstText_32 ?_
  obtain ⟨g28, hk⟩ := hk.g
  obtain ⟨q27, eq27, hk⟩ := hk.bind
  refine sx_callV (d2 := d - 1) (mc2 := 0) (ms2 := 0) (as := []) mk_Re_read rfl (x_rk (ci := 1) g28 rfl rfl) wM_Ma_170 mi_Re_read me_Re_read rfl (Nat.le_of_ble_eq_true rfl) (Nat.le_of_ble_eq_true rfl) dc_Ma_learnFirstText_35 (by omega) (Nat.zero_le _) (Nat.zero_le _) ?_
  refine t_Re_read (by omega) ⟨q27, eq27, ?_⟩
  refine sx_eq0 (lc2 := [some (xR a0), some (xI v24)]) (st2 := [xI q27.1]) rfl rfl ?_
  refine hk.j (X := fun x29 => ∀ (mc ms : Nat), 0 ≤ mc → 0 ≤ ms → Sx l z d mc ms M_Ma_learnFirstText 46 [some (xR a0), some (xI v24)] [] x29 Ph) (fun x29 hk mc ms hmc hms => ?_) (fun k30 jk30 hk => ?_)
  · refine sx_aload_n dc_Ma_learnFirstText_46 rfl ?_
    obtain ⟨g31, hk⟩ := hk.g
    refine sx_get (ci := 10) (k := 6) rfl (by decide) wF_Ma_60 g31 dc_Ma_learnFirstText_47 ?_
    obtain ⟨g33, hk⟩ := hk.g
    obtain ⟨q32, eq32, hk⟩ := hk.bind
    refine sx_callV (d2 := d - 1) (mc2 := 0) (ms2 := 0) (as := []) mk_Re_empty rfl (x_rk (ci := 1) g33 rfl rfl) wM_Ma_173 mi_Re_empty me_Re_empty rfl (Nat.le_of_ble_eq_true rfl) (Nat.le_of_ble_eq_true rfl) dc_Ma_learnFirstText_50 (by omega) (Nat.zero_le _) (Nat.zero_le _) ?_
    refine t_Re_empty (by omega) ⟨q32, eq32, ?_⟩
    refine sx_eq0 (lc2 := [some (xR a0), some (xI v24)]) (st2 := []) rfl rfl ?_
    exact sx_retV dc_Ma_learnFirstText_53 rfl hk.val
  · refine sx_if_ge (tgt := 46) dc_Ma_learnFirstText_38 (by decide) (fun c34 => ?_) (fun c34 => ?_)
    · replace hk := hk.t c34
      exact jk30 q27.2 hk _ _ (by omega) (by omega)
    · replace hk := hk.f c34
      refine sx_aload_n dc_Ma_learnFirstText_41 rfl ?_
      obtain ⟨g36, hk⟩ := hk.g
      obtain ⟨q35, eq35, hk⟩ := hk.bind
      refine sx_callV (d2 := d - 1) (mc2 := 3) (ms2 := 402) (as := []) mk_Ma_keepText rfl (x_rk (ci := 10) g36 rfl rfl) wM_Ma_176 mi_Ma_keepText me_Ma_keepText rfl (Nat.le_of_ble_eq_true rfl) (Nat.le_of_ble_eq_true rfl) dc_Ma_learnFirstText_42 (by omega) (by omega) (by omega) ?_
      refine t_Ma_keepText (by omega) (by omega) (by omega) ⟨q35, eq35, ?_⟩
      refine sx_eq (lc2 := [some (xR a0), some (xI v24)]) (st2 := [xI q35.1]) rfl rfl ?_
      refine sx_pop dc_Ma_learnFirstText_45 rfl ?_
      exact jk30 q35.2 hk _ _ (by omega) (by omega)
theorem dc_Ma_useText_0 : decode M_Ma_useText.2.1 0 = .ok (.iload_n 1, 1) := by decide +kernel
theorem dc_Ma_useText_1 : decode M_Ma_useText.2.1 1 = .ok (.ifCond .lt 9, 3) := by decide +kernel
theorem dc_Ma_useText_4 : decode M_Ma_useText.2.1 4 = .ok (.iload_n 1, 1) := by decide +kernel
theorem dc_Ma_useText_5 : decode M_Ma_useText.2.1 5 = .ok (.bipush 6, 2) := by decide +kernel
theorem dc_Ma_useText_7 : decode M_Ma_useText.2.1 7 = .ok (.if_icmp .lt 4, 3) := by decide +kernel
theorem dc_Ma_useText_10 : decode M_Ma_useText.2.1 10 = .ok (.return_, 1) := by decide +kernel
theorem dc_Ma_useText_11 : decode M_Ma_useText.2.1 11 = .ok (.aload_n 0, 1) := by decide +kernel
theorem dc_Ma_useText_12 : decode M_Ma_useText.2.1 12 = .ok (.iload_n 1, 1) := by decide +kernel
theorem dc_Ma_useText_13 : decode M_Ma_useText.2.1 13 = .ok (.putfield 179, 3) := by decide +kernel
theorem dc_Ma_useText_16 : decode M_Ma_useText.2.1 16 = .ok (.aload_n 0, 1) := by decide +kernel
theorem dc_Ma_useText_17 : decode M_Ma_useText.2.1 17 = .ok (.getfield 30, 3) := by decide +kernel
theorem dc_Ma_useText_20 : decode M_Ma_useText.2.1 20 = .ok (.aload_n 0, 1) := by decide +kernel
theorem dc_Ma_useText_21 : decode M_Ma_useText.2.1 21 = .ok (.getfield 66, 3) := by decide +kernel
theorem dc_Ma_useText_24 : decode M_Ma_useText.2.1 24 = .ok (.iload_n 1, 1) := by decide +kernel
theorem dc_Ma_useText_25 : decode M_Ma_useText.2.1 25 = .ok (.aaload, 1) := by decide +kernel
theorem dc_Ma_useText_26 : decode M_Ma_useText.2.1 26 = .ok (.invokevirtual 197, 3) := by decide +kernel
theorem dc_Ma_useText_29 : decode M_Ma_useText.2.1 29 = .ok (.aload_n 0, 1) := by decide +kernel
theorem dc_Ma_useText_30 : decode M_Ma_useText.2.1 30 = .ok (.getfield 37, 3) := by decide +kernel
theorem dc_Ma_useText_33 : decode M_Ma_useText.2.1 33 = .ok (.aload_n 0, 1) := by decide +kernel
theorem dc_Ma_useText_34 : decode M_Ma_useText.2.1 34 = .ok (.getfield 30, 3) := by decide +kernel
theorem dc_Ma_useText_37 : decode M_Ma_useText.2.1 37 = .ok (.aload_n 0, 1) := by decide +kernel
theorem dc_Ma_useText_38 : decode M_Ma_useText.2.1 38 = .ok (.getfield 21, 3) := by decide +kernel
theorem dc_Ma_useText_41 : decode M_Ma_useText.2.1 41 = .ok (.getfield 100, 3) := by decide +kernel
theorem dc_Ma_useText_44 : decode M_Ma_useText.2.1 44 = .ok (.invokevirtual 103, 3) := by decide +kernel
theorem dc_Ma_useText_47 : decode M_Ma_useText.2.1 47 = .ok (.return_, 1) := by decide +kernel
def f_Ma_useText (a0 : Nat) (a1 : Int32) (h : xH) : Option (Unit × xH) := jn (fun (x10 : Unit) => some ((), h)) (fun k11 => if a1 < 0 then k11 () else if a1 < (6 : Int32) then gd (hK h a0 = 10) (gd (hK h (hR h a0 7) = 14) (gd (¬ (a1 < 0 ∨ hL h (hR h a0 7) ≤ a1.toNatClampNeg)) (gd (hK h (hR h a0 2) = 2) (Option.bind (f_Ru_follow (hR h a0 2) (hR h (hR h a0 7) a1.toNatClampNeg) (hIu h a0 13 a1)) (fun q17 => gd (hK q17.2 a0 = 10) (gd (hK q17.2 (hR q17.2 a0 1) = 6) (gd (hK q17.2 (hR q17.2 a0 3) = 5) (Option.bind (f_St_weigh (hR q17.2 a0 3) (hR q17.2 a0 2) (hI q17.2 (hR q17.2 a0 1) 1) q17.2) (fun q21 => some ((), q21.2)))))))))) else k11 ())
theorem t_Ma_useText {l : Launch} {z : xZ} {d mc ms : Nat} {Ph : Option xV → xH → Prop} {a0 : Nat} {a1 : Int32}  {h : xH} (hd : 7 ≤ d) (hk : OK (f_Ma_useText a0 a1 h) (fun q => Ph (none) q.2)) : Sx l z d mc ms M_Ma_useText 0 (x_en [xR a0, xI a1] 2) [] h Ph := by
  unfold f_Ma_useText at hk
  refine sx_eq (lc2 := [some (xR a0), some (xI a1)]) rfl rfl ?_
  refine sx_iload_n dc_Ma_useText_0 rfl ?_
  refine hk.j (X := fun x10 => Sx l z d mc ms M_Ma_useText 10 [some (xR a0), some (xI a1)] [] h Ph) (fun x10 hk => ?_) (fun k11 jk11 hk => ?_)
  · exact sx_retV dc_Ma_useText_10 rfl hk.val
  · refine sx_if_lt (tgt := 10) dc_Ma_useText_1 (by decide) (fun c12 => ?_) (fun c12 => ?_)
    · replace hk := hk.t c12
      exact jk11 () hk
    · replace hk := hk.f c12
      refine sx_iload_n dc_Ma_useText_4 rfl ?_
      refine sx_bipush (v := (6 : Int32)) dc_Ma_useText_5 (by decide) ?_
      refine sx_icmp_lt (tgt := 11) dc_Ma_useText_7 (by decide) (fun c13 => ?_) (fun c13 => ?_)
      · replace hk := hk.t c13
        refine sx_aload_n dc_Ma_useText_11 rfl ?_
        refine sx_iload_n dc_Ma_useText_12 rfl ?_
        obtain ⟨g14, hk⟩ := hk.g
        refine sx_putI (ci := 10) (k := 13) rfl (by decide) wF_Ma_179 rfl g14 (Or.inl rfl) dc_Ma_useText_13 ?_
        refine sx_aload_n dc_Ma_useText_16 rfl ?_
        refine sx_get (ci := 10) (k := 2) rfl (by decide) wF_Ma_30 g14 dc_Ma_useText_17 ?_
        refine sx_aload_n dc_Ma_useText_20 rfl ?_
        refine sx_get (ci := 10) (k := 7) rfl (by decide) wF_Ma_66 g14 dc_Ma_useText_21 ?_
        refine sx_iload_n dc_Ma_useText_24 rfl ?_
        obtain ⟨g15, hk⟩ := hk.g
        obtain ⟨g16, hk⟩ := hk.g
        refine sx_aald g15 (by decide) g16 dc_Ma_useText_25 ?_
        obtain ⟨g18, hk⟩ := hk.g
        obtain ⟨q17, eq17, hk⟩ := hk.bind
        refine sx_callV (d2 := d - 1) (mc2 := 0) (ms2 := 0) (as := [xR (hR h (hR h a0 7) a1.toNatClampNeg)]) mk_Ru_follow rfl (x_rk (ci := 2) g18 rfl rfl) wM_Ma_197 mi_Ru_follow me_Ru_follow rfl (Nat.le_of_ble_eq_true rfl) (Nat.le_of_ble_eq_true rfl) dc_Ma_useText_26 (by omega) (Nat.zero_le _) (Nat.zero_le _) ?_
        refine t_Ru_follow (by omega) ⟨q17, eq17, ?_⟩
        refine sx_eq0 (lc2 := [some (xR a0), some (xI a1)]) (st2 := []) rfl rfl ?_
        refine sx_aload_n dc_Ma_useText_29 rfl ?_
        obtain ⟨g19, hk⟩ := hk.g
        refine sx_get (ci := 10) (k := 3) rfl (by decide) wF_Ma_37 g19 dc_Ma_useText_30 ?_
        refine sx_aload_n dc_Ma_useText_33 rfl ?_
        refine sx_get (ci := 10) (k := 2) rfl (by decide) wF_Ma_30 g19 dc_Ma_useText_34 ?_
        refine sx_aload_n dc_Ma_useText_37 rfl ?_
        refine sx_get (ci := 10) (k := 1) rfl (by decide) wF_Ma_21 g19 dc_Ma_useText_38 ?_
        obtain ⟨g20, hk⟩ := hk.g
        refine sx_get (ci := 6) (k := 1) rfl (by decide) wF_Ma_100 g20 dc_Ma_useText_41 ?_
        obtain ⟨g22, hk⟩ := hk.g
        obtain ⟨q21, eq21, hk⟩ := hk.bind
        refine sx_callV (d2 := d - 1) (mc2 := 0) (ms2 := 0) (as := [xR (hR q17.2 a0 2), xI (hI q17.2 (hR q17.2 a0 1) 1)]) mk_St_weigh rfl (x_rk (ci := 5) g22 rfl rfl) wM_Ma_103 mi_St_weigh me_St_weigh rfl (Nat.le_of_ble_eq_true rfl) (Nat.le_of_ble_eq_true rfl) dc_Ma_useText_44 (by omega) (Nat.zero_le _) (Nat.zero_le _) ?_
        refine t_St_weigh (by omega) ⟨q21, eq21, ?_⟩
        refine sx_eq0 (lc2 := [some (xR a0), some (xI a1)]) (st2 := []) rfl rfl ?_
        exact sx_retV dc_Ma_useText_47 rfl hk.val
      · replace hk := hk.f c13
        exact jk11 () hk
theorem dc_Ma_init_0 : decode M_Ma_init.2.1 0 = .ok (.aload_n 0, 1) := by decide +kernel
theorem dc_Ma_init_1 : decode M_Ma_init.2.1 1 = .ok (.invokespecial 1, 3) := by decide +kernel
theorem dc_Ma_init_4 : decode M_Ma_init.2.1 4 = .ok (.aload_n 0, 1) := by decide +kernel
theorem dc_Ma_init_5 : decode M_Ma_init.2.1 5 = .ok (.new 7, 3) := by decide +kernel
theorem dc_Ma_init_8 : decode M_Ma_init.2.1 8 = .ok (.dup, 1) := by decide +kernel
theorem dc_Ma_init_9 : decode M_Ma_init.2.1 9 = .ok (.invokespecial 9, 3) := by decide +kernel
theorem dc_Ma_init_12 : decode M_Ma_init.2.1 12 = .ok (.putfield 10, 3) := by decide +kernel
theorem dc_Ma_init_15 : decode M_Ma_init.2.1 15 = .ok (.aload_n 0, 1) := by decide +kernel
theorem dc_Ma_init_16 : decode M_Ma_init.2.1 16 = .ok (.new 16, 3) := by decide +kernel
theorem dc_Ma_init_19 : decode M_Ma_init.2.1 19 = .ok (.dup, 1) := by decide +kernel
theorem dc_Ma_init_20 : decode M_Ma_init.2.1 20 = .ok (.aload_n 0, 1) := by decide +kernel
theorem dc_Ma_init_21 : decode M_Ma_init.2.1 21 = .ok (.getfield 10, 3) := by decide +kernel
theorem dc_Ma_init_24 : decode M_Ma_init.2.1 24 = .ok (.invokespecial 18, 3) := by decide +kernel
theorem dc_Ma_init_27 : decode M_Ma_init.2.1 27 = .ok (.putfield 21, 3) := by decide +kernel
theorem dc_Ma_init_30 : decode M_Ma_init.2.1 30 = .ok (.aload_n 0, 1) := by decide +kernel
theorem dc_Ma_init_31 : decode M_Ma_init.2.1 31 = .ok (.new 25, 3) := by decide +kernel
theorem dc_Ma_init_34 : decode M_Ma_init.2.1 34 = .ok (.dup, 1) := by decide +kernel
theorem dc_Ma_init_35 : decode M_Ma_init.2.1 35 = .ok (.aload_n 0, 1) := by decide +kernel
theorem dc_Ma_init_36 : decode M_Ma_init.2.1 36 = .ok (.getfield 10, 3) := by decide +kernel
theorem dc_Ma_init_39 : decode M_Ma_init.2.1 39 = .ok (.aload_n 0, 1) := by decide +kernel
theorem dc_Ma_init_40 : decode M_Ma_init.2.1 40 = .ok (.getfield 21, 3) := by decide +kernel
theorem dc_Ma_init_43 : decode M_Ma_init.2.1 43 = .ok (.invokespecial 27, 3) := by decide +kernel
theorem dc_Ma_init_46 : decode M_Ma_init.2.1 46 = .ok (.putfield 30, 3) := by decide +kernel
theorem dc_Ma_init_49 : decode M_Ma_init.2.1 49 = .ok (.aload_n 0, 1) := by decide +kernel
theorem dc_Ma_init_50 : decode M_Ma_init.2.1 50 = .ok (.new 34, 3) := by decide +kernel
theorem dc_Ma_init_53 : decode M_Ma_init.2.1 53 = .ok (.dup, 1) := by decide +kernel
theorem dc_Ma_init_54 : decode M_Ma_init.2.1 54 = .ok (.aload_n 0, 1) := by decide +kernel
theorem dc_Ma_init_55 : decode M_Ma_init.2.1 55 = .ok (.getfield 10, 3) := by decide +kernel
theorem dc_Ma_init_58 : decode M_Ma_init.2.1 58 = .ok (.invokespecial 36, 3) := by decide +kernel
theorem dc_Ma_init_61 : decode M_Ma_init.2.1 61 = .ok (.putfield 37, 3) := by decide +kernel
theorem dc_Ma_init_64 : decode M_Ma_init.2.1 64 = .ok (.aload_n 0, 1) := by decide +kernel
theorem dc_Ma_init_65 : decode M_Ma_init.2.1 65 = .ok (.new 41, 3) := by decide +kernel
theorem dc_Ma_init_68 : decode M_Ma_init.2.1 68 = .ok (.dup, 1) := by decide +kernel
theorem dc_Ma_init_69 : decode M_Ma_init.2.1 69 = .ok (.aload_n 0, 1) := by decide +kernel
theorem dc_Ma_init_70 : decode M_Ma_init.2.1 70 = .ok (.getfield 10, 3) := by decide +kernel
theorem dc_Ma_init_73 : decode M_Ma_init.2.1 73 = .ok (.aload_n 0, 1) := by decide +kernel
theorem dc_Ma_init_74 : decode M_Ma_init.2.1 74 = .ok (.getfield 37, 3) := by decide +kernel
theorem dc_Ma_init_77 : decode M_Ma_init.2.1 77 = .ok (.invokespecial 43, 3) := by decide +kernel
theorem dc_Ma_init_80 : decode M_Ma_init.2.1 80 = .ok (.putfield 46, 3) := by decide +kernel
theorem dc_Ma_init_83 : decode M_Ma_init.2.1 83 = .ok (.aload_n 0, 1) := by decide +kernel
theorem dc_Ma_init_84 : decode M_Ma_init.2.1 84 = .ok (.new 50, 3) := by decide +kernel
theorem dc_Ma_init_87 : decode M_Ma_init.2.1 87 = .ok (.dup, 1) := by decide +kernel
theorem dc_Ma_init_88 : decode M_Ma_init.2.1 88 = .ok (.aload_n 0, 1) := by decide +kernel
theorem dc_Ma_init_89 : decode M_Ma_init.2.1 89 = .ok (.getfield 10, 3) := by decide +kernel
theorem dc_Ma_init_92 : decode M_Ma_init.2.1 92 = .ok (.aload_n 0, 1) := by decide +kernel
theorem dc_Ma_init_93 : decode M_Ma_init.2.1 93 = .ok (.getfield 37, 3) := by decide +kernel
theorem dc_Ma_init_96 : decode M_Ma_init.2.1 96 = .ok (.invokespecial 52, 3) := by decide +kernel
theorem dc_Ma_init_99 : decode M_Ma_init.2.1 99 = .ok (.putfield 53, 3) := by decide +kernel
theorem dc_Ma_init_102 : decode M_Ma_init.2.1 102 = .ok (.aload_n 0, 1) := by decide +kernel
theorem dc_Ma_init_103 : decode M_Ma_init.2.1 103 = .ok (.new 57, 3) := by decide +kernel
theorem dc_Ma_init_106 : decode M_Ma_init.2.1 106 = .ok (.dup, 1) := by decide +kernel
theorem dc_Ma_init_107 : decode M_Ma_init.2.1 107 = .ok (.invokespecial 59, 3) := by decide +kernel
theorem dc_Ma_init_110 : decode M_Ma_init.2.1 110 = .ok (.putfield 60, 3) := by decide +kernel
theorem dc_Ma_init_113 : decode M_Ma_init.2.1 113 = .ok (.aload_n 0, 1) := by decide +kernel
theorem dc_Ma_init_114 : decode M_Ma_init.2.1 114 = .ok (.bipush 6, 2) := by decide +kernel
theorem dc_Ma_init_116 : decode M_Ma_init.2.1 116 = .ok (.anewarray 64, 3) := by decide +kernel
theorem dc_Ma_init_119 : decode M_Ma_init.2.1 119 = .ok (.putfield 66, 3) := by decide +kernel
theorem dc_Ma_init_122 : decode M_Ma_init.2.1 122 = .ok (.aload_n 0, 1) := by decide +kernel
theorem dc_Ma_init_123 : decode M_Ma_init.2.1 123 = .ok (.iconst 5, 1) := by decide +kernel
theorem dc_Ma_init_124 : decode M_Ma_init.2.1 124 = .ok (.anewarray 70, 3) := by decide +kernel
theorem dc_Ma_init_127 : decode M_Ma_init.2.1 127 = .ok (.putfield 72, 3) := by decide +kernel
theorem dc_Ma_init_130 : decode M_Ma_init.2.1 130 = .ok (.aload_n 0, 1) := by decide +kernel
theorem dc_Ma_init_131 : decode M_Ma_init.2.1 131 = .ok (.iconst 4, 1) := by decide +kernel
theorem dc_Ma_init_132 : decode M_Ma_init.2.1 132 = .ok (.anewarray 76, 3) := by decide +kernel
theorem dc_Ma_init_135 : decode M_Ma_init.2.1 135 = .ok (.putfield 78, 3) := by decide +kernel
theorem dc_Ma_init_138 : decode M_Ma_init.2.1 138 = .ok (.iconst 0, 1) := by decide +kernel
theorem dc_Ma_init_139 : decode M_Ma_init.2.1 139 = .ok (.istore_n 1, 1) := by decide +kernel
theorem dc_Ma_init_140 : decode M_Ma_init.2.1 140 = .ok (.iload_n 1, 1) := by decide +kernel
theorem dc_Ma_init_141 : decode M_Ma_init.2.1 141 = .ok (.iconst 4, 1) := by decide +kernel
theorem dc_Ma_init_142 : decode M_Ma_init.2.1 142 = .ok (.if_icmp .ge 22, 3) := by decide +kernel
theorem dc_Ma_init_145 : decode M_Ma_init.2.1 145 = .ok (.aload_n 0, 1) := by decide +kernel
theorem dc_Ma_init_146 : decode M_Ma_init.2.1 146 = .ok (.getfield 78, 3) := by decide +kernel
theorem dc_Ma_init_149 : decode M_Ma_init.2.1 149 = .ok (.iload_n 1, 1) := by decide +kernel
theorem dc_Ma_init_150 : decode M_Ma_init.2.1 150 = .ok (.new 76, 3) := by decide +kernel
theorem dc_Ma_init_153 : decode M_Ma_init.2.1 153 = .ok (.dup, 1) := by decide +kernel
theorem dc_Ma_init_154 : decode M_Ma_init.2.1 154 = .ok (.invokespecial 82, 3) := by decide +kernel
theorem dc_Ma_init_157 : decode M_Ma_init.2.1 157 = .ok (.aastore, 1) := by decide +kernel
theorem dc_Ma_init_158 : decode M_Ma_init.2.1 158 = .ok (.iinc 1 1, 3) := by decide +kernel
theorem dc_Ma_init_161 : decode M_Ma_init.2.1 161 = .ok (.goto (-21), 3) := by decide +kernel
theorem dc_Ma_init_164 : decode M_Ma_init.2.1 164 = .ok (.aload_n 0, 1) := by decide +kernel
theorem dc_Ma_init_165 : decode M_Ma_init.2.1 165 = .ok (.new 16, 3) := by decide +kernel
theorem dc_Ma_init_168 : decode M_Ma_init.2.1 168 = .ok (.dup, 1) := by decide +kernel
theorem dc_Ma_init_169 : decode M_Ma_init.2.1 169 = .ok (.aload_n 0, 1) := by decide +kernel
theorem dc_Ma_init_170 : decode M_Ma_init.2.1 170 = .ok (.getfield 10, 3) := by decide +kernel
theorem dc_Ma_init_173 : decode M_Ma_init.2.1 173 = .ok (.invokespecial 18, 3) := by decide +kernel
theorem dc_Ma_init_176 : decode M_Ma_init.2.1 176 = .ok (.putfield 83, 3) := by decide +kernel
theorem dc_Ma_init_179 : decode M_Ma_init.2.1 179 = .ok (.aload_n 0, 1) := by decide +kernel
theorem dc_Ma_init_180 : decode M_Ma_init.2.1 180 = .ok (.iconst (-1), 1) := by decide +kernel
theorem dc_Ma_init_181 : decode M_Ma_init.2.1 181 = .ok (.putfield 86, 3) := by decide +kernel
theorem dc_Ma_init_184 : decode M_Ma_init.2.1 184 = .ok (.aload_n 0, 1) := by decide +kernel
theorem dc_Ma_init_185 : decode M_Ma_init.2.1 185 = .ok (.invokevirtual 90, 3) := by decide +kernel
theorem dc_Ma_init_188 : decode M_Ma_init.2.1 188 = .ok (.aload_n 0, 1) := by decide +kernel
theorem dc_Ma_init_189 : decode M_Ma_init.2.1 189 = .ok (.getfield 21, 3) := by decide +kernel
theorem dc_Ma_init_192 : decode M_Ma_init.2.1 192 = .ok (.bipush 6, 2) := by decide +kernel
theorem dc_Ma_init_194 : decode M_Ma_init.2.1 194 = .ok (.invokevirtual 93, 3) := by decide +kernel
theorem dc_Ma_init_197 : decode M_Ma_init.2.1 197 = .ok (.aload_n 0, 1) := by decide +kernel
theorem dc_Ma_init_198 : decode M_Ma_init.2.1 198 = .ok (.iconst 0, 1) := by decide +kernel
theorem dc_Ma_init_199 : decode M_Ma_init.2.1 199 = .ok (.invokevirtual 97, 3) := by decide +kernel
theorem dc_Ma_init_202 : decode M_Ma_init.2.1 202 = .ok (.return_, 1) := by decide +kernel
def f_Ma_init (a0 : Nat) (h : xH) : Option (Unit × xH) := gd (hK h a0 = 10) (hp (hNw h 3 0) (fun h38 => Option.bind (f_Se_init (hN h) h38) (fun q40 => gd (hK q40.2 a0 = 10) (hp (hNw (hRu q40.2 a0 0 (hN h)) 6 0) (fun h42 => gd (hK h42 a0 = 10) (Option.bind (f_Ta_init (hN (hRu q40.2 a0 0 (hN h))) (hR h42 a0 0) h42) (fun q45 => gd (hK q45.2 a0 = 10) (hp (hNw (hRu q45.2 a0 1 (hN (hRu q40.2 a0 0 (hN h)))) 2 0) (fun h47 => gd (hK h47 a0 = 10) (Option.bind (f_Ru_init (hN (hRu q45.2 a0 1 (hN (hRu q40.2 a0 0 (hN h))))) (hR h47 a0 0) (hR h47 a0 1) h47) (fun q50 => gd (hK q50.2 a0 = 10) (hp (hNw (hRu q50.2 a0 2 (hN (hRu q45.2 a0 1 (hN (hRu q40.2 a0 0 (hN h)))))) 5 0) (fun h52 => gd (hK h52 a0 = 10) (Option.bind (f_St_init (hN (hRu q50.2 a0 2 (hN (hRu q45.2 a0 1 (hN (hRu q40.2 a0 0 (hN h))))))) (hR h52 a0 0) h52) (fun q55 => gd (hK q55.2 a0 = 10) (hp (hNw (hRu q55.2 a0 3 (hN (hRu q50.2 a0 2 (hN (hRu q45.2 a0 1 (hN (hRu q40.2 a0 0 (hN h)))))))) 0 0) (fun h57 => gd (hK h57 a0 = 10) (Option.bind (f_Ch_init (hN (hRu q55.2 a0 3 (hN (hRu q50.2 a0 2 (hN (hRu q45.2 a0 1 (hN (hRu q40.2 a0 0 (hN h))))))))) (hR h57 a0 0) (hR h57 a0 3) h57) (fun q60 => gd (hK q60.2 a0 = 10) (hp (hNw (hRu q60.2 a0 4 (hN (hRu q55.2 a0 3 (hN (hRu q50.2 a0 2 (hN (hRu q45.2 a0 1 (hN (hRu q40.2 a0 0 (hN h)))))))))) 9 0) (fun h62 => gd (hK h62 a0 = 10) (Option.bind (f_Wa_init (hN (hRu q60.2 a0 4 (hN (hRu q55.2 a0 3 (hN (hRu q50.2 a0 2 (hN (hRu q45.2 a0 1 (hN (hRu q40.2 a0 0 (hN h))))))))))) (hR h62 a0 0) (hR h62 a0 3) h62) (fun q65 => gd (hK q65.2 a0 = 10) (hp (hNw (hRu q65.2 a0 5 (hN (hRu q60.2 a0 4 (hN (hRu q55.2 a0 3 (hN (hRu q50.2 a0 2 (hN (hRu q45.2 a0 1 (hN (hRu q40.2 a0 0 (hN h)))))))))))) 1 0) (fun h67 => Option.bind (f_Re_init (hN (hRu q65.2 a0 5 (hN (hRu q60.2 a0 4 (hN (hRu q55.2 a0 3 (hN (hRu q50.2 a0 2 (hN (hRu q45.2 a0 1 (hN (hRu q40.2 a0 0 (hN h))))))))))))) h67) (fun q69 => gd (hK q69.2 a0 = 10) (hp (hRu q69.2 a0 6 (hN (hRu q65.2 a0 5 (hN (hRu q60.2 a0 4 (hN (hRu q55.2 a0 3 (hN (hRu q50.2 a0 2 (hN (hRu q45.2 a0 1 (hN (hRu q40.2 a0 0 (hN h)))))))))))))) (fun h71 => hp (hNw h71 14 6) (fun h73 => gd (hK h73 a0 = 10) (hp (hNw (hRu h73 a0 7 (hN h71)) 15 5) (fun h76 => gd (hK h76 a0 = 10) (hp (hNw (hRu h76 a0 8 (hN (hRu h73 a0 7 (hN h71)))) 16 4) (fun h79 => gd (hK h79 a0 = 10) (hp (hNw (hRu h79 a0 9 (hN (hRu h76 a0 8 (hN (hRu h73 a0 7 (hN h71)))))) 4 0) (fun h83 => Option.bind (f_Sh_init (hN (hRu h79 a0 9 (hN (hRu h76 a0 8 (hN (hRu h73 a0 7 (hN h71))))))) h83) (fun q85 => gd (hK q85.2 (hR (hRu h79 a0 9 (hN (hRu h76 a0 8 (hN (hRu h73 a0 7 (hN h71)))))) a0 9) = 16) (gd (hK q85.2 (hN (hRu h79 a0 9 (hN (hRu h76 a0 8 (hN (hRu h73 a0 7 (hN h71))))))) = 4) (gd (¬ ((0 : Int32) < 0 ∨ hL q85.2 (hR (hRu h79 a0 9 (hN (hRu h76 a0 8 (hN (hRu h73 a0 7 (hN h71)))))) a0 9) ≤ (0 : Int32).toNatClampNeg)) (hp (hRu q85.2 (hR (hRu h79 a0 9 (hN (hRu h76 a0 8 (hN (hRu h73 a0 7 (hN h71)))))) a0 9) (0 : Int32).toNatClampNeg (hN (hRu h79 a0 9 (hN (hRu h76 a0 8 (hN (hRu h73 a0 7 (hN h71)))))))) (fun h89 => gd (hK h89 a0 = 10) (hp (hNw h89 4 0) (fun h94 => Option.bind (f_Sh_init (hN h89) h94) (fun q96 => gd (hK q96.2 (hR h89 a0 9) = 16) (gd (hK q96.2 (hN h89) = 4) (gd (¬ ((1 : Int32) < 0 ∨ hL q96.2 (hR h89 a0 9) ≤ (1 : Int32).toNatClampNeg)) (gd (hK q96.2 a0 = 10) (hp (hNw (hRu q96.2 (hR h89 a0 9) (1 : Int32).toNatClampNeg (hN h89)) 4 0) (fun h102 => Option.bind (f_Sh_init (hN (hRu q96.2 (hR h89 a0 9) (1 : Int32).toNatClampNeg (hN h89))) h102) (fun q104 => gd (hK q104.2 (hR (hRu q96.2 (hR h89 a0 9) (1 : Int32).toNatClampNeg (hN h89)) a0 9) = 16) (gd (hK q104.2 (hN (hRu q96.2 (hR h89 a0 9) (1 : Int32).toNatClampNeg (hN h89))) = 4) (gd (¬ ((2 : Int32) < 0 ∨ hL q104.2 (hR (hRu q96.2 (hR h89 a0 9) (1 : Int32).toNatClampNeg (hN h89)) a0 9) ≤ (2 : Int32).toNatClampNeg)) (hp (hRu q104.2 (hR (hRu q96.2 (hR h89 a0 9) (1 : Int32).toNatClampNeg (hN h89)) a0 9) (2 : Int32).toNatClampNeg (hN (hRu q96.2 (hR h89 a0 9) (1 : Int32).toNatClampNeg (hN h89)))) (fun h108 => gd (hK h108 a0 = 10) (hp (hNw h108 4 0) (fun h113 => Option.bind (f_Sh_init (hN h108) h113) (fun q115 => gd (hK q115.2 (hR h108 a0 9) = 16) (gd (hK q115.2 (hN h108) = 4) (gd (¬ ((3 : Int32) < 0 ∨ hL q115.2 (hR h108 a0 9) ≤ (3 : Int32).toNatClampNeg)) (hp (hNw (hRu q115.2 (hR h108 a0 9) (3 : Int32).toNatClampNeg (hN h108)) 6 0) (fun h120 => gd (hK h120 a0 = 10) (Option.bind (f_Ta_init (hN (hRu q115.2 (hR h108 a0 9) (3 : Int32).toNatClampNeg (hN h108))) (hR h120 a0 0) h120) (fun q123 => gd (hK q123.2 a0 = 10) (Option.bind (f_Ma_learnFirstText a0 (hIu (hRu q123.2 a0 10 (hN (hRu q115.2 (hR h108 a0 9) (3 : Int32).toNatClampNeg (hN h108)))) a0 14 (-1 : Int32))) (fun q125 => gd (hK q125.2 a0 = 10) (gd (hK q125.2 (hR q125.2 a0 1) = 6) (Option.bind (f_Ta_lay (hR q125.2 a0 1) (6 : Int32) q125.2) (fun q127 => gd (hK q127.2 a0 = 10) (Option.bind (f_Ma_useText a0 (0 : Int32) q127.2) (fun q129 => some ((), q129.2))))))))))))))))))))))))))))))))))))))))))))))))))))))))))))))))))))))
theorem t_Ma_init {l : Launch} {z : xZ} {d mc ms : Nat} {Ph : Option xV → xH → Prop} {a0 : Nat}  {h : xH} (hd : 387 ≤ d) (hmc : 34 ≤ mc) (hms : 1483 ≤ ms) (hk : OK (f_Ma_init a0 h) (fun q => Ph (none) q.2)) : Sx l z d mc ms M_Ma_init 0 (x_en [xR a0] 2) [] h Ph := by
  unfold f_Ma_init at hk
  refine sx_eq (lc2 := [some (xR a0), none]) rfl rfl ?_
  refine sx_aload_n dc_Ma_init_0 rfl ?_
  obtain ⟨g37, hk⟩ := hk.g
  refine sx_objInit g37 (by decide) wM_Ma_1 wO wP (Nat.le_of_ble_eq_true rfl) (by omega) dc_Ma_init_1 ?_
  refine sx_aload_n dc_Ma_init_4 rfl ?_
  refine sx_newN (ci := 3) (N := 4) rfl rfl wC_Ma_7 wI_Se wT_Se dc_Ma_init_5 (by omega) (by omega) ?_
  obtain ⟨h38, eh38, hk⟩ := hk.h
  refine sx_hp eh38 ?_
  have g39 : hK h38 (hN h) = 3 := by rw [eh38]; exact (show hK (hNw h 3 0) (hN h) = 3 from if_pos rfl)
  refine sx_dup dc_Ma_init_8 rfl ?_
  obtain ⟨q40, eq40, hk⟩ := hk.bind
  refine sx_callI (d2 := d - 1) (mc2 := 4) (ms2 := 205) (as := []) mk_Se_init rfl wM_Ma_9 mi_Se_init ⟨rfl, rfl⟩ g39 (by decide) rfl (Nat.le_of_ble_eq_true rfl) (Nat.le_of_ble_eq_true rfl) dc_Ma_init_9 (by omega) (by omega) (by omega) ?_
  refine t_Se_init (by omega) (by omega) (by omega) ⟨q40, eq40, ?_⟩
  refine sx_eq (lc2 := [some (xR a0), none]) (st2 := [xR (hN h), xR a0]) rfl rfl ?_
  obtain ⟨g41, hk⟩ := hk.g
  refine sx_putRF (ci := 10) (k := 0) rfl (by decide) wF_Ma_10 rfl (by rfl) rfl g41 rfl dc_Ma_init_12 ?_
  refine sx_aload_n dc_Ma_init_15 rfl ?_
  refine sx_newN (ci := 6) (N := 4) rfl rfl wC_Ma_16 wI_Ta wT_Ta dc_Ma_init_16 (by omega) (by omega) ?_
  obtain ⟨h42, eh42, hk⟩ := hk.h
  refine sx_hp eh42 ?_
  have g43 : hK h42 (hN (hRu q40.2 a0 0 (hN h))) = 6 := by rw [eh42]; exact (show hK (hNw (hRu q40.2 a0 0 (hN h)) 6 0) (hN (hRu q40.2 a0 0 (hN h))) = 6 from if_pos rfl)
  refine sx_dup dc_Ma_init_19 rfl ?_
  refine sx_aload_n dc_Ma_init_20 rfl ?_
  obtain ⟨g44, hk⟩ := hk.g
  refine sx_get (ci := 10) (k := 0) rfl (by decide) wF_Ma_10 g44 dc_Ma_init_21 ?_
  obtain ⟨q45, eq45, hk⟩ := hk.bind
  refine sx_callI (d2 := d - 1) (mc2 := 0) (ms2 := 0) (as := [xR (hR h42 a0 0)]) mk_Ta_init rfl wM_Ma_18 mi_Ta_init ⟨rfl, rfl⟩ g43 (by decide) rfl (Nat.le_of_ble_eq_true rfl) (Nat.le_of_ble_eq_true rfl) dc_Ma_init_24 (by omega) (Nat.zero_le _) (Nat.zero_le _) ?_
  refine t_Ta_init (by omega) ⟨q45, eq45, ?_⟩
  refine sx_eq0 (lc2 := [some (xR a0), none]) (st2 := [xR (hN (hRu q40.2 a0 0 (hN h))), xR a0]) rfl rfl ?_
  obtain ⟨g46, hk⟩ := hk.g
  refine sx_putRF (ci := 10) (k := 1) rfl (by decide) wF_Ma_21 rfl (by rfl) rfl g46 rfl dc_Ma_init_27 ?_
  refine sx_aload_n dc_Ma_init_30 rfl ?_
  refine sx_newN (ci := 2) (N := 6) rfl rfl wC_Ma_25 wI_Ru wT_Ru dc_Ma_init_31 (by omega) (by omega) ?_
  obtain ⟨h47, eh47, hk⟩ := hk.h
  refine sx_hp eh47 ?_
  have g48 : hK h47 (hN (hRu q45.2 a0 1 (hN (hRu q40.2 a0 0 (hN h))))) = 2 := by rw [eh47]; exact (show hK (hNw (hRu q45.2 a0 1 (hN (hRu q40.2 a0 0 (hN h)))) 2 0) (hN (hRu q45.2 a0 1 (hN (hRu q40.2 a0 0 (hN h))))) = 2 from if_pos rfl)
  refine sx_dup dc_Ma_init_34 rfl ?_
  refine sx_aload_n dc_Ma_init_35 rfl ?_
  obtain ⟨g49, hk⟩ := hk.g
  refine sx_get (ci := 10) (k := 0) rfl (by decide) wF_Ma_10 g49 dc_Ma_init_36 ?_
  refine sx_aload_n dc_Ma_init_39 rfl ?_
  refine sx_get (ci := 10) (k := 1) rfl (by decide) wF_Ma_21 g49 dc_Ma_init_40 ?_
  obtain ⟨q50, eq50, hk⟩ := hk.bind
  refine sx_callI (d2 := d - 1) (mc2 := 2) (ms2 := 46) (as := [xR (hR h47 a0 0), xR (hR h47 a0 1)]) mk_Ru_init rfl wM_Ma_27 mi_Ru_init ⟨rfl, rfl⟩ g48 (by decide) rfl (Nat.le_of_ble_eq_true rfl) (Nat.le_of_ble_eq_true rfl) dc_Ma_init_43 (by omega) (by omega) (by omega) ?_
  refine t_Ru_init (by omega) (by omega) (by omega) ⟨q50, eq50, ?_⟩
  refine sx_eq (lc2 := [some (xR a0), none]) (st2 := [xR (hN (hRu q45.2 a0 1 (hN (hRu q40.2 a0 0 (hN h))))), xR a0]) rfl rfl ?_
  obtain ⟨g51, hk⟩ := hk.g
  refine sx_putRF (ci := 10) (k := 2) rfl (by decide) wF_Ma_30 rfl (by rfl) rfl g51 rfl dc_Ma_init_46 ?_
  refine sx_aload_n dc_Ma_init_49 rfl ?_
  refine sx_newN (ci := 5) (N := 4) rfl rfl wC_Ma_34 wI_St wT_St dc_Ma_init_50 (by omega) (by omega) ?_
  obtain ⟨h52, eh52, hk⟩ := hk.h
  refine sx_hp eh52 ?_
  have g53 : hK h52 (hN (hRu q50.2 a0 2 (hN (hRu q45.2 a0 1 (hN (hRu q40.2 a0 0 (hN h))))))) = 5 := by rw [eh52]; exact (show hK (hNw (hRu q50.2 a0 2 (hN (hRu q45.2 a0 1 (hN (hRu q40.2 a0 0 (hN h)))))) 5 0) (hN (hRu q50.2 a0 2 (hN (hRu q45.2 a0 1 (hN (hRu q40.2 a0 0 (hN h))))))) = 5 from if_pos rfl)
  refine sx_dup dc_Ma_init_53 rfl ?_
  refine sx_aload_n dc_Ma_init_54 rfl ?_
  obtain ⟨g54, hk⟩ := hk.g
  refine sx_get (ci := 10) (k := 0) rfl (by decide) wF_Ma_10 g54 dc_Ma_init_55 ?_
  obtain ⟨q55, eq55, hk⟩ := hk.bind
  refine sx_callI (d2 := d - 1) (mc2 := 2) (ms2 := 256) (as := [xR (hR h52 a0 0)]) mk_St_init rfl wM_Ma_36 mi_St_init ⟨rfl, rfl⟩ g53 (by decide) rfl (Nat.le_of_ble_eq_true rfl) (Nat.le_of_ble_eq_true rfl) dc_Ma_init_58 (by omega) (by omega) (by omega) ?_
  refine t_St_init (by omega) (by omega) (by omega) ⟨q55, eq55, ?_⟩
  refine sx_eq (lc2 := [some (xR a0), none]) (st2 := [xR (hN (hRu q50.2 a0 2 (hN (hRu q45.2 a0 1 (hN (hRu q40.2 a0 0 (hN h))))))), xR a0]) rfl rfl ?_
  obtain ⟨g56, hk⟩ := hk.g
  refine sx_putRF (ci := 10) (k := 3) rfl (by decide) wF_Ma_37 rfl (by rfl) rfl g56 rfl dc_Ma_init_61 ?_
  refine sx_aload_n dc_Ma_init_64 rfl ?_
  refine sx_newN (ci := 0) (N := 6) rfl rfl wC_Ma_41 wI_Ch wT_Ch dc_Ma_init_65 (by omega) (by omega) ?_
  obtain ⟨h57, eh57, hk⟩ := hk.h
  refine sx_hp eh57 ?_
  have g58 : hK h57 (hN (hRu q55.2 a0 3 (hN (hRu q50.2 a0 2 (hN (hRu q45.2 a0 1 (hN (hRu q40.2 a0 0 (hN h))))))))) = 0 := by rw [eh57]; exact (show hK (hNw (hRu q55.2 a0 3 (hN (hRu q50.2 a0 2 (hN (hRu q45.2 a0 1 (hN (hRu q40.2 a0 0 (hN h)))))))) 0 0) (hN (hRu q55.2 a0 3 (hN (hRu q50.2 a0 2 (hN (hRu q45.2 a0 1 (hN (hRu q40.2 a0 0 (hN h))))))))) = 0 from if_pos rfl)
  refine sx_dup dc_Ma_init_68 rfl ?_
  refine sx_aload_n dc_Ma_init_69 rfl ?_
  obtain ⟨g59, hk⟩ := hk.g
  refine sx_get (ci := 10) (k := 0) rfl (by decide) wF_Ma_10 g59 dc_Ma_init_70 ?_
  refine sx_aload_n dc_Ma_init_73 rfl ?_
  refine sx_get (ci := 10) (k := 3) rfl (by decide) wF_Ma_37 g59 dc_Ma_init_74 ?_
  obtain ⟨q60, eq60, hk⟩ := hk.bind
  refine sx_callI (d2 := d - 1) (mc2 := 1) (ms2 := 21) (as := [xR (hR h57 a0 0), xR (hR h57 a0 3)]) mk_Ch_init rfl wM_Ma_43 mi_Ch_init ⟨rfl, rfl⟩ g58 (by decide) rfl (Nat.le_of_ble_eq_true rfl) (Nat.le_of_ble_eq_true rfl) dc_Ma_init_77 (by omega) (by omega) (by omega) ?_
  refine t_Ch_init (by omega) (by omega) (by omega) ⟨q60, eq60, ?_⟩
  refine sx_eq (lc2 := [some (xR a0), none]) (st2 := [xR (hN (hRu q55.2 a0 3 (hN (hRu q50.2 a0 2 (hN (hRu q45.2 a0 1 (hN (hRu q40.2 a0 0 (hN h))))))))), xR a0]) rfl rfl ?_
  obtain ⟨g61, hk⟩ := hk.g
  refine sx_putRF (ci := 10) (k := 4) rfl (by decide) wF_Ma_46 rfl (by rfl) rfl g61 rfl dc_Ma_init_80 ?_
  refine sx_aload_n dc_Ma_init_83 rfl ?_
  refine sx_newN (ci := 9) (N := 6) rfl rfl wC_Ma_50 wI_Wa wT_Wa dc_Ma_init_84 (by omega) (by omega) ?_
  obtain ⟨h62, eh62, hk⟩ := hk.h
  refine sx_hp eh62 ?_
  have g63 : hK h62 (hN (hRu q60.2 a0 4 (hN (hRu q55.2 a0 3 (hN (hRu q50.2 a0 2 (hN (hRu q45.2 a0 1 (hN (hRu q40.2 a0 0 (hN h))))))))))) = 9 := by rw [eh62]; exact (show hK (hNw (hRu q60.2 a0 4 (hN (hRu q55.2 a0 3 (hN (hRu q50.2 a0 2 (hN (hRu q45.2 a0 1 (hN (hRu q40.2 a0 0 (hN h)))))))))) 9 0) (hN (hRu q60.2 a0 4 (hN (hRu q55.2 a0 3 (hN (hRu q50.2 a0 2 (hN (hRu q45.2 a0 1 (hN (hRu q40.2 a0 0 (hN h))))))))))) = 9 from if_pos rfl)
  refine sx_dup dc_Ma_init_87 rfl ?_
  refine sx_aload_n dc_Ma_init_88 rfl ?_
  obtain ⟨g64, hk⟩ := hk.g
  refine sx_get (ci := 10) (k := 0) rfl (by decide) wF_Ma_10 g64 dc_Ma_init_89 ?_
  refine sx_aload_n dc_Ma_init_92 rfl ?_
  refine sx_get (ci := 10) (k := 3) rfl (by decide) wF_Ma_37 g64 dc_Ma_init_93 ?_
  obtain ⟨q65, eq65, hk⟩ := hk.bind
  refine sx_callI (d2 := d - 1) (mc2 := 0) (ms2 := 0) (as := [xR (hR h62 a0 0), xR (hR h62 a0 3)]) mk_Wa_init rfl wM_Ma_52 mi_Wa_init ⟨rfl, rfl⟩ g63 (by decide) rfl (Nat.le_of_ble_eq_true rfl) (Nat.le_of_ble_eq_true rfl) dc_Ma_init_96 (by omega) (Nat.zero_le _) (Nat.zero_le _) ?_
  refine t_Wa_init (by omega) ⟨q65, eq65, ?_⟩
  refine sx_eq0 (lc2 := [some (xR a0), none]) (st2 := [xR (hN (hRu q60.2 a0 4 (hN (hRu q55.2 a0 3 (hN (hRu q50.2 a0 2 (hN (hRu q45.2 a0 1 (hN (hRu q40.2 a0 0 (hN h))))))))))), xR a0]) rfl rfl ?_
  obtain ⟨g66, hk⟩ := hk.g
  refine sx_putRF (ci := 10) (k := 5) rfl (by decide) wF_Ma_53 rfl (by rfl) rfl g66 rfl dc_Ma_init_99 ?_
  refine sx_aload_n dc_Ma_init_102 rfl ?_
  refine sx_newN (ci := 1) (N := 9) rfl rfl wC_Ma_57 wI_Re wT_Re dc_Ma_init_103 (by omega) (by omega) ?_
  obtain ⟨h67, eh67, hk⟩ := hk.h
  refine sx_hp eh67 ?_
  have g68 : hK h67 (hN (hRu q65.2 a0 5 (hN (hRu q60.2 a0 4 (hN (hRu q55.2 a0 3 (hN (hRu q50.2 a0 2 (hN (hRu q45.2 a0 1 (hN (hRu q40.2 a0 0 (hN h))))))))))))) = 1 := by rw [eh67]; exact (show hK (hNw (hRu q65.2 a0 5 (hN (hRu q60.2 a0 4 (hN (hRu q55.2 a0 3 (hN (hRu q50.2 a0 2 (hN (hRu q45.2 a0 1 (hN (hRu q40.2 a0 0 (hN h)))))))))))) 1 0) (hN (hRu q65.2 a0 5 (hN (hRu q60.2 a0 4 (hN (hRu q55.2 a0 3 (hN (hRu q50.2 a0 2 (hN (hRu q45.2 a0 1 (hN (hRu q40.2 a0 0 (hN h))))))))))))) = 1 from if_pos rfl)
  refine sx_dup dc_Ma_init_106 rfl ?_
  obtain ⟨q69, eq69, hk⟩ := hk.bind
  refine sx_callN (d2 := d - 1) (mc2 := 3) (ms2 := 323) (as := []) mk_Re_init rfl wN_Ma_59 mi_Re_init ⟨rfl, rfl⟩ g68 (by decide) rfl (Nat.le_of_ble_eq_true rfl) (Nat.le_of_ble_eq_true rfl) dc_Ma_init_107 (by omega) (by omega) (by omega) ?_
  refine t_Re_init (by omega) (by omega) (by omega) ⟨q69, eq69, ?_⟩
  refine sx_eq (lc2 := [some (xR a0), none]) (st2 := [xR (hN (hRu q65.2 a0 5 (hN (hRu q60.2 a0 4 (hN (hRu q55.2 a0 3 (hN (hRu q50.2 a0 2 (hN (hRu q45.2 a0 1 (hN (hRu q40.2 a0 0 (hN h))))))))))))), xR a0]) rfl rfl ?_
  obtain ⟨g70, hk⟩ := hk.g
  refine sx_putRF (ci := 10) (k := 6) rfl (by decide) wF_Ma_60 rfl (by rfl) rfl g70 rfl dc_Ma_init_110 ?_
  obtain ⟨h71, eh71, hk⟩ := hk.h
  refine sx_hp eh71 ?_
  have g72 : hK h71 a0 = 10 := by rw [eh71]; exact g70
  refine sx_aload_n dc_Ma_init_113 rfl ?_
  refine sx_bipush (v := (6 : Int32)) dc_Ma_init_114 (by decide) ?_
  refine sx_newR14 (N := 6) (by decide) (by decide) (by decide) wC_Ma_64 dc_Ma_init_116 (by omega) (by omega) ?_
  obtain ⟨h73, eh73, hk⟩ := hk.h
  refine sx_hp eh73 ?_
  have g74 : hK h73 (hN h71) = 14 := by rw [eh73]; exact (show hK (hNw h71 14 6) (hN h71) = 14 from if_pos rfl)
  obtain ⟨g75, hk⟩ := hk.g
  refine sx_putRF (ci := 10) (k := 7) rfl (by decide) wF_Ma_66 rfl (by rfl) rfl g75 rfl dc_Ma_init_119 ?_
  refine sx_aload_n dc_Ma_init_122 rfl ?_
  refine sx_iconst (v := (5 : Int32)) dc_Ma_init_123 (by decide) ?_
  refine sx_newR15 (N := 5) (by decide) (by decide) (by decide) wC_Ma_70 dc_Ma_init_124 (by omega) (by omega) ?_
  obtain ⟨h76, eh76, hk⟩ := hk.h
  refine sx_hp eh76 ?_
  have g77 : hK h76 (hN (hRu h73 a0 7 (hN h71))) = 15 := by rw [eh76]; exact (show hK (hNw (hRu h73 a0 7 (hN h71)) 15 5) (hN (hRu h73 a0 7 (hN h71))) = 15 from if_pos rfl)
  obtain ⟨g78, hk⟩ := hk.g
  refine sx_putRF (ci := 10) (k := 8) rfl (by decide) wF_Ma_72 rfl (by rfl) rfl g78 rfl dc_Ma_init_127 ?_
  refine sx_aload_n dc_Ma_init_130 rfl ?_
  refine sx_iconst (v := (4 : Int32)) dc_Ma_init_131 (by decide) ?_
  refine sx_newR16 (N := 4) (by decide) (by decide) (by decide) wC_Ma_76 dc_Ma_init_132 (by omega) (by omega) ?_
  obtain ⟨h79, eh79, hk⟩ := hk.h
  refine sx_hp eh79 ?_
  have g80 : hK h79 (hN (hRu h76 a0 8 (hN (hRu h73 a0 7 (hN h71))))) = 16 := by rw [eh79]; exact (show hK (hNw (hRu h76 a0 8 (hN (hRu h73 a0 7 (hN h71)))) 16 4) (hN (hRu h76 a0 8 (hN (hRu h73 a0 7 (hN h71))))) = 16 from if_pos rfl)
  obtain ⟨g81, hk⟩ := hk.g
  refine sx_putRF (ci := 10) (k := 9) rfl (by decide) wF_Ma_78 rfl (by rfl) rfl g81 rfl dc_Ma_init_135 ?_
  refine sx_iconst (v := (0 : Int32)) dc_Ma_init_138 (by decide) ?_
  refine sx_istore_n dc_Ma_init_139 (by decide) (sx_eq (lc2 := [some (xR a0), some (xI (0 : Int32))]) rfl rfl ?_)
  refine sx_iload_n dc_Ma_init_140 rfl ?_
  refine sx_iconst (v := (4 : Int32)) dc_Ma_init_141 (by decide) ?_
  refine sx_icmp_ge (tgt := 164) dc_Ma_init_142 (by decide) (fun c => False.elim (by revert c; decide)) (fun _ => ?_)
  refine sx_aload_n dc_Ma_init_145 rfl ?_
  refine sx_get (ci := 10) (k := 9) rfl (by decide) wF_Ma_78 g81 dc_Ma_init_146 ?_
  refine sx_iload_n dc_Ma_init_149 rfl ?_
  refine sx_newN (ci := 4) (N := 3) rfl rfl wC_Ma_76 wI_Sh wT_Sh dc_Ma_init_150 (by omega) (by omega) ?_
  obtain ⟨h83, eh83, hk⟩ := hk.h
  refine sx_hp eh83 ?_
  have g84 : hK h83 (hN (hRu h79 a0 9 (hN (hRu h76 a0 8 (hN (hRu h73 a0 7 (hN h71))))))) = 4 := by rw [eh83]; exact (show hK (hNw (hRu h79 a0 9 (hN (hRu h76 a0 8 (hN (hRu h73 a0 7 (hN h71)))))) 4 0) (hN (hRu h79 a0 9 (hN (hRu h76 a0 8 (hN (hRu h73 a0 7 (hN h71))))))) = 4 from if_pos rfl)
  refine sx_dup dc_Ma_init_153 rfl ?_
  obtain ⟨q85, eq85, hk⟩ := hk.bind
  refine sx_callN (d2 := d - 1) (mc2 := 1) (ms2 := 40) (as := []) mk_Sh_init rfl wN_Ma_82 mi_Sh_init ⟨rfl, rfl⟩ g84 (by decide) rfl (Nat.le_of_ble_eq_true rfl) (Nat.le_of_ble_eq_true rfl) dc_Ma_init_154 (by omega) (by omega) (by omega) ?_
  refine t_Sh_init (by omega) (by omega) (by omega) ⟨q85, eq85, ?_⟩
  refine sx_eq (lc2 := [some (xR a0), some (xI (0 : Int32))]) (st2 := [xR (hN (hRu h79 a0 9 (hN (hRu h76 a0 8 (hN (hRu h73 a0 7 (hN h71))))))), xI (0 : Int32), xR (hR (hRu h79 a0 9 (hN (hRu h76 a0 8 (hN (hRu h73 a0 7 (hN h71)))))) a0 9)]) rfl rfl ?_
  obtain ⟨g86, hk⟩ := hk.g
  obtain ⟨g87, hk⟩ := hk.g
  obtain ⟨g88, hk⟩ := hk.g
  refine sx_aast g86 (Or.inr (Or.inr ⟨rfl, rfl⟩)) g87 g88 dc_Ma_init_157 ?_
  obtain ⟨h89, eh89, hk⟩ := hk.h
  refine sx_hp eh89 ?_
  have g90 : hK h89 (hR (hRu h79 a0 9 (hN (hRu h76 a0 8 (hN (hRu h73 a0 7 (hN h71)))))) a0 9) = 16 := by rw [eh89]; exact g86
  have g91 : hK h89 (hN (hRu h79 a0 9 (hN (hRu h76 a0 8 (hN (hRu h73 a0 7 (hN h71))))))) = 4 := by rw [eh89]; exact g87
  refine sx_iinc (v := (1 : Int32)) dc_Ma_init_158 rfl (by decide) (by decide) (sx_eq (lc2 := [some (xR a0), some (xI (1 : Int32))]) rfl rfl ?_)
  refine sx_goto (tgt := 140) dc_Ma_init_161 (by decide) ?_
  refine sx_iload_n dc_Ma_init_140 rfl ?_
  refine sx_iconst (v := (4 : Int32)) dc_Ma_init_141 (by decide) ?_
  refine sx_icmp_ge (tgt := 164) dc_Ma_init_142 (by decide) (fun c => False.elim (by revert c; decide)) (fun _ => ?_)
  refine sx_aload_n dc_Ma_init_145 rfl ?_
  obtain ⟨g93, hk⟩ := hk.g
  refine sx_get (ci := 10) (k := 9) rfl (by decide) wF_Ma_78 g93 dc_Ma_init_146 ?_
  refine sx_iload_n dc_Ma_init_149 rfl ?_
  refine sx_newN (ci := 4) (N := 3) rfl rfl wC_Ma_76 wI_Sh wT_Sh dc_Ma_init_150 (by omega) (by omega) ?_
  obtain ⟨h94, eh94, hk⟩ := hk.h
  refine sx_hp eh94 ?_
  have g95 : hK h94 (hN h89) = 4 := by rw [eh94]; exact (show hK (hNw h89 4 0) (hN h89) = 4 from if_pos rfl)
  refine sx_dup dc_Ma_init_153 rfl ?_
  obtain ⟨q96, eq96, hk⟩ := hk.bind
  refine sx_callN (d2 := d - 1) (mc2 := 1) (ms2 := 40) (as := []) mk_Sh_init rfl wN_Ma_82 mi_Sh_init ⟨rfl, rfl⟩ g95 (by decide) rfl (Nat.le_of_ble_eq_true rfl) (Nat.le_of_ble_eq_true rfl) dc_Ma_init_154 (by omega) (by omega) (by omega) ?_
  refine t_Sh_init (by omega) (by omega) (by omega) ⟨q96, eq96, ?_⟩
  refine sx_eq (lc2 := [some (xR a0), some (xI (1 : Int32))]) (st2 := [xR (hN h89), xI (1 : Int32), xR (hR h89 a0 9)]) rfl rfl ?_
  obtain ⟨g97, hk⟩ := hk.g
  obtain ⟨g98, hk⟩ := hk.g
  obtain ⟨g99, hk⟩ := hk.g
  refine sx_aast g97 (Or.inr (Or.inr ⟨rfl, rfl⟩)) g98 g99 dc_Ma_init_157 ?_
  refine sx_iinc (v := (1 : Int32)) dc_Ma_init_158 rfl (by decide) (by decide) (sx_eq (lc2 := [some (xR a0), some (xI (2 : Int32))]) rfl rfl ?_)
  refine sx_goto (tgt := 140) dc_Ma_init_161 (by decide) ?_
  refine sx_iload_n dc_Ma_init_140 rfl ?_
  refine sx_iconst (v := (4 : Int32)) dc_Ma_init_141 (by decide) ?_
  refine sx_icmp_ge (tgt := 164) dc_Ma_init_142 (by decide) (fun c => False.elim (by revert c; decide)) (fun _ => ?_)
  refine sx_aload_n dc_Ma_init_145 rfl ?_
  obtain ⟨g101, hk⟩ := hk.g
  refine sx_get (ci := 10) (k := 9) rfl (by decide) wF_Ma_78 g101 dc_Ma_init_146 ?_
  refine sx_iload_n dc_Ma_init_149 rfl ?_
  refine sx_newN (ci := 4) (N := 3) rfl rfl wC_Ma_76 wI_Sh wT_Sh dc_Ma_init_150 (by omega) (by omega) ?_
  obtain ⟨h102, eh102, hk⟩ := hk.h
  refine sx_hp eh102 ?_
  have g103 : hK h102 (hN (hRu q96.2 (hR h89 a0 9) (1 : Int32).toNatClampNeg (hN h89))) = 4 := by rw [eh102]; exact (show hK (hNw (hRu q96.2 (hR h89 a0 9) (1 : Int32).toNatClampNeg (hN h89)) 4 0) (hN (hRu q96.2 (hR h89 a0 9) (1 : Int32).toNatClampNeg (hN h89))) = 4 from if_pos rfl)
  refine sx_dup dc_Ma_init_153 rfl ?_
  obtain ⟨q104, eq104, hk⟩ := hk.bind
  refine sx_callN (d2 := d - 1) (mc2 := 1) (ms2 := 40) (as := []) mk_Sh_init rfl wN_Ma_82 mi_Sh_init ⟨rfl, rfl⟩ g103 (by decide) rfl (Nat.le_of_ble_eq_true rfl) (Nat.le_of_ble_eq_true rfl) dc_Ma_init_154 (by omega) (by omega) (by omega) ?_
  refine t_Sh_init (by omega) (by omega) (by omega) ⟨q104, eq104, ?_⟩
  refine sx_eq (lc2 := [some (xR a0), some (xI (2 : Int32))]) (st2 := [xR (hN (hRu q96.2 (hR h89 a0 9) (1 : Int32).toNatClampNeg (hN h89))), xI (2 : Int32), xR (hR (hRu q96.2 (hR h89 a0 9) (1 : Int32).toNatClampNeg (hN h89)) a0 9)]) rfl rfl ?_
  obtain ⟨g105, hk⟩ := hk.g
  obtain ⟨g106, hk⟩ := hk.g
  obtain ⟨g107, hk⟩ := hk.g
  refine sx_aast g105 (Or.inr (Or.inr ⟨rfl, rfl⟩)) g106 g107 dc_Ma_init_157 ?_
  obtain ⟨h108, eh108, hk⟩ := hk.h
  refine sx_hp eh108 ?_
  have g109 : hK h108 (hR (hRu q96.2 (hR h89 a0 9) (1 : Int32).toNatClampNeg (hN h89)) a0 9) = 16 := by rw [eh108]; exact g105
  have g110 : hK h108 (hN (hRu q96.2 (hR h89 a0 9) (1 : Int32).toNatClampNeg (hN h89))) = 4 := by rw [eh108]; exact g106
  refine sx_iinc (v := (1 : Int32)) dc_Ma_init_158 rfl (by decide) (by decide) (sx_eq (lc2 := [some (xR a0), some (xI (3 : Int32))]) rfl rfl ?_)
  refine sx_goto (tgt := 140) dc_Ma_init_161 (by decide) ?_
  refine sx_iload_n dc_Ma_init_140 rfl ?_
  refine sx_iconst (v := (4 : Int32)) dc_Ma_init_141 (by decide) ?_
  refine sx_icmp_ge (tgt := 164) dc_Ma_init_142 (by decide) (fun c => False.elim (by revert c; decide)) (fun _ => ?_)
  refine sx_aload_n dc_Ma_init_145 rfl ?_
  obtain ⟨g112, hk⟩ := hk.g
  refine sx_get (ci := 10) (k := 9) rfl (by decide) wF_Ma_78 g112 dc_Ma_init_146 ?_
  refine sx_iload_n dc_Ma_init_149 rfl ?_
  refine sx_newN (ci := 4) (N := 3) rfl rfl wC_Ma_76 wI_Sh wT_Sh dc_Ma_init_150 (by omega) (by omega) ?_
  obtain ⟨h113, eh113, hk⟩ := hk.h
  refine sx_hp eh113 ?_
  have g114 : hK h113 (hN h108) = 4 := by rw [eh113]; exact (show hK (hNw h108 4 0) (hN h108) = 4 from if_pos rfl)
  refine sx_dup dc_Ma_init_153 rfl ?_
  obtain ⟨q115, eq115, hk⟩ := hk.bind
  refine sx_callN (d2 := d - 1) (mc2 := 1) (ms2 := 40) (as := []) mk_Sh_init rfl wN_Ma_82 mi_Sh_init ⟨rfl, rfl⟩ g114 (by decide) rfl (Nat.le_of_ble_eq_true rfl) (Nat.le_of_ble_eq_true rfl) dc_Ma_init_154 (by omega) (by omega) (by omega) ?_
  refine t_Sh_init (by omega) (by omega) (by omega) ⟨q115, eq115, ?_⟩
  refine sx_eq (lc2 := [some (xR a0), some (xI (3 : Int32))]) (st2 := [xR (hN h108), xI (3 : Int32), xR (hR h108 a0 9)]) rfl rfl ?_
  obtain ⟨g116, hk⟩ := hk.g
  obtain ⟨g117, hk⟩ := hk.g
  obtain ⟨g118, hk⟩ := hk.g
  refine sx_aast g116 (Or.inr (Or.inr ⟨rfl, rfl⟩)) g117 g118 dc_Ma_init_157 ?_
  refine sx_iinc (v := (1 : Int32)) dc_Ma_init_158 rfl (by decide) (by decide) (sx_eq (lc2 := [some (xR a0), some (xI (4 : Int32))]) rfl rfl ?_)
  refine sx_goto (tgt := 140) dc_Ma_init_161 (by decide) ?_
  refine sx_iload_n dc_Ma_init_140 rfl ?_
  refine sx_iconst (v := (4 : Int32)) dc_Ma_init_141 (by decide) ?_
  refine sx_icmp_ge (tgt := 164) dc_Ma_init_142 (by decide) (fun _ => ?_) (fun c => False.elim (by revert c; decide))
  refine sx_aload_n dc_Ma_init_164 rfl ?_
  refine sx_newN (ci := 6) (N := 4) rfl rfl wC_Ma_16 wI_Ta wT_Ta dc_Ma_init_165 (by omega) (by omega) ?_
  obtain ⟨h120, eh120, hk⟩ := hk.h
  refine sx_hp eh120 ?_
  have g121 : hK h120 (hN (hRu q115.2 (hR h108 a0 9) (3 : Int32).toNatClampNeg (hN h108))) = 6 := by rw [eh120]; exact (show hK (hNw (hRu q115.2 (hR h108 a0 9) (3 : Int32).toNatClampNeg (hN h108)) 6 0) (hN (hRu q115.2 (hR h108 a0 9) (3 : Int32).toNatClampNeg (hN h108))) = 6 from if_pos rfl)
  refine sx_dup dc_Ma_init_168 rfl ?_
  refine sx_aload_n dc_Ma_init_169 rfl ?_
  obtain ⟨g122, hk⟩ := hk.g
  refine sx_get (ci := 10) (k := 0) rfl (by decide) wF_Ma_10 g122 dc_Ma_init_170 ?_
  obtain ⟨q123, eq123, hk⟩ := hk.bind
  refine sx_callI (d2 := d - 1) (mc2 := 0) (ms2 := 0) (as := [xR (hR h120 a0 0)]) mk_Ta_init rfl wM_Ma_18 mi_Ta_init ⟨rfl, rfl⟩ g121 (by decide) rfl (Nat.le_of_ble_eq_true rfl) (Nat.le_of_ble_eq_true rfl) dc_Ma_init_173 (by omega) (Nat.zero_le _) (Nat.zero_le _) ?_
  refine t_Ta_init (by omega) ⟨q123, eq123, ?_⟩
  refine sx_eq0 (lc2 := [some (xR a0), some (xI (4 : Int32))]) (st2 := [xR (hN (hRu q115.2 (hR h108 a0 9) (3 : Int32).toNatClampNeg (hN h108))), xR a0]) rfl rfl ?_
  obtain ⟨g124, hk⟩ := hk.g
  refine sx_putRF (ci := 10) (k := 10) rfl (by decide) wF_Ma_83 rfl (by rfl) rfl g124 rfl dc_Ma_init_176 ?_
  refine sx_aload_n dc_Ma_init_179 rfl ?_
  refine sx_iconst (v := (-1 : Int32)) dc_Ma_init_180 (by decide) ?_
  refine sx_putI (ci := 10) (k := 14) rfl (by decide) wF_Ma_86 rfl g124 (Or.inl rfl) dc_Ma_init_181 ?_
  refine sx_aload_n dc_Ma_init_184 rfl ?_
  obtain ⟨q125, eq125, hk⟩ := hk.bind
  refine sx_callV (d2 := d - 1) (mc2 := 3) (ms2 := 402) (as := []) mk_Ma_learnFirstText rfl (x_rk (ci := 10) g124 rfl rfl) wM_Ma_90 mi_Ma_learnFirstText me_Ma_learnFirstText rfl (Nat.le_of_ble_eq_true rfl) (Nat.le_of_ble_eq_true rfl) dc_Ma_init_185 (by omega) (by omega) (by omega) ?_
  refine t_Ma_learnFirstText (by omega) (by omega) (by omega) ⟨q125, eq125, ?_⟩
  refine sx_eq (lc2 := [some (xR a0), some (xI (4 : Int32))]) (st2 := []) rfl rfl ?_
  refine sx_aload_n dc_Ma_init_188 rfl ?_
  obtain ⟨g126, hk⟩ := hk.g
  refine sx_get (ci := 10) (k := 1) rfl (by decide) wF_Ma_21 g126 dc_Ma_init_189 ?_
  refine sx_bipush (v := (6 : Int32)) dc_Ma_init_192 (by decide) ?_
  obtain ⟨g128, hk⟩ := hk.g
  obtain ⟨q127, eq127, hk⟩ := hk.bind
  refine sx_callV (d2 := d - 1) (mc2 := 0) (ms2 := 0) (as := [xI (6 : Int32)]) mk_Ta_lay rfl (x_rk (ci := 6) g128 rfl rfl) wM_Ma_93 mi_Ta_lay me_Ta_lay rfl (Nat.le_of_ble_eq_true rfl) (Nat.le_of_ble_eq_true rfl) dc_Ma_init_194 (by omega) (Nat.zero_le _) (Nat.zero_le _) ?_
  refine t_Ta_lay (by omega) ⟨q127, eq127, ?_⟩
  refine sx_eq0 (lc2 := [some (xR a0), some (xI (4 : Int32))]) (st2 := []) rfl rfl ?_
  refine sx_aload_n dc_Ma_init_197 rfl ?_
  refine sx_iconst (v := (0 : Int32)) dc_Ma_init_198 (by decide) ?_
  obtain ⟨g130, hk⟩ := hk.g
  obtain ⟨q129, eq129, hk⟩ := hk.bind
  refine sx_callV (d2 := d - 1) (mc2 := 0) (ms2 := 0) (as := [xI (0 : Int32)]) mk_Ma_useText rfl (x_rk (ci := 10) g130 rfl rfl) wM_Ma_97 mi_Ma_useText me_Ma_useText rfl (Nat.le_of_ble_eq_true rfl) (Nat.le_of_ble_eq_true rfl) dc_Ma_init_199 (by omega) (Nat.zero_le _) (Nat.zero_le _) ?_
  refine t_Ma_useText (by omega) ⟨q129, eq129, ?_⟩
  refine sx_eq0 (lc2 := [some (xR a0), some (xI (4 : Int32))]) (st2 := []) rfl rfl ?_
  exact sx_retV dc_Ma_init_202 rfl hk.val
theorem dc_Ma_sit_0 : decode M_Ma_sit.2.1 0 = .ok (.iload_n 1, 1) := by decide +kernel
theorem dc_Ma_sit_1 : decode M_Ma_sit.2.1 1 = .ok (.iconst 1, 1) := by decide +kernel
theorem dc_Ma_sit_2 : decode M_Ma_sit.2.1 2 = .ok (.if_icmp .lt 9, 3) := by decide +kernel
theorem dc_Ma_sit_5 : decode M_Ma_sit.2.1 5 = .ok (.iload_n 1, 1) := by decide +kernel
theorem dc_Ma_sit_6 : decode M_Ma_sit.2.1 6 = .ok (.bipush 7, 2) := by decide +kernel
theorem dc_Ma_sit_8 : decode M_Ma_sit.2.1 8 = .ok (.if_icmp .le 6, 3) := by decide +kernel
theorem dc_Ma_sit_11 : decode M_Ma_sit.2.1 11 = .ok (.bipush (-2), 2) := by decide +kernel
theorem dc_Ma_sit_13 : decode M_Ma_sit.2.1 13 = .ok (.ireturn, 1) := by decide +kernel
theorem dc_Ma_sit_14 : decode M_Ma_sit.2.1 14 = .ok (.aload_n 0, 1) := by decide +kernel
theorem dc_Ma_sit_15 : decode M_Ma_sit.2.1 15 = .ok (.getfield 21, 3) := by decide +kernel
theorem dc_Ma_sit_18 : decode M_Ma_sit.2.1 18 = .ok (.getfield 100, 3) := by decide +kernel
theorem dc_Ma_sit_21 : decode M_Ma_sit.2.1 21 = .ok (.istore_n 2, 1) := by decide +kernel
theorem dc_Ma_sit_22 : decode M_Ma_sit.2.1 22 = .ok (.aload_n 0, 1) := by decide +kernel
theorem dc_Ma_sit_23 : decode M_Ma_sit.2.1 23 = .ok (.getfield 21, 3) := by decide +kernel
theorem dc_Ma_sit_26 : decode M_Ma_sit.2.1 26 = .ok (.iload_n 1, 1) := by decide +kernel
theorem dc_Ma_sit_27 : decode M_Ma_sit.2.1 27 = .ok (.invokevirtual 93, 3) := by decide +kernel
theorem dc_Ma_sit_30 : decode M_Ma_sit.2.1 30 = .ok (.aload_n 0, 1) := by decide +kernel
theorem dc_Ma_sit_31 : decode M_Ma_sit.2.1 31 = .ok (.getfield 37, 3) := by decide +kernel
theorem dc_Ma_sit_34 : decode M_Ma_sit.2.1 34 = .ok (.aload_n 0, 1) := by decide +kernel
theorem dc_Ma_sit_35 : decode M_Ma_sit.2.1 35 = .ok (.getfield 30, 3) := by decide +kernel
theorem dc_Ma_sit_38 : decode M_Ma_sit.2.1 38 = .ok (.iload_n 1, 1) := by decide +kernel
theorem dc_Ma_sit_39 : decode M_Ma_sit.2.1 39 = .ok (.invokevirtual 103, 3) := by decide +kernel
theorem dc_Ma_sit_42 : decode M_Ma_sit.2.1 42 = .ok (.iload_n 2, 1) := by decide +kernel
theorem dc_Ma_sit_43 : decode M_Ma_sit.2.1 43 = .ok (.ireturn, 1) := by decide +kernel
def f_Ma_sit (a0 : Nat) (a1 : Int32) (h : xH) : Option (Int32 × xH) := jn (fun (x7 : Unit) => some ((-2 : Int32), h)) (fun k8 => if a1 < (1 : Int32) then k8 () else if a1 ≤ (7 : Int32) then gd (hK h a0 = 10) (gd (hK h (hR h a0 1) = 6) (Option.bind (f_Ta_lay (hR h a0 1) a1 h) (fun q13 => gd (hK q13.2 a0 = 10) (gd (hK q13.2 (hR q13.2 a0 3) = 5) (Option.bind (f_St_weigh (hR q13.2 a0 3) (hR q13.2 a0 2) a1 q13.2) (fun q15 => some (hI h (hR h a0 1) 1, q15.2))))))) else k8 ())
theorem t_Ma_sit {l : Launch} {z : xZ} {d mc ms : Nat} {Ph : Option xV → xH → Prop} {a0 : Nat} {a1 : Int32}  {h : xH} (hd : 7 ≤ d) (hk : OK (f_Ma_sit a0 a1 h) (fun q => Ph (some (xI q.1)) q.2)) : Sx l z d mc ms M_Ma_sit 0 (x_en [xR a0, xI a1] 3) [] h Ph := by
  unfold f_Ma_sit at hk
  refine sx_eq (lc2 := [some (xR a0), some (xI a1), none]) rfl rfl ?_
  refine sx_iload_n dc_Ma_sit_0 rfl ?_
  refine sx_iconst (v := (1 : Int32)) dc_Ma_sit_1 (by decide) ?_
  refine hk.j (X := fun x7 => Sx l z d mc ms M_Ma_sit 11 [some (xR a0), some (xI a1), none] [] h Ph) (fun x7 hk => ?_) (fun k8 jk8 hk => ?_)
  · refine sx_bipush (v := (-2 : Int32)) dc_Ma_sit_11 (by decide) ?_
    exact sx_retI dc_Ma_sit_13 rfl hk.val
  · refine sx_icmp_lt (tgt := 11) dc_Ma_sit_2 (by decide) (fun c9 => ?_) (fun c9 => ?_)
    · replace hk := hk.t c9
      exact jk8 () hk
    · replace hk := hk.f c9
      refine sx_iload_n dc_Ma_sit_5 rfl ?_
      refine sx_bipush (v := (7 : Int32)) dc_Ma_sit_6 (by decide) ?_
      refine sx_icmp_le (tgt := 14) dc_Ma_sit_8 (by decide) (fun c10 => ?_) (fun c10 => ?_)
      · replace hk := hk.t c10
        refine sx_aload_n dc_Ma_sit_14 rfl ?_
        obtain ⟨g11, hk⟩ := hk.g
        refine sx_get (ci := 10) (k := 1) rfl (by decide) wF_Ma_21 g11 dc_Ma_sit_15 ?_
        obtain ⟨g12, hk⟩ := hk.g
        refine sx_get (ci := 6) (k := 1) rfl (by decide) wF_Ma_100 g12 dc_Ma_sit_18 ?_
        refine sx_istore_n dc_Ma_sit_21 (by decide) (sx_eq (lc2 := [some (xR a0), some (xI a1), some (xI (hI h (hR h a0 1) 1))]) rfl rfl ?_)
        refine sx_aload_n dc_Ma_sit_22 rfl ?_
        refine sx_get (ci := 10) (k := 1) rfl (by decide) wF_Ma_21 g11 dc_Ma_sit_23 ?_
        refine sx_iload_n dc_Ma_sit_26 rfl ?_
        obtain ⟨q13, eq13, hk⟩ := hk.bind
        refine sx_callV (d2 := d - 1) (mc2 := 0) (ms2 := 0) (as := [xI a1]) mk_Ta_lay rfl (x_rk (ci := 6) g12 rfl rfl) wM_Ma_93 mi_Ta_lay me_Ta_lay rfl (Nat.le_of_ble_eq_true rfl) (Nat.le_of_ble_eq_true rfl) dc_Ma_sit_27 (by omega) (Nat.zero_le _) (Nat.zero_le _) ?_
        refine t_Ta_lay (by omega) ⟨q13, eq13, ?_⟩
        refine sx_eq0 (lc2 := [some (xR a0), some (xI a1), some (xI (hI h (hR h a0 1) 1))]) (st2 := []) rfl rfl ?_
        refine sx_aload_n dc_Ma_sit_30 rfl ?_
        obtain ⟨g14, hk⟩ := hk.g
        refine sx_get (ci := 10) (k := 3) rfl (by decide) wF_Ma_37 g14 dc_Ma_sit_31 ?_
        refine sx_aload_n dc_Ma_sit_34 rfl ?_
        refine sx_get (ci := 10) (k := 2) rfl (by decide) wF_Ma_30 g14 dc_Ma_sit_35 ?_
        refine sx_iload_n dc_Ma_sit_38 rfl ?_
        obtain ⟨g16, hk⟩ := hk.g
        obtain ⟨q15, eq15, hk⟩ := hk.bind
        refine sx_callV (d2 := d - 1) (mc2 := 0) (ms2 := 0) (as := [xR (hR q13.2 a0 2), xI a1]) mk_St_weigh rfl (x_rk (ci := 5) g16 rfl rfl) wM_Ma_103 mi_St_weigh me_St_weigh rfl (Nat.le_of_ble_eq_true rfl) (Nat.le_of_ble_eq_true rfl) dc_Ma_sit_39 (by omega) (Nat.zero_le _) (Nat.zero_le _) ?_
        refine t_St_weigh (by omega) ⟨q15, eq15, ?_⟩
        refine sx_eq0 (lc2 := [some (xR a0), some (xI a1), some (xI (hI h (hR h a0 1) 1))]) (st2 := []) rfl rfl ?_
        refine sx_iload_n dc_Ma_sit_42 rfl ?_
        exact sx_retI dc_Ma_sit_43 rfl hk.val
      · replace hk := hk.f c10
        exact jk8 () hk
theorem dc_Ma_isGuest_0 : decode M_Ma_isGuest.2.1 0 = .ok (.iload_n 1, 1) := by decide +kernel
theorem dc_Ma_isGuest_1 : decode M_Ma_isGuest.2.1 1 = .ok (.ifCond .lt 18, 3) := by decide +kernel
theorem dc_Ma_isGuest_4 : decode M_Ma_isGuest.2.1 4 = .ok (.iload_n 1, 1) := by decide +kernel
theorem dc_Ma_isGuest_5 : decode M_Ma_isGuest.2.1 5 = .ok (.aload_n 0, 1) := by decide +kernel
theorem dc_Ma_isGuest_6 : decode M_Ma_isGuest.2.1 6 = .ok (.getfield 21, 3) := by decide +kernel
theorem dc_Ma_isGuest_9 : decode M_Ma_isGuest.2.1 9 = .ok (.getfield 100, 3) := by decide +kernel
theorem dc_Ma_isGuest_12 : decode M_Ma_isGuest.2.1 12 = .ok (.if_icmp .ge 7, 3) := by decide +kernel
theorem dc_Ma_isGuest_15 : decode M_Ma_isGuest.2.1 15 = .ok (.iconst 1, 1) := by decide +kernel
theorem dc_Ma_isGuest_16 : decode M_Ma_isGuest.2.1 16 = .ok (.goto 4, 3) := by decide +kernel
theorem dc_Ma_isGuest_19 : decode M_Ma_isGuest.2.1 19 = .ok (.iconst 0, 1) := by decide +kernel
theorem dc_Ma_isGuest_20 : decode M_Ma_isGuest.2.1 20 = .ok (.ireturn, 1) := by decide +kernel
def f_Ma_isGuest (a0 : Nat) (a1 : Int32) (h : xH) : Option (Int32 × xH) := jn (fun (x3 : Int32) => some (nb x3, h)) (fun k4 => jn (fun (x5 : Unit) => k4 (0 : Int32)) (fun k6 => if a1 < 0 then k6 () else gd (hK h a0 = 10) (gd (hK h (hR h a0 1) = 6) (if (hI h (hR h a0 1) 1) ≤ a1 then k6 () else k4 (1 : Int32)))))
theorem t_Ma_isGuest {l : Launch} {z : xZ} {d mc ms : Nat} {Ph : Option xV → xH → Prop} {a0 : Nat} {a1 : Int32}  {h : xH} (hd : 1 ≤ d) (hk : OK (f_Ma_isGuest a0 a1 h) (fun q => Ph (some (xI q.1)) q.2)) : Sx l z d mc ms M_Ma_isGuest 0 (x_en [xR a0, xI a1] 2) [] h Ph := by
  unfold f_Ma_isGuest at hk
  refine sx_eq (lc2 := [some (xR a0), some (xI a1)]) rfl rfl ?_
  refine sx_iload_n dc_Ma_isGuest_0 rfl ?_
  refine hk.j (X := fun x3 => Sx l z d mc ms M_Ma_isGuest 20 [some (xR a0), some (xI a1)] [xI x3] h Ph) (fun x3 hk => ?_) (fun k4 jk4 hk => ?_)
  · exact sx_retT dc_Ma_isGuest_20 (Or.inl ⟨rfl, rfl⟩) rfl hk.val
  · refine hk.j (X := fun x5 => Sx l z d mc ms M_Ma_isGuest 19 [some (xR a0), some (xI a1)] [] h Ph) (fun x5 hk => ?_) (fun k6 jk6 hk => ?_)
    · refine sx_iconst (v := (0 : Int32)) dc_Ma_isGuest_19 (by decide) ?_
      exact jk4 (0 : Int32) hk
    · refine sx_if_lt (tgt := 19) dc_Ma_isGuest_1 (by decide) (fun c7 => ?_) (fun c7 => ?_)
      · replace hk := hk.t c7
        exact jk6 () hk
      · replace hk := hk.f c7
        refine sx_iload_n dc_Ma_isGuest_4 rfl ?_
        refine sx_aload_n dc_Ma_isGuest_5 rfl ?_
        obtain ⟨g8, hk⟩ := hk.g
        refine sx_get (ci := 10) (k := 1) rfl (by decide) wF_Ma_21 g8 dc_Ma_isGuest_6 ?_
        obtain ⟨g9, hk⟩ := hk.g
        refine sx_get (ci := 6) (k := 1) rfl (by decide) wF_Ma_100 g9 dc_Ma_isGuest_9 ?_
        refine sx_icmp_ge (tgt := 19) dc_Ma_isGuest_12 (by decide) (fun c10 => ?_) (fun c10 => ?_)
        · replace hk := hk.t c10
          exact jk6 () hk
        · replace hk := hk.f c10
          refine sx_iconst (v := (1 : Int32)) dc_Ma_isGuest_15 (by decide) ?_
          refine sx_goto (tgt := 20) dc_Ma_isGuest_16 (by decide) ?_
          exact jk4 (1 : Int32) hk
theorem dc_Ma_pairNumber_0 : decode M_Ma_pairNumber.2.1 0 = .ok (.aload_n 0, 1) := by decide +kernel
theorem dc_Ma_pairNumber_1 : decode M_Ma_pairNumber.2.1 1 = .ok (.iload_n 1, 1) := by decide +kernel
theorem dc_Ma_pairNumber_2 : decode M_Ma_pairNumber.2.1 2 = .ok (.invokevirtual 144, 3) := by decide +kernel
theorem dc_Ma_pairNumber_5 : decode M_Ma_pairNumber.2.1 5 = .ok (.ifCond .eq 24, 3) := by decide +kernel
theorem dc_Ma_pairNumber_8 : decode M_Ma_pairNumber.2.1 8 = .ok (.aload_n 0, 1) := by decide +kernel
theorem dc_Ma_pairNumber_9 : decode M_Ma_pairNumber.2.1 9 = .ok (.iload_n 2, 1) := by decide +kernel
theorem dc_Ma_pairNumber_10 : decode M_Ma_pairNumber.2.1 10 = .ok (.invokevirtual 144, 3) := by decide +kernel
theorem dc_Ma_pairNumber_13 : decode M_Ma_pairNumber.2.1 13 = .ok (.ifCond .eq 16, 3) := by decide +kernel
theorem dc_Ma_pairNumber_16 : decode M_Ma_pairNumber.2.1 16 = .ok (.iload_n 1, 1) := by decide +kernel
theorem dc_Ma_pairNumber_17 : decode M_Ma_pairNumber.2.1 17 = .ok (.iload_n 2, 1) := by decide +kernel
theorem dc_Ma_pairNumber_18 : decode M_Ma_pairNumber.2.1 18 = .ok (.if_icmp .eq 11, 3) := by decide +kernel
theorem dc_Ma_pairNumber_21 : decode M_Ma_pairNumber.2.1 21 = .ok (.iload_n 1, 1) := by decide +kernel
theorem dc_Ma_pairNumber_22 : decode M_Ma_pairNumber.2.1 22 = .ok (.iload_n 2, 1) := by decide +kernel
theorem dc_Ma_pairNumber_23 : decode M_Ma_pairNumber.2.1 23 = .ok (.invokestatic 159, 3) := by decide +kernel
theorem dc_Ma_pairNumber_26 : decode M_Ma_pairNumber.2.1 26 = .ok (.goto 4, 3) := by decide +kernel
theorem dc_Ma_pairNumber_29 : decode M_Ma_pairNumber.2.1 29 = .ok (.iconst (-1), 1) := by decide +kernel
theorem dc_Ma_pairNumber_30 : decode M_Ma_pairNumber.2.1 30 = .ok (.ireturn, 1) := by decide +kernel
def f_Ma_pairNumber (a0 : Nat) (a1 : Int32) (a2 : Int32) (h : xH) : Option (Int32 × xH) := gd (hK h a0 = 10) (Option.bind (f_Ma_isGuest a0 a1 h) (fun q6 => jn (fun (x8 : Int32 × xH) => some (x8.1, x8.2)) (fun k9 => jn (fun (x10 : xH) => k9 ((-1 : Int32), x10)) (fun k11 => if q6.1 = 0 then k11 q6.2 else gd (hK q6.2 a0 = 10) (Option.bind (f_Ma_isGuest a0 a2 q6.2) (fun q13 => if q13.1 = 0 then k11 q13.2 else if a1 = a2 then k11 q13.2 else Option.bind (f_Se_pairOf a1 a2 q13.2) (fun q17 => k9 (q17.1, q17.2))))))))
theorem t_Ma_pairNumber {l : Launch} {z : xZ} {d mc ms : Nat} {Ph : Option xV → xH → Prop} {a0 : Nat} {a1 : Int32} {a2 : Int32}  {h : xH} (hd : 3 ≤ d) (hk : OK (f_Ma_pairNumber a0 a1 a2 h) (fun q => Ph (some (xI q.1)) q.2)) : Sx l z d mc ms M_Ma_pairNumber 0 (x_en [xR a0, xI a1, xI a2] 3) [] h Ph := by
  unfold f_Ma_pairNumber at hk
  refine sx_eq (lc2 := [some (xR a0), some (xI a1), some (xI a2)]) rfl rfl ?_
  refine sx_aload_n dc_Ma_pairNumber_0 rfl ?_
  refine sx_iload_n dc_Ma_pairNumber_1 rfl ?_
  obtain ⟨g7, hk⟩ := hk.g
  obtain ⟨q6, eq6, hk⟩ := hk.bind
  refine sx_callV (d2 := d - 1) (mc2 := 0) (ms2 := 0) (as := [xI a1]) mk_Ma_isGuest rfl (x_rk (ci := 10) g7 rfl rfl) wM_Ma_144 mi_Ma_isGuest me_Ma_isGuest rfl (Nat.le_of_ble_eq_true rfl) (Nat.le_of_ble_eq_true rfl) dc_Ma_pairNumber_2 (by omega) (Nat.zero_le _) (Nat.zero_le _) ?_
  refine t_Ma_isGuest (by omega) ⟨q6, eq6, ?_⟩
  refine sx_eq0 (lc2 := [some (xR a0), some (xI a1), some (xI a2)]) (st2 := [xI q6.1]) rfl rfl ?_
  refine hk.j (X := fun x8 => Sx l z d mc ms M_Ma_pairNumber 30 [some (xR a0), some (xI a1), some (xI a2)] [xI x8.1] x8.2 Ph) (fun x8 hk => ?_) (fun k9 jk9 hk => ?_)
  · exact sx_retI dc_Ma_pairNumber_30 rfl hk.val
  · refine hk.j (X := fun x10 => Sx l z d mc ms M_Ma_pairNumber 29 [some (xR a0), some (xI a1), some (xI a2)] [] x10 Ph) (fun x10 hk => ?_) (fun k11 jk11 hk => ?_)
    · refine sx_iconst (v := (-1 : Int32)) dc_Ma_pairNumber_29 (by decide) ?_
      exact jk9 ((-1 : Int32), x10) hk
    · refine sx_if_eq (tgt := 29) dc_Ma_pairNumber_5 (by decide) (fun c12 => ?_) (fun c12 => ?_)
      · replace hk := hk.t c12
        exact jk11 q6.2 hk
      · replace hk := hk.f c12
        refine sx_aload_n dc_Ma_pairNumber_8 rfl ?_
        refine sx_iload_n dc_Ma_pairNumber_9 rfl ?_
        obtain ⟨g14, hk⟩ := hk.g
        obtain ⟨q13, eq13, hk⟩ := hk.bind
        refine sx_callV (d2 := d - 1) (mc2 := 0) (ms2 := 0) (as := [xI a2]) mk_Ma_isGuest rfl (x_rk (ci := 10) g14 rfl rfl) wM_Ma_144 mi_Ma_isGuest me_Ma_isGuest rfl (Nat.le_of_ble_eq_true rfl) (Nat.le_of_ble_eq_true rfl) dc_Ma_pairNumber_10 (by omega) (Nat.zero_le _) (Nat.zero_le _) ?_
        refine t_Ma_isGuest (by omega) ⟨q13, eq13, ?_⟩
        refine sx_eq0 (lc2 := [some (xR a0), some (xI a1), some (xI a2)]) (st2 := [xI q13.1]) rfl rfl ?_
        refine sx_if_eq (tgt := 29) dc_Ma_pairNumber_13 (by decide) (fun c15 => ?_) (fun c15 => ?_)
        · replace hk := hk.t c15
          exact jk11 q13.2 hk
        · replace hk := hk.f c15
          refine sx_iload_n dc_Ma_pairNumber_16 rfl ?_
          refine sx_iload_n dc_Ma_pairNumber_17 rfl ?_
          refine sx_icmp_eq (tgt := 29) dc_Ma_pairNumber_18 (by decide) (fun c16 => ?_) (fun c16 => ?_)
          · replace hk := hk.t c16
            exact jk11 q13.2 hk
          · replace hk := hk.f c16
            refine sx_iload_n dc_Ma_pairNumber_21 rfl ?_
            refine sx_iload_n dc_Ma_pairNumber_22 rfl ?_
            obtain ⟨q17, eq17, hk⟩ := hk.bind
            refine sx_callS (d2 := d - 1) (mc2 := 0) (ms2 := 0) (as := [xI a1, xI a2]) mk_Se_pairOf rfl wM_Ma_159 mt_Se_pairOf rfl (Nat.le_of_ble_eq_true rfl) (Nat.le_of_ble_eq_true rfl) dc_Ma_pairNumber_23 (by omega) (Nat.zero_le _) (Nat.zero_le _) ?_
            refine t_Se_pairOf (by omega) ⟨q17, eq17, ?_⟩
            refine sx_eq0 (lc2 := [some (xR a0), some (xI a1), some (xI a2)]) (st2 := [xI q17.1]) rfl rfl ?_
            refine sx_goto (tgt := 30) dc_Ma_pairNumber_26 (by decide) ?_
            exact jk9 (q17.1, q17.2) hk
theorem dc_Ma_meet_0 : decode M_Ma_meet.2.1 0 = .ok (.aload_n 0, 1) := by decide +kernel
theorem dc_Ma_meet_1 : decode M_Ma_meet.2.1 1 = .ok (.iload_n 1, 1) := by decide +kernel
theorem dc_Ma_meet_2 : decode M_Ma_meet.2.1 2 = .ok (.iload_n 2, 1) := by decide +kernel
theorem dc_Ma_meet_3 : decode M_Ma_meet.2.1 3 = .ok (.invokevirtual 107, 3) := by decide +kernel
theorem dc_Ma_meet_6 : decode M_Ma_meet.2.1 6 = .ok (.istore 4, 2) := by decide +kernel
theorem dc_Ma_meet_8 : decode M_Ma_meet.2.1 8 = .ok (.iload 4, 2) := by decide +kernel
theorem dc_Ma_meet_10 : decode M_Ma_meet.2.1 10 = .ok (.ifCond .lt 12, 3) := by decide +kernel
theorem dc_Ma_meet_13 : decode M_Ma_meet.2.1 13 = .ok (.iload_n 3, 1) := by decide +kernel
theorem dc_Ma_meet_14 : decode M_Ma_meet.2.1 14 = .ok (.ifCond .lt 8, 3) := by decide +kernel
theorem dc_Ma_meet_17 : decode M_Ma_meet.2.1 17 = .ok (.iload_n 3, 1) := by decide +kernel
theorem dc_Ma_meet_18 : decode M_Ma_meet.2.1 18 = .ok (.iconst 2, 1) := by decide +kernel
theorem dc_Ma_meet_19 : decode M_Ma_meet.2.1 19 = .ok (.if_icmp .le 6, 3) := by decide +kernel
theorem dc_Ma_meet_22 : decode M_Ma_meet.2.1 22 = .ok (.bipush (-2), 2) := by decide +kernel
theorem dc_Ma_meet_24 : decode M_Ma_meet.2.1 24 = .ok (.ireturn, 1) := by decide +kernel
theorem dc_Ma_meet_25 : decode M_Ma_meet.2.1 25 = .ok (.aload_n 0, 1) := by decide +kernel
theorem dc_Ma_meet_26 : decode M_Ma_meet.2.1 26 = .ok (.getfield 21, 3) := by decide +kernel
theorem dc_Ma_meet_29 : decode M_Ma_meet.2.1 29 = .ok (.iload 4, 2) := by decide +kernel
theorem dc_Ma_meet_31 : decode M_Ma_meet.2.1 31 = .ok (.invokevirtual 111, 3) := by decide +kernel
theorem dc_Ma_meet_34 : decode M_Ma_meet.2.1 34 = .ok (.istore 5, 2) := by decide +kernel
theorem dc_Ma_meet_36 : decode M_Ma_meet.2.1 36 = .ok (.aload_n 0, 1) := by decide +kernel
theorem dc_Ma_meet_37 : decode M_Ma_meet.2.1 37 = .ok (.getfield 21, 3) := by decide +kernel
theorem dc_Ma_meet_40 : decode M_Ma_meet.2.1 40 = .ok (.iload 4, 2) := by decide +kernel
theorem dc_Ma_meet_42 : decode M_Ma_meet.2.1 42 = .ok (.iload_n 3, 1) := by decide +kernel
theorem dc_Ma_meet_43 : decode M_Ma_meet.2.1 43 = .ok (.invokevirtual 115, 3) := by decide +kernel
theorem dc_Ma_meet_46 : decode M_Ma_meet.2.1 46 = .ok (.iload 5, 2) := by decide +kernel
theorem dc_Ma_meet_48 : decode M_Ma_meet.2.1 48 = .ok (.ireturn, 1) := by decide +kernel
def f_Ma_meet (a0 : Nat) (a1 : Int32) (a2 : Int32) (a3 : Int32) (h : xH) : Option (Int32 × xH) := gd (hK h a0 = 10) (Option.bind (f_Ma_pairNumber a0 a1 a2 h) (fun q9 => jn (fun (x11 : Unit) => some ((-2 : Int32), q9.2)) (fun k12 => if q9.1 < 0 then k12 () else if a3 < 0 then k12 () else if a3 ≤ (2 : Int32) then gd (hK q9.2 a0 = 10) (gd (hK q9.2 (hR q9.2 a0 1) = 6) (Option.bind (f_Ta_look (hR q9.2 a0 1) q9.1 q9.2) (fun q17 => gd (hK q17.2 a0 = 10) (gd (hK q17.2 (hR q17.2 a0 1) = 6) (Option.bind (f_Ta_put (hR q17.2 a0 1) q9.1 a3 q17.2) (fun q20 => some (q17.1, q20.2))))))) else k12 ())))
theorem t_Ma_meet {l : Launch} {z : xZ} {d mc ms : Nat} {Ph : Option xV → xH → Prop} {a0 : Nat} {a1 : Int32} {a2 : Int32} {a3 : Int32}  {h : xH} (hd : 4 ≤ d) (hk : OK (f_Ma_meet a0 a1 a2 a3 h) (fun q => Ph (some (xI q.1)) q.2)) : Sx l z d mc ms M_Ma_meet 0 (x_en [xR a0, xI a1, xI a2, xI a3] 6) [] h Ph := by
  unfold f_Ma_meet at hk
  refine sx_eq (lc2 := [some (xR a0), some (xI a1), some (xI a2), some (xI a3), none, none]) rfl rfl ?_
  refine sx_aload_n dc_Ma_meet_0 rfl ?_
  refine sx_iload_n dc_Ma_meet_1 rfl ?_
  refine sx_iload_n dc_Ma_meet_2 rfl ?_
  obtain ⟨g10, hk⟩ := hk.g
  obtain ⟨q9, eq9, hk⟩ := hk.bind
  refine sx_callV (d2 := d - 1) (mc2 := 0) (ms2 := 0) (as := [xI a1, xI a2]) mk_Ma_pairNumber rfl (x_rk (ci := 10) g10 rfl rfl) wM_Ma_107 mi_Ma_pairNumber me_Ma_pairNumber rfl (Nat.le_of_ble_eq_true rfl) (Nat.le_of_ble_eq_true rfl) dc_Ma_meet_3 (by omega) (Nat.zero_le _) (Nat.zero_le _) ?_
  refine t_Ma_pairNumber (by omega) ⟨q9, eq9, ?_⟩
  refine sx_eq0 (lc2 := [some (xR a0), some (xI a1), some (xI a2), some (xI a3), none, none]) (st2 := [xI q9.1]) rfl rfl ?_
  refine sx_istore dc_Ma_meet_6 (by decide) (sx_eq (lc2 := [some (xR a0), some (xI a1), some (xI a2), some (xI a3), some (xI q9.1), none]) rfl rfl ?_)
  refine sx_iload dc_Ma_meet_8 rfl ?_
  refine hk.j (X := fun x11 => Sx l z d mc ms M_Ma_meet 22 [some (xR a0), some (xI a1), some (xI a2), some (xI a3), some (xI q9.1), none] [] q9.2 Ph) (fun x11 hk => ?_) (fun k12 jk12 hk => ?_)
  · refine sx_bipush (v := (-2 : Int32)) dc_Ma_meet_22 (by decide) ?_
    exact sx_retI dc_Ma_meet_24 rfl hk.val
  · refine sx_if_lt (tgt := 22) dc_Ma_meet_10 (by decide) (fun c13 => ?_) (fun c13 => ?_)
    · replace hk := hk.t c13
      exact jk12 () hk
    · replace hk := hk.f c13
      refine sx_iload_n dc_Ma_meet_13 rfl ?_
      refine sx_if_lt (tgt := 22) dc_Ma_meet_14 (by decide) (fun c14 => ?_) (fun c14 => ?_)
      · replace hk := hk.t c14
        exact jk12 () hk
      · replace hk := hk.f c14
        refine sx_iload_n dc_Ma_meet_17 rfl ?_
        refine sx_iconst (v := (2 : Int32)) dc_Ma_meet_18 (by decide) ?_
        refine sx_icmp_le (tgt := 25) dc_Ma_meet_19 (by decide) (fun c15 => ?_) (fun c15 => ?_)
        · replace hk := hk.t c15
          refine sx_aload_n dc_Ma_meet_25 rfl ?_
          obtain ⟨g16, hk⟩ := hk.g
          refine sx_get (ci := 10) (k := 1) rfl (by decide) wF_Ma_21 g16 dc_Ma_meet_26 ?_
          refine sx_iload dc_Ma_meet_29 rfl ?_
          obtain ⟨g18, hk⟩ := hk.g
          obtain ⟨q17, eq17, hk⟩ := hk.bind
          refine sx_callV (d2 := d - 1) (mc2 := 0) (ms2 := 0) (as := [xI q9.1]) mk_Ta_look rfl (x_rk (ci := 6) g18 rfl rfl) wM_Ma_111 mi_Ta_look me_Ta_look rfl (Nat.le_of_ble_eq_true rfl) (Nat.le_of_ble_eq_true rfl) dc_Ma_meet_31 (by omega) (Nat.zero_le _) (Nat.zero_le _) ?_
          refine t_Ta_look (by omega) ⟨q17, eq17, ?_⟩
          refine sx_eq0 (lc2 := [some (xR a0), some (xI a1), some (xI a2), some (xI a3), some (xI q9.1), none]) (st2 := [xI q17.1]) rfl rfl ?_
          refine sx_istore dc_Ma_meet_34 (by decide) (sx_eq (lc2 := [some (xR a0), some (xI a1), some (xI a2), some (xI a3), some (xI q9.1), some (xI q17.1)]) rfl rfl ?_)
          refine sx_aload_n dc_Ma_meet_36 rfl ?_
          obtain ⟨g19, hk⟩ := hk.g
          refine sx_get (ci := 10) (k := 1) rfl (by decide) wF_Ma_21 g19 dc_Ma_meet_37 ?_
          refine sx_iload dc_Ma_meet_40 rfl ?_
          refine sx_iload_n dc_Ma_meet_42 rfl ?_
          obtain ⟨g21, hk⟩ := hk.g
          obtain ⟨q20, eq20, hk⟩ := hk.bind
          refine sx_callV (d2 := d - 1) (mc2 := 0) (ms2 := 0) (as := [xI q9.1, xI a3]) mk_Ta_put rfl (x_rk (ci := 6) g21 rfl rfl) wM_Ma_115 mi_Ta_put me_Ta_put rfl (Nat.le_of_ble_eq_true rfl) (Nat.le_of_ble_eq_true rfl) dc_Ma_meet_43 (by omega) (Nat.zero_le _) (Nat.zero_le _) ?_
          refine t_Ta_put (by omega) ⟨q20, eq20, ?_⟩
          refine sx_eq0 (lc2 := [some (xR a0), some (xI a1), some (xI a2), some (xI a3), some (xI q9.1), some (xI q17.1)]) (st2 := []) rfl rfl ?_
          refine sx_iload dc_Ma_meet_46 rfl ?_
          exact sx_retI dc_Ma_meet_48 rfl hk.val
        · replace hk := hk.f c15
          exact jk12 () hk
theorem dc_Ma_told_0 : decode M_Ma_told.2.1 0 = .ok (.aload_n 0, 1) := by decide +kernel
theorem dc_Ma_told_1 : decode M_Ma_told.2.1 1 = .ok (.iload_n 1, 1) := by decide +kernel
theorem dc_Ma_told_2 : decode M_Ma_told.2.1 2 = .ok (.iload_n 2, 1) := by decide +kernel
theorem dc_Ma_told_3 : decode M_Ma_told.2.1 3 = .ok (.invokevirtual 107, 3) := by decide +kernel
theorem dc_Ma_told_6 : decode M_Ma_told.2.1 6 = .ok (.istore_n 3, 1) := by decide +kernel
theorem dc_Ma_told_7 : decode M_Ma_told.2.1 7 = .ok (.iload_n 3, 1) := by decide +kernel
theorem dc_Ma_told_8 : decode M_Ma_told.2.1 8 = .ok (.ifCond .ge 8, 3) := by decide +kernel
theorem dc_Ma_told_11 : decode M_Ma_told.2.1 11 = .ok (.bipush (-2), 2) := by decide +kernel
theorem dc_Ma_told_13 : decode M_Ma_told.2.1 13 = .ok (.goto 11, 3) := by decide +kernel
theorem dc_Ma_told_16 : decode M_Ma_told.2.1 16 = .ok (.aload_n 0, 1) := by decide +kernel
theorem dc_Ma_told_17 : decode M_Ma_told.2.1 17 = .ok (.getfield 21, 3) := by decide +kernel
theorem dc_Ma_told_20 : decode M_Ma_told.2.1 20 = .ok (.iload_n 3, 1) := by decide +kernel
theorem dc_Ma_told_21 : decode M_Ma_told.2.1 21 = .ok (.invokevirtual 111, 3) := by decide +kernel
theorem dc_Ma_told_24 : decode M_Ma_told.2.1 24 = .ok (.ireturn, 1) := by decide +kernel
def f_Ma_told (a0 : Nat) (a1 : Int32) (a2 : Int32) (h : xH) : Option (Int32 × xH) := gd (hK h a0 = 10) (Option.bind (f_Ma_pairNumber a0 a1 a2 h) (fun q6 => jn (fun (x8 : Int32 × xH) => some (x8.1, x8.2)) (fun k9 => if 0 ≤ q6.1 then gd (hK q6.2 a0 = 10) (gd (hK q6.2 (hR q6.2 a0 1) = 6) (Option.bind (f_Ta_look (hR q6.2 a0 1) q6.1 q6.2) (fun q12 => k9 (q12.1, q12.2)))) else k9 ((-2 : Int32), q6.2))))
theorem t_Ma_told {l : Launch} {z : xZ} {d mc ms : Nat} {Ph : Option xV → xH → Prop} {a0 : Nat} {a1 : Int32} {a2 : Int32}  {h : xH} (hd : 4 ≤ d) (hk : OK (f_Ma_told a0 a1 a2 h) (fun q => Ph (some (xI q.1)) q.2)) : Sx l z d mc ms M_Ma_told 0 (x_en [xR a0, xI a1, xI a2] 4) [] h Ph := by
  unfold f_Ma_told at hk
  refine sx_eq (lc2 := [some (xR a0), some (xI a1), some (xI a2), none]) rfl rfl ?_
  refine sx_aload_n dc_Ma_told_0 rfl ?_
  refine sx_iload_n dc_Ma_told_1 rfl ?_
  refine sx_iload_n dc_Ma_told_2 rfl ?_
  obtain ⟨g7, hk⟩ := hk.g
  obtain ⟨q6, eq6, hk⟩ := hk.bind
  refine sx_callV (d2 := d - 1) (mc2 := 0) (ms2 := 0) (as := [xI a1, xI a2]) mk_Ma_pairNumber rfl (x_rk (ci := 10) g7 rfl rfl) wM_Ma_107 mi_Ma_pairNumber me_Ma_pairNumber rfl (Nat.le_of_ble_eq_true rfl) (Nat.le_of_ble_eq_true rfl) dc_Ma_told_3 (by omega) (Nat.zero_le _) (Nat.zero_le _) ?_
  refine t_Ma_pairNumber (by omega) ⟨q6, eq6, ?_⟩
  refine sx_eq0 (lc2 := [some (xR a0), some (xI a1), some (xI a2), none]) (st2 := [xI q6.1]) rfl rfl ?_
  refine sx_istore_n dc_Ma_told_6 (by decide) (sx_eq (lc2 := [some (xR a0), some (xI a1), some (xI a2), some (xI q6.1)]) rfl rfl ?_)
  refine sx_iload_n dc_Ma_told_7 rfl ?_
  refine hk.j (X := fun x8 => Sx l z d mc ms M_Ma_told 24 [some (xR a0), some (xI a1), some (xI a2), some (xI q6.1)] [xI x8.1] x8.2 Ph) (fun x8 hk => ?_) (fun k9 jk9 hk => ?_)
  · exact sx_retI dc_Ma_told_24 rfl hk.val
  · refine sx_if_ge (tgt := 16) dc_Ma_told_8 (by decide) (fun c10 => ?_) (fun c10 => ?_)
    · replace hk := hk.t c10
      refine sx_aload_n dc_Ma_told_16 rfl ?_
      obtain ⟨g11, hk⟩ := hk.g
      refine sx_get (ci := 10) (k := 1) rfl (by decide) wF_Ma_21 g11 dc_Ma_told_17 ?_
      refine sx_iload_n dc_Ma_told_20 rfl ?_
      obtain ⟨g13, hk⟩ := hk.g
      obtain ⟨q12, eq12, hk⟩ := hk.bind
      refine sx_callV (d2 := d - 1) (mc2 := 0) (ms2 := 0) (as := [xI q6.1]) mk_Ta_look rfl (x_rk (ci := 6) g13 rfl rfl) wM_Ma_111 mi_Ta_look me_Ta_look rfl (Nat.le_of_ble_eq_true rfl) (Nat.le_of_ble_eq_true rfl) dc_Ma_told_21 (by omega) (Nat.zero_le _) (Nat.zero_le _) ?_
      refine t_Ta_look (by omega) ⟨q12, eq12, ?_⟩
      refine sx_eq0 (lc2 := [some (xR a0), some (xI a1), some (xI a2), some (xI q6.1)]) (st2 := [xI q12.1]) rfl rfl ?_
      exact jk9 (q12.1, q12.2) hk
    · replace hk := hk.f c10
      refine sx_bipush (v := (-2 : Int32)) dc_Ma_told_11 (by decide) ?_
      refine sx_goto (tgt := 24) dc_Ma_told_13 (by decide) ?_
      exact jk9 ((-2 : Int32), q6.2) hk
theorem dc_Ma_town_0 : decode M_Ma_town.2.1 0 = .ok (.iload_n 1, 1) := by decide +kernel
theorem dc_Ma_town_1 : decode M_Ma_town.2.1 1 = .ok (.ifCond .lt 19, 3) := by decide +kernel
theorem dc_Ma_town_4 : decode M_Ma_town.2.1 4 = .ok (.iload_n 1, 1) := by decide +kernel
theorem dc_Ma_town_5 : decode M_Ma_town.2.1 5 = .ok (.bipush 6, 2) := by decide +kernel
theorem dc_Ma_town_7 : decode M_Ma_town.2.1 7 = .ok (.if_icmp .ge 13, 3) := by decide +kernel
theorem dc_Ma_town_10 : decode M_Ma_town.2.1 10 = .ok (.iload_n 2, 1) := by decide +kernel
theorem dc_Ma_town_11 : decode M_Ma_town.2.1 11 = .ok (.ifCond .lt 9, 3) := by decide +kernel
theorem dc_Ma_town_14 : decode M_Ma_town.2.1 14 = .ok (.iload_n 2, 1) := by decide +kernel
theorem dc_Ma_town_15 : decode M_Ma_town.2.1 15 = .ok (.bipush 9, 2) := by decide +kernel
theorem dc_Ma_town_17 : decode M_Ma_town.2.1 17 = .ok (.if_icmp .le 6, 3) := by decide +kernel
theorem dc_Ma_town_20 : decode M_Ma_town.2.1 20 = .ok (.bipush (-2), 2) := by decide +kernel
theorem dc_Ma_town_22 : decode M_Ma_town.2.1 22 = .ok (.ireturn, 1) := by decide +kernel
theorem dc_Ma_town_23 : decode M_Ma_town.2.1 23 = .ok (.aload_n 0, 1) := by decide +kernel
theorem dc_Ma_town_24 : decode M_Ma_town.2.1 24 = .ok (.getfield 119, 3) := by decide +kernel
theorem dc_Ma_town_27 : decode M_Ma_town.2.1 27 = .ok (.iconst 5, 1) := by decide +kernel
theorem dc_Ma_town_28 : decode M_Ma_town.2.1 28 = .ok (.if_icmp .lt 6, 3) := by decide +kernel
theorem dc_Ma_town_31 : decode M_Ma_town.2.1 31 = .ok (.bipush (-4), 2) := by decide +kernel
theorem dc_Ma_town_33 : decode M_Ma_town.2.1 33 = .ok (.ireturn, 1) := by decide +kernel
theorem dc_Ma_town_34 : decode M_Ma_town.2.1 34 = .ok (.aload_n 0, 1) := by decide +kernel
theorem dc_Ma_town_35 : decode M_Ma_town.2.1 35 = .ok (.getfield 72, 3) := by decide +kernel
theorem dc_Ma_town_38 : decode M_Ma_town.2.1 38 = .ok (.aload_n 0, 1) := by decide +kernel
theorem dc_Ma_town_39 : decode M_Ma_town.2.1 39 = .ok (.getfield 119, 3) := by decide +kernel
theorem dc_Ma_town_42 : decode M_Ma_town.2.1 42 = .ok (.new 70, 3) := by decide +kernel
theorem dc_Ma_town_45 : decode M_Ma_town.2.1 45 = .ok (.dup, 1) := by decide +kernel
theorem dc_Ma_town_46 : decode M_Ma_town.2.1 46 = .ok (.iload_n 1, 1) := by decide +kernel
theorem dc_Ma_town_47 : decode M_Ma_town.2.1 47 = .ok (.iload_n 2, 1) := by decide +kernel
theorem dc_Ma_town_48 : decode M_Ma_town.2.1 48 = .ok (.invokespecial 122, 3) := by decide +kernel
theorem dc_Ma_town_51 : decode M_Ma_town.2.1 51 = .ok (.aastore, 1) := by decide +kernel
theorem dc_Ma_town_52 : decode M_Ma_town.2.1 52 = .ok (.aload_n 0, 1) := by decide +kernel
theorem dc_Ma_town_53 : decode M_Ma_town.2.1 53 = .ok (.dup, 1) := by decide +kernel
theorem dc_Ma_town_54 : decode M_Ma_town.2.1 54 = .ok (.getfield 119, 3) := by decide +kernel
theorem dc_Ma_town_57 : decode M_Ma_town.2.1 57 = .ok (.dup_x1, 1) := by decide +kernel
theorem dc_Ma_town_58 : decode M_Ma_town.2.1 58 = .ok (.iconst 1, 1) := by decide +kernel
theorem dc_Ma_town_59 : decode M_Ma_town.2.1 59 = .ok (.iadd, 1) := by decide +kernel
theorem dc_Ma_town_60 : decode M_Ma_town.2.1 60 = .ok (.putfield 119, 3) := by decide +kernel
theorem dc_Ma_town_63 : decode M_Ma_town.2.1 63 = .ok (.ireturn, 1) := by decide +kernel
def f_Ma_town (a0 : Nat) (a1 : Int32) (a2 : Int32) (h : xH) : Option (Int32 × xH) := jn (fun (x7 : Unit) => some ((-2 : Int32), h)) (fun k8 => if a1 < 0 then k8 () else if (6 : Int32) ≤ a1 then k8 () else if a2 < 0 then k8 () else if a2 ≤ (9 : Int32) then gd (hK h a0 = 10) (if (hI h a0 12) < (5 : Int32) then hp (hNw h 8 0) (fun h15 => Option.bind (f_To_init (hN h) a1 a2 h15) (fun q17 => gd (hK q17.2 (hR h a0 8) = 15) (gd (hK q17.2 (hN h) = 8) (gd (¬ ((hI h a0 12) < 0 ∨ hL q17.2 (hR h a0 8) ≤ (hI h a0 12).toNatClampNeg)) (gd (hK q17.2 a0 = 10) (some (hI q17.2 a0 12, hIu (hRu q17.2 (hR h a0 8) (hI h a0 12).toNatClampNeg (hN h)) a0 12 ((hI q17.2 a0 12) + (1 : Int32))))))))) else some ((-4 : Int32), h)) else k8 ())
theorem t_Ma_town {l : Launch} {z : xZ} {d mc ms : Nat} {Ph : Option xV → xH → Prop} {a0 : Nat} {a1 : Int32} {a2 : Int32}  {h : xH} (hd : 3 ≤ d) (hmc : 1 ≤ mc) (hms : 2 ≤ ms) (hk : OK (f_Ma_town a0 a1 a2 h) (fun q => Ph (some (xI q.1)) q.2)) : Sx l z d mc ms M_Ma_town 0 (x_en [xR a0, xI a1, xI a2] 3) [] h Ph := by
  unfold f_Ma_town at hk
  refine sx_eq (lc2 := [some (xR a0), some (xI a1), some (xI a2)]) rfl rfl ?_
  refine sx_iload_n dc_Ma_town_0 rfl ?_
  refine hk.j (X := fun x7 => ∀ (mc ms : Nat), 0 ≤ mc → 0 ≤ ms → Sx l z d mc ms M_Ma_town 20 [some (xR a0), some (xI a1), some (xI a2)] [] h Ph) (fun x7 hk mc ms hmc hms => ?_) (fun k8 jk8 hk => ?_)
  · refine sx_bipush (v := (-2 : Int32)) dc_Ma_town_20 (by decide) ?_
    exact sx_retI dc_Ma_town_22 rfl hk.val
  · refine sx_if_lt (tgt := 20) dc_Ma_town_1 (by decide) (fun c9 => ?_) (fun c9 => ?_)
    · replace hk := hk.t c9
      exact jk8 () hk _ _ (by omega) (by omega)
    · replace hk := hk.f c9
      refine sx_iload_n dc_Ma_town_4 rfl ?_
      refine sx_bipush (v := (6 : Int32)) dc_Ma_town_5 (by decide) ?_
      refine sx_icmp_ge (tgt := 20) dc_Ma_town_7 (by decide) (fun c10 => ?_) (fun c10 => ?_)
      · replace hk := hk.t c10
        exact jk8 () hk _ _ (by omega) (by omega)
      · replace hk := hk.f c10
        refine sx_iload_n dc_Ma_town_10 rfl ?_
        refine sx_if_lt (tgt := 20) dc_Ma_town_11 (by decide) (fun c11 => ?_) (fun c11 => ?_)
        · replace hk := hk.t c11
          exact jk8 () hk _ _ (by omega) (by omega)
        · replace hk := hk.f c11
          refine sx_iload_n dc_Ma_town_14 rfl ?_
          refine sx_bipush (v := (9 : Int32)) dc_Ma_town_15 (by decide) ?_
          refine sx_icmp_le (tgt := 23) dc_Ma_town_17 (by decide) (fun c12 => ?_) (fun c12 => ?_)
          · replace hk := hk.t c12
            refine sx_aload_n dc_Ma_town_23 rfl ?_
            obtain ⟨g13, hk⟩ := hk.g
            refine sx_get (ci := 10) (k := 12) rfl (by decide) wF_Ma_119 g13 dc_Ma_town_24 ?_
            refine sx_iconst (v := (5 : Int32)) dc_Ma_town_27 (by decide) ?_
            refine sx_icmp_lt (tgt := 34) dc_Ma_town_28 (by decide) (fun c14 => ?_) (fun c14 => ?_)
            · replace hk := hk.t c14
              refine sx_aload_n dc_Ma_town_34 rfl ?_
              refine sx_get (ci := 10) (k := 8) rfl (by decide) wF_Ma_72 g13 dc_Ma_town_35 ?_
              refine sx_aload_n dc_Ma_town_38 rfl ?_
              refine sx_get (ci := 10) (k := 12) rfl (by decide) wF_Ma_119 g13 dc_Ma_town_39 ?_
              refine sx_newN (ci := 8) (N := 2) rfl rfl wC_Ma_70 wI_To wT_To dc_Ma_town_42 (by omega) (by omega) ?_
              obtain ⟨h15, eh15, hk⟩ := hk.h
              refine sx_hp eh15 ?_
              have g16 : hK h15 (hN h) = 8 := by rw [eh15]; exact (show hK (hNw h 8 0) (hN h) = 8 from if_pos rfl)
              refine sx_dup dc_Ma_town_45 rfl ?_
              refine sx_iload_n dc_Ma_town_46 rfl ?_
              refine sx_iload_n dc_Ma_town_47 rfl ?_
              obtain ⟨q17, eq17, hk⟩ := hk.bind
              refine sx_callI (d2 := d - 1) (mc2 := 0) (ms2 := 0) (as := [xI a1, xI a2]) mk_To_init rfl wM_Ma_122 mi_To_init ⟨rfl, rfl⟩ g16 (by decide) rfl (Nat.le_of_ble_eq_true rfl) (Nat.le_of_ble_eq_true rfl) dc_Ma_town_48 (by omega) (Nat.zero_le _) (Nat.zero_le _) ?_
              refine t_To_init (by omega) ⟨q17, eq17, ?_⟩
              refine sx_eq0 (lc2 := [some (xR a0), some (xI a1), some (xI a2)]) (st2 := [xR (hN h), xI (hI h a0 12), xR (hR h a0 8)]) rfl rfl ?_
              obtain ⟨g18, hk⟩ := hk.g
              obtain ⟨g19, hk⟩ := hk.g
              obtain ⟨g20, hk⟩ := hk.g
              refine sx_aast g18 (Or.inr (Or.inl ⟨rfl, rfl⟩)) g19 g20 dc_Ma_town_51 ?_
              refine sx_aload_n dc_Ma_town_52 rfl ?_
              refine sx_dup dc_Ma_town_53 rfl ?_
              obtain ⟨g21, hk⟩ := hk.g
              refine sx_get (ci := 10) (k := 12) rfl (by decide) wF_Ma_119 g21 dc_Ma_town_54 ?_
              refine sx_dup_x1 dc_Ma_town_57 rfl rfl ?_
              refine sx_iconst (v := (1 : Int32)) dc_Ma_town_58 (by decide) ?_
              refine sx_iadd dc_Ma_town_59 ?_
              refine sx_putI (ci := 10) (k := 12) rfl (by decide) wF_Ma_119 rfl g21 (Or.inl rfl) dc_Ma_town_60 ?_
              exact sx_retI dc_Ma_town_63 rfl hk.val
            · replace hk := hk.f c14
              refine sx_bipush (v := (-4 : Int32)) dc_Ma_town_31 (by decide) ?_
              exact sx_retI dc_Ma_town_33 rfl hk.val
          · replace hk := hk.f c12
            exact jk8 () hk _ _ (by omega) (by omega)
theorem dc_Ma_townAt_0 : decode M_Ma_townAt.2.1 0 = .ok (.iload_n 1, 1) := by decide +kernel
theorem dc_Ma_townAt_1 : decode M_Ma_townAt.2.1 1 = .ok (.ifCond .lt 25, 3) := by decide +kernel
theorem dc_Ma_townAt_4 : decode M_Ma_townAt.2.1 4 = .ok (.iload_n 1, 1) := by decide +kernel
theorem dc_Ma_townAt_5 : decode M_Ma_townAt.2.1 5 = .ok (.aload_n 0, 1) := by decide +kernel
theorem dc_Ma_townAt_6 : decode M_Ma_townAt.2.1 6 = .ok (.getfield 119, 3) := by decide +kernel
theorem dc_Ma_townAt_9 : decode M_Ma_townAt.2.1 9 = .ok (.if_icmp .ge 17, 3) := by decide +kernel
theorem dc_Ma_townAt_12 : decode M_Ma_townAt.2.1 12 = .ok (.iload_n 1, 1) := by decide +kernel
theorem dc_Ma_townAt_13 : decode M_Ma_townAt.2.1 13 = .ok (.iconst 5, 1) := by decide +kernel
theorem dc_Ma_townAt_14 : decode M_Ma_townAt.2.1 14 = .ok (.if_icmp .ge 12, 3) := by decide +kernel
theorem dc_Ma_townAt_17 : decode M_Ma_townAt.2.1 17 = .ok (.aload_n 0, 1) := by decide +kernel
theorem dc_Ma_townAt_18 : decode M_Ma_townAt.2.1 18 = .ok (.getfield 72, 3) := by decide +kernel
theorem dc_Ma_townAt_21 : decode M_Ma_townAt.2.1 21 = .ok (.iload_n 1, 1) := by decide +kernel
theorem dc_Ma_townAt_22 : decode M_Ma_townAt.2.1 22 = .ok (.aaload, 1) := by decide +kernel
theorem dc_Ma_townAt_23 : decode M_Ma_townAt.2.1 23 = .ok (.goto 4, 3) := by decide +kernel
theorem dc_Ma_townAt_26 : decode M_Ma_townAt.2.1 26 = .ok (.aconst_null, 1) := by decide +kernel
theorem dc_Ma_townAt_27 : decode M_Ma_townAt.2.1 27 = .ok (.areturn, 1) := by decide +kernel
def f_Ma_townAt (a0 : Nat) (a1 : Int32) (h : xH) : Option (Nat × xH) := jn (fun (x4 : Nat) => some (x4, h)) (fun k5 => jn (fun (x6 : Unit) => k5 0) (fun k7 => if a1 < 0 then k7 () else gd (hK h a0 = 10) (if (hI h a0 12) ≤ a1 then k7 () else if (5 : Int32) ≤ a1 then k7 () else gd (hK h (hR h a0 8) = 15) (gd (¬ (a1 < 0 ∨ hL h (hR h a0 8) ≤ a1.toNatClampNeg)) (k5 (hR h (hR h a0 8) a1.toNatClampNeg))))))
theorem t_Ma_townAt {l : Launch} {z : xZ} {d mc ms : Nat} {Ph : Option xV → xH → Prop} {a0 : Nat} {a1 : Int32}  {h : xH} (hd : 1 ≤ d) (hk : OK (f_Ma_townAt a0 a1 h) (fun q => Ph (some (xR q.1)) q.2)) : Sx l z d mc ms M_Ma_townAt 0 (x_en [xR a0, xI a1] 2) [] h Ph := by
  unfold f_Ma_townAt at hk
  refine sx_eq (lc2 := [some (xR a0), some (xI a1)]) rfl rfl ?_
  refine sx_iload_n dc_Ma_townAt_0 rfl ?_
  refine hk.j (X := fun x4 => Sx l z d mc ms M_Ma_townAt 27 [some (xR a0), some (xI a1)] [xR x4] h Ph) (fun x4 hk => ?_) (fun k5 jk5 hk => ?_)
  · exact sx_retR dc_Ma_townAt_27 (by first | exact Or.inl ⟨_, rfl⟩ | exact Or.inr ⟨_, rfl⟩) hk.val
  · refine hk.j (X := fun x6 => Sx l z d mc ms M_Ma_townAt 26 [some (xR a0), some (xI a1)] [] h Ph) (fun x6 hk => ?_) (fun k7 jk7 hk => ?_)
    · refine sx_null dc_Ma_townAt_26 ?_
      exact jk5 0 hk
    · refine sx_if_lt (tgt := 26) dc_Ma_townAt_1 (by decide) (fun c8 => ?_) (fun c8 => ?_)
      · replace hk := hk.t c8
        exact jk7 () hk
      · replace hk := hk.f c8
        refine sx_iload_n dc_Ma_townAt_4 rfl ?_
        refine sx_aload_n dc_Ma_townAt_5 rfl ?_
        obtain ⟨g9, hk⟩ := hk.g
        refine sx_get (ci := 10) (k := 12) rfl (by decide) wF_Ma_119 g9 dc_Ma_townAt_6 ?_
        refine sx_icmp_ge (tgt := 26) dc_Ma_townAt_9 (by decide) (fun c10 => ?_) (fun c10 => ?_)
        · replace hk := hk.t c10
          exact jk7 () hk
        · replace hk := hk.f c10
          refine sx_iload_n dc_Ma_townAt_12 rfl ?_
          refine sx_iconst (v := (5 : Int32)) dc_Ma_townAt_13 (by decide) ?_
          refine sx_icmp_ge (tgt := 26) dc_Ma_townAt_14 (by decide) (fun c11 => ?_) (fun c11 => ?_)
          · replace hk := hk.t c11
            exact jk7 () hk
          · replace hk := hk.f c11
            refine sx_aload_n dc_Ma_townAt_17 rfl ?_
            refine sx_get (ci := 10) (k := 8) rfl (by decide) wF_Ma_72 g9 dc_Ma_townAt_18 ?_
            refine sx_iload_n dc_Ma_townAt_21 rfl ?_
            obtain ⟨g12, hk⟩ := hk.g
            obtain ⟨g13, hk⟩ := hk.g
            refine sx_aald g12 (by decide) g13 dc_Ma_townAt_22 ?_
            refine sx_goto (tgt := 27) dc_Ma_townAt_23 (by decide) ?_
            exact jk5 (hR h (hR h a0 8) a1.toNatClampNeg) hk
theorem dc_Ma_friendsIn_0 : decode M_Ma_friendsIn.2.1 0 = .ok (.iconst 0, 1) := by decide +kernel
theorem dc_Ma_friendsIn_1 : decode M_Ma_friendsIn.2.1 1 = .ok (.istore_n 2, 1) := by decide +kernel
theorem dc_Ma_friendsIn_2 : decode M_Ma_friendsIn.2.1 2 = .ok (.iconst 1, 1) := by decide +kernel
theorem dc_Ma_friendsIn_3 : decode M_Ma_friendsIn.2.1 3 = .ok (.istore_n 3, 1) := by decide +kernel
theorem dc_Ma_friendsIn_4 : decode M_Ma_friendsIn.2.1 4 = .ok (.iload_n 3, 1) := by decide +kernel
theorem dc_Ma_friendsIn_5 : decode M_Ma_friendsIn.2.1 5 = .ok (.aload_n 0, 1) := by decide +kernel
theorem dc_Ma_friendsIn_6 : decode M_Ma_friendsIn.2.1 6 = .ok (.getfield 21, 3) := by decide +kernel
theorem dc_Ma_friendsIn_9 : decode M_Ma_friendsIn.2.1 9 = .ok (.getfield 100, 3) := by decide +kernel
theorem dc_Ma_friendsIn_12 : decode M_Ma_friendsIn.2.1 12 = .ok (.if_icmp .ge 52, 3) := by decide +kernel
theorem dc_Ma_friendsIn_15 : decode M_Ma_friendsIn.2.1 15 = .ok (.iconst 0, 1) := by decide +kernel
theorem dc_Ma_friendsIn_16 : decode M_Ma_friendsIn.2.1 16 = .ok (.istore 4, 2) := by decide +kernel
theorem dc_Ma_friendsIn_18 : decode M_Ma_friendsIn.2.1 18 = .ok (.iload 4, 2) := by decide +kernel
theorem dc_Ma_friendsIn_20 : decode M_Ma_friendsIn.2.1 20 = .ok (.iload_n 3, 1) := by decide +kernel
theorem dc_Ma_friendsIn_21 : decode M_Ma_friendsIn.2.1 21 = .ok (.if_icmp .ge 37, 3) := by decide +kernel
theorem dc_Ma_friendsIn_24 : decode M_Ma_friendsIn.2.1 24 = .ok (.aload_n 1, 1) := by decide +kernel
theorem dc_Ma_friendsIn_25 : decode M_Ma_friendsIn.2.1 25 = .ok (.iload 4, 2) := by decide +kernel
theorem dc_Ma_friendsIn_27 : decode M_Ma_friendsIn.2.1 27 = .ok (.iload_n 3, 1) := by decide +kernel
theorem dc_Ma_friendsIn_28 : decode M_Ma_friendsIn.2.1 28 = .ok (.aload_n 0, 1) := by decide +kernel
theorem dc_Ma_friendsIn_29 : decode M_Ma_friendsIn.2.1 29 = .ok (.getfield 21, 3) := by decide +kernel
theorem dc_Ma_friendsIn_32 : decode M_Ma_friendsIn.2.1 32 = .ok (.getfield 100, 3) := by decide +kernel
theorem dc_Ma_friendsIn_35 : decode M_Ma_friendsIn.2.1 35 = .ok (.invokevirtual 155, 3) := by decide +kernel
theorem dc_Ma_friendsIn_38 : decode M_Ma_friendsIn.2.1 38 = .ok (.ifCond .eq 14, 3) := by decide +kernel
theorem dc_Ma_friendsIn_41 : decode M_Ma_friendsIn.2.1 41 = .ok (.iload_n 2, 1) := by decide +kernel
theorem dc_Ma_friendsIn_42 : decode M_Ma_friendsIn.2.1 42 = .ok (.iconst 1, 1) := by decide +kernel
theorem dc_Ma_friendsIn_43 : decode M_Ma_friendsIn.2.1 43 = .ok (.iload 4, 2) := by decide +kernel
theorem dc_Ma_friendsIn_45 : decode M_Ma_friendsIn.2.1 45 = .ok (.iload_n 3, 1) := by decide +kernel
theorem dc_Ma_friendsIn_46 : decode M_Ma_friendsIn.2.1 46 = .ok (.invokestatic 159, 3) := by decide +kernel
theorem dc_Ma_friendsIn_49 : decode M_Ma_friendsIn.2.1 49 = .ok (.ishl, 1) := by decide +kernel
theorem dc_Ma_friendsIn_50 : decode M_Ma_friendsIn.2.1 50 = .ok (.ior, 1) := by decide +kernel
theorem dc_Ma_friendsIn_51 : decode M_Ma_friendsIn.2.1 51 = .ok (.istore_n 2, 1) := by decide +kernel
theorem dc_Ma_friendsIn_52 : decode M_Ma_friendsIn.2.1 52 = .ok (.iinc 4 1, 3) := by decide +kernel
theorem dc_Ma_friendsIn_55 : decode M_Ma_friendsIn.2.1 55 = .ok (.goto (-37), 3) := by decide +kernel
theorem dc_Ma_friendsIn_58 : decode M_Ma_friendsIn.2.1 58 = .ok (.iinc 3 1, 3) := by decide +kernel
theorem dc_Ma_friendsIn_61 : decode M_Ma_friendsIn.2.1 61 = .ok (.goto (-57), 3) := by decide +kernel
theorem dc_Ma_friendsIn_64 : decode M_Ma_friendsIn.2.1 64 = .ok (.iload_n 2, 1) := by decide +kernel
theorem dc_Ma_friendsIn_65 : decode M_Ma_friendsIn.2.1 65 = .ok (.ireturn, 1) := by decide +kernel
def f_Ma_friendsIn_L18 (a0 : Nat) (a1 : Nat) (a3 : Int32) : Nat → Int32 → Int32 → xH → (Int32 → Int32 → xH → Option (Int32 × xH)) → Option (Int32 × xH)
  | 0, _, _, _, _ => none
  | n + 1, a2, a4, h, K => if a3 ≤ a4 then K a2 a4 h else gd (hK h a0 = 10) (gd (hK h (hR h a0 1) = 6) (gd (hK h a1 = 8) (Option.bind (f_To_knows a1 a4 a3 (hI h (hR h a0 1) 1) h) (fun q12 => jn (fun (x14 : Int32 × xH) => f_Ma_friendsIn_L18 a0 a1 a3 n x14.1 (a4 + (1 : Int32)) x14.2 K) (fun k15 => if q12.1 = 0 then k15 (a2, q12.2) else Option.bind (f_Se_pairOf a4 a3 q12.2) (fun q17 => k15 ((a2 ||| (jShl (1 : Int32) q17.1)), q17.2)))))))
def f_Ma_friendsIn_L4 (a0 : Nat) (a1 : Nat) : Nat → Int32 → Int32 → xH → (Int32 → Int32 → xH → Option (Int32 × xH)) → Option (Int32 × xH)
  | 0, _, _, _, _ => none
  | n + 1, a2, a3, h, K => gd (hK h a0 = 10) (gd (hK h (hR h a0 1) = 6) (if (hI h (hR h a0 1) 1) ≤ a3 then K a2 a3 h else f_Ma_friendsIn_L18 a0 a1 a3 fu a2 (0 : Int32) h (fun v18 v19 h20 => f_Ma_friendsIn_L4 a0 a1 n v18 (a3 + (1 : Int32)) h20 K)))
def f_Ma_friendsIn (a0 : Nat) (a1 : Nat) (h : xH) : Option (Int32 × xH) := f_Ma_friendsIn_L4 a0 a1 fu (0 : Int32) (1 : Int32) h (fun v21 v22 h23 => some (v21, h23))
theorem t_Ma_friendsIn_L18 {l : Launch} {z : xZ} {d mc ms : Nat} {Ph : Option xV → xH → Prop} {a0 : Nat} {a1 : Nat} {a3 : Int32}  (hd : 3 ≤ d) : ∀ (n : Nat) (a2 : Int32) (a4 : Int32) (h : xH) (K : Int32 → Int32 → xH → Option (Int32 × xH)), OK (f_Ma_friendsIn_L18 a0 a1 a3 n a2 a4 h K) (fun q => Ph (some (xI q.1)) q.2) → (∀ (a2 : Int32) (a4 : Int32) (h : xH), OK (K a2 a4 h) (fun q => Ph (some (xI q.1)) q.2) → Sx l z d mc ms M_Ma_friendsIn 58 [some (xR a0), some (xR a1), some (xI a2), some (xI a3), some (xI a4)] [] h Ph) → Sx l z d mc ms M_Ma_friendsIn 18 [some (xR a0), some (xR a1), some (xI a2), some (xI a3), some (xI a4)] [] h Ph := by
  intro n
  induction n with
  | zero => intro a2 a4 h K hk hE; exact hk.no
  | succ n ih =>
    intro a2 a4 h K hk hE
    rw [f_Ma_friendsIn_L18] at hk
    refine sx_iload dc_Ma_friendsIn_18 rfl ?_
    refine sx_iload_n dc_Ma_friendsIn_20 rfl ?_
    refine sx_icmp_ge (tgt := 58) dc_Ma_friendsIn_21 (by decide) (fun c9 => ?_) (fun c9 => ?_)
    · replace hk := hk.t c9
      exact hE a2 a4 h hk
    · replace hk := hk.f c9
      refine sx_aload_n dc_Ma_friendsIn_24 rfl ?_
      refine sx_iload dc_Ma_friendsIn_25 rfl ?_
      refine sx_iload_n dc_Ma_friendsIn_27 rfl ?_
      refine sx_aload_n dc_Ma_friendsIn_28 rfl ?_
      obtain ⟨g10, hk⟩ := hk.g
      refine sx_get (ci := 10) (k := 1) rfl (by decide) wF_Ma_21 g10 dc_Ma_friendsIn_29 ?_
      obtain ⟨g11, hk⟩ := hk.g
      refine sx_get (ci := 6) (k := 1) rfl (by decide) wF_Ma_100 g11 dc_Ma_friendsIn_32 ?_
      obtain ⟨g13, hk⟩ := hk.g
      obtain ⟨q12, eq12, hk⟩ := hk.bind
      refine sx_callV (d2 := d - 1) (mc2 := 0) (ms2 := 0) (as := [xI a4, xI a3, xI (hI h (hR h a0 1) 1)]) mk_To_knows rfl (x_rk (ci := 8) g13 rfl rfl) wM_Ma_155 mi_To_knows me_To_knows rfl (Nat.le_of_ble_eq_true rfl) (Nat.le_of_ble_eq_true rfl) dc_Ma_friendsIn_35 (by omega) (Nat.zero_le _) (Nat.zero_le _) ?_
      refine t_To_knows (by omega) ⟨q12, eq12, ?_⟩
      refine sx_eq0 (lc2 := [some (xR a0), some (xR a1), some (xI a2), some (xI a3), some (xI a4)]) (st2 := [xI q12.1]) rfl rfl ?_
      refine hk.j (X := fun x14 => Sx l z d mc ms M_Ma_friendsIn 52 [some (xR a0), some (xR a1), some (xI x14.1), some (xI a3), some (xI a4)] [] x14.2 Ph) (fun x14 hk => ?_) (fun k15 jk15 hk => ?_)
      · refine sx_iinc (v := (1 : Int32)) dc_Ma_friendsIn_52 rfl (by decide) (by decide) (sx_eq (lc2 := [some (xR a0), some (xR a1), some (xI x14.1), some (xI a3), some (xI (a4 + (1 : Int32)))]) rfl rfl ?_)
        refine sx_goto (tgt := 18) dc_Ma_friendsIn_55 (by decide) ?_
        exact ih x14.1 (a4 + (1 : Int32)) x14.2 _ hk hE
      · refine sx_if_eq (tgt := 52) dc_Ma_friendsIn_38 (by decide) (fun c16 => ?_) (fun c16 => ?_)
        · replace hk := hk.t c16
          exact jk15 (a2, q12.2) hk
        · replace hk := hk.f c16
          refine sx_iload_n dc_Ma_friendsIn_41 rfl ?_
          refine sx_iconst (v := (1 : Int32)) dc_Ma_friendsIn_42 (by decide) ?_
          refine sx_iload dc_Ma_friendsIn_43 rfl ?_
          refine sx_iload_n dc_Ma_friendsIn_45 rfl ?_
          obtain ⟨q17, eq17, hk⟩ := hk.bind
          refine sx_callS (d2 := d - 1) (mc2 := 0) (ms2 := 0) (as := [xI a4, xI a3]) mk_Se_pairOf rfl wM_Ma_159 mt_Se_pairOf rfl (Nat.le_of_ble_eq_true rfl) (Nat.le_of_ble_eq_true rfl) dc_Ma_friendsIn_46 (by omega) (Nat.zero_le _) (Nat.zero_le _) ?_
          refine t_Se_pairOf (by omega) ⟨q17, eq17, ?_⟩
          refine sx_eq0 (lc2 := [some (xR a0), some (xR a1), some (xI a2), some (xI a3), some (xI a4)]) (st2 := [xI q17.1, xI (1 : Int32), xI a2]) rfl rfl ?_
          refine sx_ishl dc_Ma_friendsIn_49 ?_
          refine sx_ior dc_Ma_friendsIn_50 ?_
          refine sx_istore_n dc_Ma_friendsIn_51 (by decide) (sx_eq (lc2 := [some (xR a0), some (xR a1), some (xI (a2 ||| (jShl (1 : Int32) q17.1))), some (xI a3), some (xI a4)]) rfl rfl ?_)
          exact jk15 ((a2 ||| (jShl (1 : Int32) q17.1)), q17.2) hk
theorem t_Ma_friendsIn_L4 {l : Launch} {z : xZ} {d mc ms : Nat} {Ph : Option xV → xH → Prop} {a0 : Nat} {a1 : Nat}  (hd : 3 ≤ d) : ∀ (n : Nat) (a2 : Int32) (a3 : Int32) (h : xH) (K : Int32 → Int32 → xH → Option (Int32 × xH)), OK (f_Ma_friendsIn_L4 a0 a1 n a2 a3 h K) (fun q => Ph (some (xI q.1)) q.2) → (∀ (a2 : Int32) (a3 : Int32) (h : xH), OK (K a2 a3 h) (fun q => Ph (some (xI q.1)) q.2) → Sx l z d mc ms M_Ma_friendsIn 64 [some (xR a0), some (xR a1), some (xI a2), some (xI a3), none] [] h Ph) → Sx l z d mc ms M_Ma_friendsIn 4 [some (xR a0), some (xR a1), some (xI a2), some (xI a3), none] [] h Ph := by
  intro n
  induction n with
  | zero => intro a2 a3 h K hk hE; exact hk.no
  | succ n ih =>
    intro a2 a3 h K hk hE
    rw [f_Ma_friendsIn_L4] at hk
    refine sx_iload_n dc_Ma_friendsIn_4 rfl ?_
    refine sx_aload_n dc_Ma_friendsIn_5 rfl ?_
    obtain ⟨g6, hk⟩ := hk.g
    refine sx_get (ci := 10) (k := 1) rfl (by decide) wF_Ma_21 g6 dc_Ma_friendsIn_6 ?_
    obtain ⟨g7, hk⟩ := hk.g
    refine sx_get (ci := 6) (k := 1) rfl (by decide) wF_Ma_100 g7 dc_Ma_friendsIn_9 ?_
    refine sx_icmp_ge (tgt := 64) dc_Ma_friendsIn_12 (by decide) (fun c8 => ?_) (fun c8 => ?_)
    · replace hk := hk.t c8
      exact hE a2 a3 h hk
    · replace hk := hk.f c8
      refine sx_iconst (v := (0 : Int32)) dc_Ma_friendsIn_15 (by decide) ?_
      refine sx_istore dc_Ma_friendsIn_16 (by decide) (sx_eq (lc2 := [some (xR a0), some (xR a1), some (xI a2), some (xI a3), some (xI (0 : Int32))]) rfl rfl ?_)
      refine t_Ma_friendsIn_L18 (by omega) _ _ _ _ _ hk (fun v18 v19 h20 hk => ?_)
      refine sx_iinc (v := (1 : Int32)) dc_Ma_friendsIn_58 rfl (by decide) (by decide) (sx_eq (lc2 := [some (xR a0), some (xR a1), some (xI v18), some (xI (a3 + (1 : Int32))), some (xI v19)]) rfl rfl ?_)
      refine sx_goto (tgt := 4) dc_Ma_friendsIn_61 (by decide) ?_
      exact sx_less (by simp [x_le]) (ih v18 (a3 + (1 : Int32)) h20 _ hk hE)
theorem t_Ma_friendsIn {l : Launch} {z : xZ} {d mc ms : Nat} {Ph : Option xV → xH → Prop} {a0 : Nat} {a1 : Nat}  {h : xH} (hd : 3 ≤ d) (hk : OK (f_Ma_friendsIn a0 a1 h) (fun q => Ph (some (xI q.1)) q.2)) : Sx l z d mc ms M_Ma_friendsIn 0 (x_en [xR a0, xR a1] 5) [] h Ph := by
  unfold f_Ma_friendsIn at hk
  refine sx_eq (lc2 := [some (xR a0), some (xR a1), none, none, none]) rfl rfl ?_
  refine sx_iconst (v := (0 : Int32)) dc_Ma_friendsIn_0 (by decide) ?_
  refine sx_istore_n dc_Ma_friendsIn_1 (by decide) (sx_eq (lc2 := [some (xR a0), some (xR a1), some (xI (0 : Int32)), none, none]) rfl rfl ?_)
  refine sx_iconst (v := (1 : Int32)) dc_Ma_friendsIn_2 (by decide) ?_
  refine sx_istore_n dc_Ma_friendsIn_3 (by decide) (sx_eq (lc2 := [some (xR a0), some (xR a1), some (xI (0 : Int32)), some (xI (1 : Int32)), none]) rfl rfl ?_)
  refine t_Ma_friendsIn_L4 (by omega) _ _ _ _ _ hk (fun v21 v22 h23 hk => ?_)
  refine sx_iload_n dc_Ma_friendsIn_64 rfl ?_
  exact sx_retI dc_Ma_friendsIn_65 rfl hk.val
theorem dc_Ma_asIn_0 : decode M_Ma_asIn.2.1 0 = .ok (.aload_n 0, 1) := by decide +kernel
theorem dc_Ma_asIn_1 : decode M_Ma_asIn.2.1 1 = .ok (.iload_n 1, 1) := by decide +kernel
theorem dc_Ma_asIn_2 : decode M_Ma_asIn.2.1 2 = .ok (.invokevirtual 124, 3) := by decide +kernel
theorem dc_Ma_asIn_5 : decode M_Ma_asIn.2.1 5 = .ok (.astore_n 2, 1) := by decide +kernel
theorem dc_Ma_asIn_6 : decode M_Ma_asIn.2.1 6 = .ok (.aload_n 2, 1) := by decide +kernel
theorem dc_Ma_asIn_7 : decode M_Ma_asIn.2.1 7 = .ok (.ifnonnull 6, 3) := by decide +kernel
theorem dc_Ma_asIn_10 : decode M_Ma_asIn.2.1 10 = .ok (.bipush (-2), 2) := by decide +kernel
theorem dc_Ma_asIn_12 : decode M_Ma_asIn.2.1 12 = .ok (.ireturn, 1) := by decide +kernel
theorem dc_Ma_asIn_13 : decode M_Ma_asIn.2.1 13 = .ok (.aload_n 0, 1) := by decide +kernel
theorem dc_Ma_asIn_14 : decode M_Ma_asIn.2.1 14 = .ok (.aload_n 2, 1) := by decide +kernel
theorem dc_Ma_asIn_15 : decode M_Ma_asIn.2.1 15 = .ok (.invokevirtual 128, 3) := by decide +kernel
theorem dc_Ma_asIn_18 : decode M_Ma_asIn.2.1 18 = .ok (.istore_n 3, 1) := by decide +kernel
theorem dc_Ma_asIn_19 : decode M_Ma_asIn.2.1 19 = .ok (.aload_n 0, 1) := by decide +kernel
theorem dc_Ma_asIn_20 : decode M_Ma_asIn.2.1 20 = .ok (.getfield 21, 3) := by decide +kernel
theorem dc_Ma_asIn_23 : decode M_Ma_asIn.2.1 23 = .ok (.iload_n 3, 1) := by decide +kernel
theorem dc_Ma_asIn_24 : decode M_Ma_asIn.2.1 24 = .ok (.aload_n 0, 1) := by decide +kernel
theorem dc_Ma_asIn_25 : decode M_Ma_asIn.2.1 25 = .ok (.getfield 21, 3) := by decide +kernel
theorem dc_Ma_asIn_28 : decode M_Ma_asIn.2.1 28 = .ok (.invokevirtual 132, 3) := by decide +kernel
theorem dc_Ma_asIn_31 : decode M_Ma_asIn.2.1 31 = .ok (.iload_n 3, 1) := by decide +kernel
theorem dc_Ma_asIn_32 : decode M_Ma_asIn.2.1 32 = .ok (.iconst (-1), 1) := by decide +kernel
theorem dc_Ma_asIn_33 : decode M_Ma_asIn.2.1 33 = .ok (.ixor, 1) := by decide +kernel
theorem dc_Ma_asIn_34 : decode M_Ma_asIn.2.1 34 = .ok (.iand, 1) := by decide +kernel
theorem dc_Ma_asIn_35 : decode M_Ma_asIn.2.1 35 = .ok (.invokevirtual 136, 3) := by decide +kernel
theorem dc_Ma_asIn_38 : decode M_Ma_asIn.2.1 38 = .ok (.iload_n 3, 1) := by decide +kernel
theorem dc_Ma_asIn_39 : decode M_Ma_asIn.2.1 39 = .ok (.invokestatic 139, 3) := by decide +kernel
theorem dc_Ma_asIn_42 : decode M_Ma_asIn.2.1 42 = .ok (.ireturn, 1) := by decide +kernel
def f_Ma_asIn (a0 : Nat) (a1 : Int32) (h : xH) : Option (Int32 × xH) := gd (hK h a0 = 10) (Option.bind (f_Ma_townAt a0 a1 h) (fun q11 => if q11.1 = 0 then some ((-2 : Int32), q11.2) else gd (hK q11.2 a0 = 10) (Option.bind (f_Ma_friendsIn a0 q11.1 q11.2) (fun q14 => gd (hK q14.2 a0 = 10) (gd (hK q14.2 (hR q14.2 a0 1) = 6) (Option.bind (f_Ta_everyPair (hR q14.2 a0 1) q14.2) (fun q17 => gd (hK q17.2 (hR q14.2 a0 1) = 6) (Option.bind (f_Ta_layBits (hR q14.2 a0 1) q14.1 (q17.1 &&& (q14.1 ^^^ (-1 : Int32))) q17.2) (fun q19 => Option.bind (f_In_bitCount q14.1 q19.2) (fun q21 => some (q21.1, q21.2)))))))))))
theorem t_Ma_asIn {l : Launch} {z : xZ} {d mc ms : Nat} {Ph : Option xV → xH → Prop} {a0 : Nat} {a1 : Int32}  {h : xH} (hd : 4 ≤ d) (hk : OK (f_Ma_asIn a0 a1 h) (fun q => Ph (some (xI q.1)) q.2)) : Sx l z d mc ms M_Ma_asIn 0 (x_en [xR a0, xI a1] 4) [] h Ph := by
  unfold f_Ma_asIn at hk
  refine sx_eq (lc2 := [some (xR a0), some (xI a1), none, none]) rfl rfl ?_
  refine sx_aload_n dc_Ma_asIn_0 rfl ?_
  refine sx_iload_n dc_Ma_asIn_1 rfl ?_
  obtain ⟨g12, hk⟩ := hk.g
  obtain ⟨q11, eq11, hk⟩ := hk.bind
  refine sx_callV (d2 := d - 1) (mc2 := 0) (ms2 := 0) (as := [xI a1]) mk_Ma_townAt rfl (x_rk (ci := 10) g12 rfl rfl) wM_Ma_124 mi_Ma_townAt me_Ma_townAt rfl (Nat.le_of_ble_eq_true rfl) (Nat.le_of_ble_eq_true rfl) dc_Ma_asIn_2 (by omega) (Nat.zero_le _) (Nat.zero_le _) ?_
  refine t_Ma_townAt (by omega) ⟨q11, eq11, ?_⟩
  refine sx_eq0 (lc2 := [some (xR a0), some (xI a1), none, none]) (st2 := [xR q11.1]) rfl rfl ?_
  refine sx_astore_n dc_Ma_asIn_5 (by decide) (sx_eq (lc2 := [some (xR a0), some (xI a1), some (xR q11.1), none]) rfl rfl ?_)
  refine sx_aload_n dc_Ma_asIn_6 rfl ?_
  refine sx_ifnonnull (tgt := 13) dc_Ma_asIn_7 (by decide) (fun c13 => ?_) (fun c13 => ?_)
  · replace hk := hk.f c13
    refine sx_aload_n dc_Ma_asIn_13 rfl ?_
    refine sx_aload_n dc_Ma_asIn_14 rfl ?_
    obtain ⟨g15, hk⟩ := hk.g
    obtain ⟨q14, eq14, hk⟩ := hk.bind
    refine sx_callV (d2 := d - 1) (mc2 := 0) (ms2 := 0) (as := [xR q11.1]) mk_Ma_friendsIn rfl (x_rk (ci := 10) g15 rfl rfl) wM_Ma_128 mi_Ma_friendsIn me_Ma_friendsIn rfl (Nat.le_of_ble_eq_true rfl) (Nat.le_of_ble_eq_true rfl) dc_Ma_asIn_15 (by omega) (Nat.zero_le _) (Nat.zero_le _) ?_
    refine t_Ma_friendsIn (by omega) ⟨q14, eq14, ?_⟩
    refine sx_eq0 (lc2 := [some (xR a0), some (xI a1), some (xR q11.1), none]) (st2 := [xI q14.1]) rfl rfl ?_
    refine sx_istore_n dc_Ma_asIn_18 (by decide) (sx_eq (lc2 := [some (xR a0), some (xI a1), some (xR q11.1), some (xI q14.1)]) rfl rfl ?_)
    refine sx_aload_n dc_Ma_asIn_19 rfl ?_
    obtain ⟨g16, hk⟩ := hk.g
    refine sx_get (ci := 10) (k := 1) rfl (by decide) wF_Ma_21 g16 dc_Ma_asIn_20 ?_
    refine sx_iload_n dc_Ma_asIn_23 rfl ?_
    refine sx_aload_n dc_Ma_asIn_24 rfl ?_
    refine sx_get (ci := 10) (k := 1) rfl (by decide) wF_Ma_21 g16 dc_Ma_asIn_25 ?_
    obtain ⟨g18, hk⟩ := hk.g
    obtain ⟨q17, eq17, hk⟩ := hk.bind
    refine sx_callV (d2 := d - 1) (mc2 := 0) (ms2 := 0) (as := []) mk_Ta_everyPair rfl (x_rk (ci := 6) g18 rfl rfl) wM_Ma_132 mi_Ta_everyPair me_Ta_everyPair rfl (Nat.le_of_ble_eq_true rfl) (Nat.le_of_ble_eq_true rfl) dc_Ma_asIn_28 (by omega) (Nat.zero_le _) (Nat.zero_le _) ?_
    refine t_Ta_everyPair (by omega) ⟨q17, eq17, ?_⟩
    refine sx_eq0 (lc2 := [some (xR a0), some (xI a1), some (xR q11.1), some (xI q14.1)]) (st2 := [xI q17.1, xI q14.1, xR (hR q14.2 a0 1)]) rfl rfl ?_
    refine sx_iload_n dc_Ma_asIn_31 rfl ?_
    refine sx_iconst (v := (-1 : Int32)) dc_Ma_asIn_32 (by decide) ?_
    refine sx_ixor dc_Ma_asIn_33 ?_
    refine sx_iand dc_Ma_asIn_34 ?_
    obtain ⟨g20, hk⟩ := hk.g
    obtain ⟨q19, eq19, hk⟩ := hk.bind
    refine sx_callV (d2 := d - 1) (mc2 := 0) (ms2 := 0) (as := [xI q14.1, xI (q17.1 &&& (q14.1 ^^^ (-1 : Int32)))]) mk_Ta_layBits rfl (x_rk (ci := 6) g20 rfl rfl) wM_Ma_136 mi_Ta_layBits me_Ta_layBits rfl (Nat.le_of_ble_eq_true rfl) (Nat.le_of_ble_eq_true rfl) dc_Ma_asIn_35 (by omega) (Nat.zero_le _) (Nat.zero_le _) ?_
    refine t_Ta_layBits (by omega) ⟨q19, eq19, ?_⟩
    refine sx_eq0 (lc2 := [some (xR a0), some (xI a1), some (xR q11.1), some (xI q14.1)]) (st2 := []) rfl rfl ?_
    refine sx_iload_n dc_Ma_asIn_38 rfl ?_
    obtain ⟨q21, eq21, hk⟩ := hk.bind
    refine sx_callS (d2 := d - 1) (mc2 := 0) (ms2 := 0) (as := [xI q14.1]) mk_In_bitCount rfl wM_Ma_139 mt_In_bitCount rfl (Nat.le_of_ble_eq_true rfl) (Nat.le_of_ble_eq_true rfl) dc_Ma_asIn_39 (by omega) (Nat.zero_le _) (Nat.zero_le _) ?_
    refine t_In_bitCount (by omega) ⟨q21, eq21, ?_⟩
    refine sx_eq0 (lc2 := [some (xR a0), some (xI a1), some (xR q11.1), some (xI q14.1)]) (st2 := [xI q21.1]) rfl rfl ?_
    exact sx_retI dc_Ma_asIn_42 rfl hk.val
  · replace hk := hk.t c13
    refine sx_bipush (v := (-2 : Int32)) dc_Ma_asIn_10 (by decide) ?_
    exact sx_retI dc_Ma_asIn_12 rfl hk.val
theorem dc_Ma_isWithin_0 : decode M_Ma_isWithin.2.1 0 = .ok (.iload_n 0, 1) := by decide +kernel
theorem dc_Ma_isWithin_1 : decode M_Ma_isWithin.2.1 1 = .ok (.ifCond .lt 12, 3) := by decide +kernel
theorem dc_Ma_isWithin_4 : decode M_Ma_isWithin.2.1 4 = .ok (.iload_n 0, 1) := by decide +kernel
theorem dc_Ma_isWithin_5 : decode M_Ma_isWithin.2.1 5 = .ok (.iload_n 1, 1) := by decide +kernel
theorem dc_Ma_isWithin_6 : decode M_Ma_isWithin.2.1 6 = .ok (.if_icmp .gt 7, 3) := by decide +kernel
theorem dc_Ma_isWithin_9 : decode M_Ma_isWithin.2.1 9 = .ok (.iconst 1, 1) := by decide +kernel
theorem dc_Ma_isWithin_10 : decode M_Ma_isWithin.2.1 10 = .ok (.goto 4, 3) := by decide +kernel
theorem dc_Ma_isWithin_13 : decode M_Ma_isWithin.2.1 13 = .ok (.iconst 0, 1) := by decide +kernel
theorem dc_Ma_isWithin_14 : decode M_Ma_isWithin.2.1 14 = .ok (.ireturn, 1) := by decide +kernel
def f_Ma_isWithin (a0 : Int32) (a1 : Int32) (h : xH) : Option (Int32 × xH) := jn (fun (x1 : Int32) => some (nb x1, h)) (fun k2 => jn (fun (x3 : Unit) => k2 (0 : Int32)) (fun k4 => if a0 < 0 then k4 () else if a1 < a0 then k4 () else k2 (1 : Int32)))
theorem t_Ma_isWithin {l : Launch} {z : xZ} {d mc ms : Nat} {Ph : Option xV → xH → Prop} {a0 : Int32} {a1 : Int32}  {h : xH} (hd : 1 ≤ d) (hk : OK (f_Ma_isWithin a0 a1 h) (fun q => Ph (some (xI q.1)) q.2)) : Sx l z d mc ms M_Ma_isWithin 0 (x_en [xI a0, xI a1] 2) [] h Ph := by
  unfold f_Ma_isWithin at hk
  refine sx_eq (lc2 := [some (xI a0), some (xI a1)]) rfl rfl ?_
  refine sx_iload_n dc_Ma_isWithin_0 rfl ?_
  refine hk.j (X := fun x1 => Sx l z d mc ms M_Ma_isWithin 14 [some (xI a0), some (xI a1)] [xI x1] h Ph) (fun x1 hk => ?_) (fun k2 jk2 hk => ?_)
  · exact sx_retT dc_Ma_isWithin_14 (Or.inl ⟨rfl, rfl⟩) rfl hk.val
  · refine hk.j (X := fun x3 => Sx l z d mc ms M_Ma_isWithin 13 [some (xI a0), some (xI a1)] [] h Ph) (fun x3 hk => ?_) (fun k4 jk4 hk => ?_)
    · refine sx_iconst (v := (0 : Int32)) dc_Ma_isWithin_13 (by decide) ?_
      exact jk2 (0 : Int32) hk
    · refine sx_if_lt (tgt := 13) dc_Ma_isWithin_1 (by decide) (fun c5 => ?_) (fun c5 => ?_)
      · replace hk := hk.t c5
        exact jk4 () hk
      · replace hk := hk.f c5
        refine sx_iload_n dc_Ma_isWithin_4 rfl ?_
        refine sx_iload_n dc_Ma_isWithin_5 rfl ?_
        refine sx_icmp_gt (tgt := 13) dc_Ma_isWithin_6 (by decide) (fun c6 => ?_) (fun c6 => ?_)
        · replace hk := hk.t c6
          exact jk4 () hk
        · replace hk := hk.f c6
          refine sx_iconst (v := (1 : Int32)) dc_Ma_isWithin_9 (by decide) ?_
          refine sx_goto (tgt := 14) dc_Ma_isWithin_10 (by decide) ?_
          exact jk2 (1 : Int32) hk
theorem dc_Ma_tells_0 : decode M_Ma_tells.2.1 0 = .ok (.aload_n 0, 1) := by decide +kernel
theorem dc_Ma_tells_1 : decode M_Ma_tells.2.1 1 = .ok (.iload_n 1, 1) := by decide +kernel
theorem dc_Ma_tells_2 : decode M_Ma_tells.2.1 2 = .ok (.invokevirtual 124, 3) := by decide +kernel
theorem dc_Ma_tells_5 : decode M_Ma_tells.2.1 5 = .ok (.astore 5, 2) := by decide +kernel
theorem dc_Ma_tells_7 : decode M_Ma_tells.2.1 7 = .ok (.aload 5, 2) := by decide +kernel
theorem dc_Ma_tells_9 : decode M_Ma_tells.2.1 9 = .ok (.ifnull 33, 3) := by decide +kernel
theorem dc_Ma_tells_12 : decode M_Ma_tells.2.1 12 = .ok (.aload_n 0, 1) := by decide +kernel
theorem dc_Ma_tells_13 : decode M_Ma_tells.2.1 13 = .ok (.iload_n 2, 1) := by decide +kernel
theorem dc_Ma_tells_14 : decode M_Ma_tells.2.1 14 = .ok (.invokevirtual 144, 3) := by decide +kernel
theorem dc_Ma_tells_17 : decode M_Ma_tells.2.1 17 = .ok (.ifCond .eq 25, 3) := by decide +kernel
theorem dc_Ma_tells_20 : decode M_Ma_tells.2.1 20 = .ok (.aload_n 0, 1) := by decide +kernel
theorem dc_Ma_tells_21 : decode M_Ma_tells.2.1 21 = .ok (.iload_n 3, 1) := by decide +kernel
theorem dc_Ma_tells_22 : decode M_Ma_tells.2.1 22 = .ok (.invokevirtual 144, 3) := by decide +kernel
theorem dc_Ma_tells_25 : decode M_Ma_tells.2.1 25 = .ok (.ifCond .eq 17, 3) := by decide +kernel
theorem dc_Ma_tells_28 : decode M_Ma_tells.2.1 28 = .ok (.iload_n 2, 1) := by decide +kernel
theorem dc_Ma_tells_29 : decode M_Ma_tells.2.1 29 = .ok (.iload_n 3, 1) := by decide +kernel
theorem dc_Ma_tells_30 : decode M_Ma_tells.2.1 30 = .ok (.if_icmp .ge 12, 3) := by decide +kernel
theorem dc_Ma_tells_33 : decode M_Ma_tells.2.1 33 = .ok (.iload 4, 2) := by decide +kernel
theorem dc_Ma_tells_35 : decode M_Ma_tells.2.1 35 = .ok (.iconst 1, 1) := by decide +kernel
theorem dc_Ma_tells_36 : decode M_Ma_tells.2.1 36 = .ok (.invokestatic 148, 3) := by decide +kernel
theorem dc_Ma_tells_39 : decode M_Ma_tells.2.1 39 = .ok (.ifCond .ne 6, 3) := by decide +kernel
theorem dc_Ma_tells_42 : decode M_Ma_tells.2.1 42 = .ok (.bipush (-2), 2) := by decide +kernel
theorem dc_Ma_tells_44 : decode M_Ma_tells.2.1 44 = .ok (.ireturn, 1) := by decide +kernel
theorem dc_Ma_tells_45 : decode M_Ma_tells.2.1 45 = .ok (.iload 4, 2) := by decide +kernel
theorem dc_Ma_tells_47 : decode M_Ma_tells.2.1 47 = .ok (.iconst 1, 1) := by decide +kernel
theorem dc_Ma_tells_48 : decode M_Ma_tells.2.1 48 = .ok (.if_icmp .ne 11, 3) := by decide +kernel
theorem dc_Ma_tells_51 : decode M_Ma_tells.2.1 51 = .ok (.aload 5, 2) := by decide +kernel
theorem dc_Ma_tells_53 : decode M_Ma_tells.2.1 53 = .ok (.iload_n 2, 1) := by decide +kernel
theorem dc_Ma_tells_54 : decode M_Ma_tells.2.1 54 = .ok (.iload_n 3, 1) := by decide +kernel
theorem dc_Ma_tells_55 : decode M_Ma_tells.2.1 55 = .ok (.invokevirtual 152, 3) := by decide +kernel
theorem dc_Ma_tells_58 : decode M_Ma_tells.2.1 58 = .ok (.ireturn, 1) := by decide +kernel
theorem dc_Ma_tells_59 : decode M_Ma_tells.2.1 59 = .ok (.aload 5, 2) := by decide +kernel
theorem dc_Ma_tells_61 : decode M_Ma_tells.2.1 61 = .ok (.iload_n 2, 1) := by decide +kernel
theorem dc_Ma_tells_62 : decode M_Ma_tells.2.1 62 = .ok (.iload_n 3, 1) := by decide +kernel
theorem dc_Ma_tells_63 : decode M_Ma_tells.2.1 63 = .ok (.aload_n 0, 1) := by decide +kernel
theorem dc_Ma_tells_64 : decode M_Ma_tells.2.1 64 = .ok (.getfield 21, 3) := by decide +kernel
theorem dc_Ma_tells_67 : decode M_Ma_tells.2.1 67 = .ok (.getfield 100, 3) := by decide +kernel
theorem dc_Ma_tells_70 : decode M_Ma_tells.2.1 70 = .ok (.invokevirtual 155, 3) := by decide +kernel
theorem dc_Ma_tells_73 : decode M_Ma_tells.2.1 73 = .ok (.ifCond .eq 7, 3) := by decide +kernel
theorem dc_Ma_tells_76 : decode M_Ma_tells.2.1 76 = .ok (.iconst 1, 1) := by decide +kernel
theorem dc_Ma_tells_77 : decode M_Ma_tells.2.1 77 = .ok (.goto 4, 3) := by decide +kernel
theorem dc_Ma_tells_80 : decode M_Ma_tells.2.1 80 = .ok (.iconst 0, 1) := by decide +kernel
theorem dc_Ma_tells_81 : decode M_Ma_tells.2.1 81 = .ok (.ireturn, 1) := by decide +kernel
def f_Ma_tells (a0 : Nat) (a1 : Int32) (a2 : Int32) (a3 : Int32) (a4 : Int32) (h : xH) : Option (Int32 × xH) := gd (hK h a0 = 10) (Option.bind (f_Ma_townAt a0 a1 h) (fun q14 => jn (fun (x16 : xH) => some ((-2 : Int32), x16)) (fun k17 => if q14.1 = 0 then k17 q14.2 else gd (hK q14.2 a0 = 10) (Option.bind (f_Ma_isGuest a0 a2 q14.2) (fun q19 => if q19.1 = 0 then k17 q19.2 else gd (hK q19.2 a0 = 10) (Option.bind (f_Ma_isGuest a0 a3 q19.2) (fun q22 => if q22.1 = 0 then k17 q22.2 else if a3 ≤ a2 then k17 q22.2 else Option.bind (f_Ma_isWithin a4 (1 : Int32) q22.2) (fun q26 => if q26.1 = 0 then k17 q26.2 else if a4 = (1 : Int32) then gd (hK q26.2 q14.1 = 8) (Option.bind (f_To_price q14.1 a2 a3 q26.2) (fun q35 => some (q35.1, q35.2))) else gd (hK q26.2 a0 = 10) (gd (hK q26.2 (hR q26.2 a0 1) = 6) (gd (hK q26.2 q14.1 = 8) (Option.bind (f_To_knows q14.1 a2 a3 (hI q26.2 (hR q26.2 a0 1) 1) q26.2) (fun q31 => some ((if q31.1 = 0 then (0 : Int32) else (1 : Int32)), q31.2)))))))))))))
theorem t_Ma_tells {l : Launch} {z : xZ} {d mc ms : Nat} {Ph : Option xV → xH → Prop} {a0 : Nat} {a1 : Int32} {a2 : Int32} {a3 : Int32} {a4 : Int32}  {h : xH} (hd : 3 ≤ d) (hk : OK (f_Ma_tells a0 a1 a2 a3 a4 h) (fun q => Ph (some (xI q.1)) q.2)) : Sx l z d mc ms M_Ma_tells 0 (x_en [xR a0, xI a1, xI a2, xI a3, xI a4] 6) [] h Ph := by
  unfold f_Ma_tells at hk
  refine sx_eq (lc2 := [some (xR a0), some (xI a1), some (xI a2), some (xI a3), some (xI a4), none]) rfl rfl ?_
  refine sx_aload_n dc_Ma_tells_0 rfl ?_
  refine sx_iload_n dc_Ma_tells_1 rfl ?_
  obtain ⟨g15, hk⟩ := hk.g
  obtain ⟨q14, eq14, hk⟩ := hk.bind
  refine sx_callV (d2 := d - 1) (mc2 := 0) (ms2 := 0) (as := [xI a1]) mk_Ma_townAt rfl (x_rk (ci := 10) g15 rfl rfl) wM_Ma_124 mi_Ma_townAt me_Ma_townAt rfl (Nat.le_of_ble_eq_true rfl) (Nat.le_of_ble_eq_true rfl) dc_Ma_tells_2 (by omega) (Nat.zero_le _) (Nat.zero_le _) ?_
  refine t_Ma_townAt (by omega) ⟨q14, eq14, ?_⟩
  refine sx_eq0 (lc2 := [some (xR a0), some (xI a1), some (xI a2), some (xI a3), some (xI a4), none]) (st2 := [xR q14.1]) rfl rfl ?_
  refine sx_astore dc_Ma_tells_5 (by decide) (sx_eq (lc2 := [some (xR a0), some (xI a1), some (xI a2), some (xI a3), some (xI a4), some (xR q14.1)]) rfl rfl ?_)
  refine sx_aload dc_Ma_tells_7 rfl ?_
  refine hk.j (X := fun x16 => Sx l z d mc ms M_Ma_tells 42 [some (xR a0), some (xI a1), some (xI a2), some (xI a3), some (xI a4), some (xR q14.1)] [] x16 Ph) (fun x16 hk => ?_) (fun k17 jk17 hk => ?_)
  · refine sx_bipush (v := (-2 : Int32)) dc_Ma_tells_42 (by decide) ?_
    exact sx_retI dc_Ma_tells_44 rfl hk.val
  · refine sx_ifnull (tgt := 42) dc_Ma_tells_9 (by decide) (fun c18 => ?_) (fun c18 => ?_)
    · replace hk := hk.t c18
      exact jk17 q14.2 hk
    · replace hk := hk.f c18
      refine sx_aload_n dc_Ma_tells_12 rfl ?_
      refine sx_iload_n dc_Ma_tells_13 rfl ?_
      obtain ⟨g20, hk⟩ := hk.g
      obtain ⟨q19, eq19, hk⟩ := hk.bind
      refine sx_callV (d2 := d - 1) (mc2 := 0) (ms2 := 0) (as := [xI a2]) mk_Ma_isGuest rfl (x_rk (ci := 10) g20 rfl rfl) wM_Ma_144 mi_Ma_isGuest me_Ma_isGuest rfl (Nat.le_of_ble_eq_true rfl) (Nat.le_of_ble_eq_true rfl) dc_Ma_tells_14 (by omega) (Nat.zero_le _) (Nat.zero_le _) ?_
      refine t_Ma_isGuest (by omega) ⟨q19, eq19, ?_⟩
      refine sx_eq0 (lc2 := [some (xR a0), some (xI a1), some (xI a2), some (xI a3), some (xI a4), some (xR q14.1)]) (st2 := [xI q19.1]) rfl rfl ?_
      refine sx_if_eq (tgt := 42) dc_Ma_tells_17 (by decide) (fun c21 => ?_) (fun c21 => ?_)
      · replace hk := hk.t c21
        exact jk17 q19.2 hk
      · replace hk := hk.f c21
        refine sx_aload_n dc_Ma_tells_20 rfl ?_
        refine sx_iload_n dc_Ma_tells_21 rfl ?_
        obtain ⟨g23, hk⟩ := hk.g
        obtain ⟨q22, eq22, hk⟩ := hk.bind
        refine sx_callV (d2 := d - 1) (mc2 := 0) (ms2 := 0) (as := [xI a3]) mk_Ma_isGuest rfl (x_rk (ci := 10) g23 rfl rfl) wM_Ma_144 mi_Ma_isGuest me_Ma_isGuest rfl (Nat.le_of_ble_eq_true rfl) (Nat.le_of_ble_eq_true rfl) dc_Ma_tells_22 (by omega) (Nat.zero_le _) (Nat.zero_le _) ?_
        refine t_Ma_isGuest (by omega) ⟨q22, eq22, ?_⟩
        refine sx_eq0 (lc2 := [some (xR a0), some (xI a1), some (xI a2), some (xI a3), some (xI a4), some (xR q14.1)]) (st2 := [xI q22.1]) rfl rfl ?_
        refine sx_if_eq (tgt := 42) dc_Ma_tells_25 (by decide) (fun c24 => ?_) (fun c24 => ?_)
        · replace hk := hk.t c24
          exact jk17 q22.2 hk
        · replace hk := hk.f c24
          refine sx_iload_n dc_Ma_tells_28 rfl ?_
          refine sx_iload_n dc_Ma_tells_29 rfl ?_
          refine sx_icmp_ge (tgt := 42) dc_Ma_tells_30 (by decide) (fun c25 => ?_) (fun c25 => ?_)
          · replace hk := hk.t c25
            exact jk17 q22.2 hk
          · replace hk := hk.f c25
            refine sx_iload dc_Ma_tells_33 rfl ?_
            refine sx_iconst (v := (1 : Int32)) dc_Ma_tells_35 (by decide) ?_
            obtain ⟨q26, eq26, hk⟩ := hk.bind
            refine sx_callS (d2 := d - 1) (mc2 := 0) (ms2 := 0) (as := [xI a4, xI (1 : Int32)]) mk_Ma_isWithin rfl wM_Ma_148 mt_Ma_isWithin rfl (Nat.le_of_ble_eq_true rfl) (Nat.le_of_ble_eq_true rfl) dc_Ma_tells_36 (by omega) (Nat.zero_le _) (Nat.zero_le _) ?_
            refine t_Ma_isWithin (by omega) ⟨q26, eq26, ?_⟩
            refine sx_eq0 (lc2 := [some (xR a0), some (xI a1), some (xI a2), some (xI a3), some (xI a4), some (xR q14.1)]) (st2 := [xI q26.1]) rfl rfl ?_
            refine sx_if_ne (tgt := 45) dc_Ma_tells_39 (by decide) (fun c27 => ?_) (fun c27 => ?_)
            · replace hk := hk.f c27
              refine sx_iload dc_Ma_tells_45 rfl ?_
              refine sx_iconst (v := (1 : Int32)) dc_Ma_tells_47 (by decide) ?_
              refine sx_icmp_ne (tgt := 59) dc_Ma_tells_48 (by decide) (fun c28 => ?_) (fun c28 => ?_)
              · replace hk := hk.f c28
                refine sx_aload dc_Ma_tells_59 rfl ?_
                refine sx_iload_n dc_Ma_tells_61 rfl ?_
                refine sx_iload_n dc_Ma_tells_62 rfl ?_
                refine sx_aload_n dc_Ma_tells_63 rfl ?_
                obtain ⟨g29, hk⟩ := hk.g
                refine sx_get (ci := 10) (k := 1) rfl (by decide) wF_Ma_21 g29 dc_Ma_tells_64 ?_
                obtain ⟨g30, hk⟩ := hk.g
                refine sx_get (ci := 6) (k := 1) rfl (by decide) wF_Ma_100 g30 dc_Ma_tells_67 ?_
                obtain ⟨g32, hk⟩ := hk.g
                obtain ⟨q31, eq31, hk⟩ := hk.bind
                refine sx_callV (d2 := d - 1) (mc2 := 0) (ms2 := 0) (as := [xI a2, xI a3, xI (hI q26.2 (hR q26.2 a0 1) 1)]) mk_To_knows rfl (x_rk (ci := 8) g32 rfl rfl) wM_Ma_155 mi_To_knows me_To_knows rfl (Nat.le_of_ble_eq_true rfl) (Nat.le_of_ble_eq_true rfl) dc_Ma_tells_70 (by omega) (Nat.zero_le _) (Nat.zero_le _) ?_
                refine t_To_knows (by omega) ⟨q31, eq31, ?_⟩
                refine sx_eq0 (lc2 := [some (xR a0), some (xI a1), some (xI a2), some (xI a3), some (xI a4), some (xR q14.1)]) (st2 := [xI q31.1]) rfl rfl ?_
                refine sx_mg (pc2 := 81) (lc2 := [some (xR a0), some (xI a1), some (xI a2), some (xI a3), some (xI a4), some (xR q14.1)]) (st2 := [xI (if q31.1 = 0 then (0 : Int32) else (1 : Int32))]) (h2 := q31.2) ?_ (fun J33 => ?_)
                · exact sx_retI dc_Ma_tells_81 rfl hk.val
                · refine sx_if_eq (tgt := 80) dc_Ma_tells_73 (by decide) (fun c34 => ?_) (fun c34 => ?_)
                  · try simp only [if_pos c34] at J33
                    refine sx_iconst (v := (0 : Int32)) dc_Ma_tells_80 (by decide) ?_
                    exact J33
                  · try simp only [if_neg c34] at J33
                    refine sx_iconst (v := (1 : Int32)) dc_Ma_tells_76 (by decide) ?_
                    refine sx_goto (tgt := 81) dc_Ma_tells_77 (by decide) ?_
                    exact J33
              · replace hk := hk.t c28
                refine sx_aload dc_Ma_tells_51 rfl ?_
                refine sx_iload_n dc_Ma_tells_53 rfl ?_
                refine sx_iload_n dc_Ma_tells_54 rfl ?_
                obtain ⟨g36, hk⟩ := hk.g
                obtain ⟨q35, eq35, hk⟩ := hk.bind
                refine sx_callV (d2 := d - 1) (mc2 := 0) (ms2 := 0) (as := [xI a2, xI a3]) mk_To_price rfl (x_rk (ci := 8) g36 rfl rfl) wM_Ma_152 mi_To_price me_To_price rfl (Nat.le_of_ble_eq_true rfl) (Nat.le_of_ble_eq_true rfl) dc_Ma_tells_55 (by omega) (Nat.zero_le _) (Nat.zero_le _) ?_
                refine t_To_price (by omega) ⟨q35, eq35, ?_⟩
                refine sx_eq0 (lc2 := [some (xR a0), some (xI a1), some (xI a2), some (xI a3), some (xI a4), some (xR q14.1)]) (st2 := [xI q35.1]) rfl rfl ?_
                exact sx_retI dc_Ma_tells_58 rfl hk.val
            · replace hk := hk.t c27
              exact jk17 q26.2 hk
theorem dc_Ma_feed_0 : decode M_Ma_feed.2.1 0 = .ok (.iload_n 1, 1) := by decide +kernel
theorem dc_Ma_feed_1 : decode M_Ma_feed.2.1 1 = .ok (.ifCond .lt 10, 3) := by decide +kernel
theorem dc_Ma_feed_4 : decode M_Ma_feed.2.1 4 = .ok (.iload_n 1, 1) := by decide +kernel
theorem dc_Ma_feed_5 : decode M_Ma_feed.2.1 5 = .ok (.sipush 255, 3) := by decide +kernel
theorem dc_Ma_feed_8 : decode M_Ma_feed.2.1 8 = .ok (.if_icmp .le 6, 3) := by decide +kernel
theorem dc_Ma_feed_11 : decode M_Ma_feed.2.1 11 = .ok (.bipush (-2), 2) := by decide +kernel
theorem dc_Ma_feed_13 : decode M_Ma_feed.2.1 13 = .ok (.ireturn, 1) := by decide +kernel
theorem dc_Ma_feed_14 : decode M_Ma_feed.2.1 14 = .ok (.aload_n 0, 1) := by decide +kernel
theorem dc_Ma_feed_15 : decode M_Ma_feed.2.1 15 = .ok (.getfield 60, 3) := by decide +kernel
theorem dc_Ma_feed_18 : decode M_Ma_feed.2.1 18 = .ok (.iload_n 1, 1) := by decide +kernel
theorem dc_Ma_feed_19 : decode M_Ma_feed.2.1 19 = .ok (.invokevirtual 162, 3) := by decide +kernel
theorem dc_Ma_feed_22 : decode M_Ma_feed.2.1 22 = .ok (.ifCond .eq 13, 3) := by decide +kernel
theorem dc_Ma_feed_25 : decode M_Ma_feed.2.1 25 = .ok (.aload_n 0, 1) := by decide +kernel
theorem dc_Ma_feed_26 : decode M_Ma_feed.2.1 26 = .ok (.getfield 60, 3) := by decide +kernel
theorem dc_Ma_feed_29 : decode M_Ma_feed.2.1 29 = .ok (.invokevirtual 164, 3) := by decide +kernel
theorem dc_Ma_feed_32 : decode M_Ma_feed.2.1 32 = .ok (.goto 5, 3) := by decide +kernel
theorem dc_Ma_feed_35 : decode M_Ma_feed.2.1 35 = .ok (.bipush (-4), 2) := by decide +kernel
theorem dc_Ma_feed_37 : decode M_Ma_feed.2.1 37 = .ok (.ireturn, 1) := by decide +kernel
def f_Ma_feed (a0 : Nat) (a1 : Int32) (h : xH) : Option (Int32 × xH) := jn (fun (x7 : Unit) => some ((-2 : Int32), h)) (fun k8 => if a1 < 0 then k8 () else if a1 ≤ (255 : Int32) then gd (hK h a0 = 10) (gd (hK h (hR h a0 6) = 1) (Option.bind (f_Re_put (hR h a0 6) a1 h) (fun q12 => jn (fun (x14 : Int32 × xH) => some (x14.1, x14.2)) (fun k15 => if q12.1 = 0 then k15 ((-4 : Int32), q12.2) else gd (hK q12.2 a0 = 10) (gd (hK q12.2 (hR q12.2 a0 6) = 1) (Option.bind (f_Re_size (hR q12.2 a0 6) q12.2) (fun q18 => k15 (q18.1, q18.2)))))))) else k8 ())
theorem t_Ma_feed {l : Launch} {z : xZ} {d mc ms : Nat} {Ph : Option xV → xH → Prop} {a0 : Nat} {a1 : Int32}  {h : xH} (hd : 2 ≤ d) (hk : OK (f_Ma_feed a0 a1 h) (fun q => Ph (some (xI q.1)) q.2)) : Sx l z d mc ms M_Ma_feed 0 (x_en [xR a0, xI a1] 2) [] h Ph := by
  unfold f_Ma_feed at hk
  refine sx_eq (lc2 := [some (xR a0), some (xI a1)]) rfl rfl ?_
  refine sx_iload_n dc_Ma_feed_0 rfl ?_
  refine hk.j (X := fun x7 => Sx l z d mc ms M_Ma_feed 11 [some (xR a0), some (xI a1)] [] h Ph) (fun x7 hk => ?_) (fun k8 jk8 hk => ?_)
  · refine sx_bipush (v := (-2 : Int32)) dc_Ma_feed_11 (by decide) ?_
    exact sx_retI dc_Ma_feed_13 rfl hk.val
  · refine sx_if_lt (tgt := 11) dc_Ma_feed_1 (by decide) (fun c9 => ?_) (fun c9 => ?_)
    · replace hk := hk.t c9
      exact jk8 () hk
    · replace hk := hk.f c9
      refine sx_iload_n dc_Ma_feed_4 rfl ?_
      refine sx_sipush (v := (255 : Int32)) dc_Ma_feed_5 (by decide) ?_
      refine sx_icmp_le (tgt := 14) dc_Ma_feed_8 (by decide) (fun c10 => ?_) (fun c10 => ?_)
      · replace hk := hk.t c10
        refine sx_aload_n dc_Ma_feed_14 rfl ?_
        obtain ⟨g11, hk⟩ := hk.g
        refine sx_get (ci := 10) (k := 6) rfl (by decide) wF_Ma_60 g11 dc_Ma_feed_15 ?_
        refine sx_iload_n dc_Ma_feed_18 rfl ?_
        obtain ⟨g13, hk⟩ := hk.g
        obtain ⟨q12, eq12, hk⟩ := hk.bind
        refine sx_callV (d2 := d - 1) (mc2 := 0) (ms2 := 0) (as := [xI a1]) mk_Re_put rfl (x_rk (ci := 1) g13 rfl rfl) wM_Ma_162 mi_Re_put me_Re_put rfl (Nat.le_of_ble_eq_true rfl) (Nat.le_of_ble_eq_true rfl) dc_Ma_feed_19 (by omega) (Nat.zero_le _) (Nat.zero_le _) ?_
        refine t_Re_put (by omega) ⟨q12, eq12, ?_⟩
        refine sx_eq0 (lc2 := [some (xR a0), some (xI a1)]) (st2 := [xI q12.1]) rfl rfl ?_
        refine hk.j (X := fun x14 => Sx l z d mc ms M_Ma_feed 37 [some (xR a0), some (xI a1)] [xI x14.1] x14.2 Ph) (fun x14 hk => ?_) (fun k15 jk15 hk => ?_)
        · exact sx_retI dc_Ma_feed_37 rfl hk.val
        · refine sx_if_eq (tgt := 35) dc_Ma_feed_22 (by decide) (fun c16 => ?_) (fun c16 => ?_)
          · replace hk := hk.t c16
            refine sx_bipush (v := (-4 : Int32)) dc_Ma_feed_35 (by decide) ?_
            exact jk15 ((-4 : Int32), q12.2) hk
          · replace hk := hk.f c16
            refine sx_aload_n dc_Ma_feed_25 rfl ?_
            obtain ⟨g17, hk⟩ := hk.g
            refine sx_get (ci := 10) (k := 6) rfl (by decide) wF_Ma_60 g17 dc_Ma_feed_26 ?_
            obtain ⟨g19, hk⟩ := hk.g
            obtain ⟨q18, eq18, hk⟩ := hk.bind
            refine sx_callV (d2 := d - 1) (mc2 := 0) (ms2 := 0) (as := []) mk_Re_size rfl (x_rk (ci := 1) g19 rfl rfl) wM_Ma_164 mi_Re_size me_Re_size rfl (Nat.le_of_ble_eq_true rfl) (Nat.le_of_ble_eq_true rfl) dc_Ma_feed_29 (by omega) (Nat.zero_le _) (Nat.zero_le _) ?_
            refine t_Re_size (by omega) ⟨q18, eq18, ?_⟩
            refine sx_eq0 (lc2 := [some (xR a0), some (xI a1)]) (st2 := [xI q18.1]) rfl rfl ?_
            refine sx_goto (tgt := 37) dc_Ma_feed_32 (by decide) ?_
            exact jk15 (q18.1, q18.2) hk
      · replace hk := hk.f c10
        exact jk8 () hk
theorem dc_Ma_text_0 : decode M_Ma_text.2.1 0 = .ok (.aload_n 0, 1) := by decide +kernel
theorem dc_Ma_text_1 : decode M_Ma_text.2.1 1 = .ok (.getfield 167, 3) := by decide +kernel
theorem dc_Ma_text_4 : decode M_Ma_text.2.1 4 = .ok (.bipush 6, 2) := by decide +kernel
theorem dc_Ma_text_6 : decode M_Ma_text.2.1 6 = .ok (.if_icmp .lt 6, 3) := by decide +kernel
theorem dc_Ma_text_9 : decode M_Ma_text.2.1 9 = .ok (.bipush (-4), 2) := by decide +kernel
theorem dc_Ma_text_11 : decode M_Ma_text.2.1 11 = .ok (.ireturn, 1) := by decide +kernel
theorem dc_Ma_text_12 : decode M_Ma_text.2.1 12 = .ok (.aload_n 0, 1) := by decide +kernel
theorem dc_Ma_text_13 : decode M_Ma_text.2.1 13 = .ok (.getfield 60, 3) := by decide +kernel
theorem dc_Ma_text_16 : decode M_Ma_text.2.1 16 = .ok (.invokevirtual 170, 3) := by decide +kernel
theorem dc_Ma_text_19 : decode M_Ma_text.2.1 19 = .ok (.istore_n 1, 1) := by decide +kernel
theorem dc_Ma_text_20 : decode M_Ma_text.2.1 20 = .ok (.aload_n 0, 1) := by decide +kernel
theorem dc_Ma_text_21 : decode M_Ma_text.2.1 21 = .ok (.getfield 60, 3) := by decide +kernel
theorem dc_Ma_text_24 : decode M_Ma_text.2.1 24 = .ok (.invokevirtual 173, 3) := by decide +kernel
theorem dc_Ma_text_27 : decode M_Ma_text.2.1 27 = .ok (.iload_n 1, 1) := by decide +kernel
theorem dc_Ma_text_28 : decode M_Ma_text.2.1 28 = .ok (.ifCond .ge 10, 3) := by decide +kernel
theorem dc_Ma_text_31 : decode M_Ma_text.2.1 31 = .ok (.aload_n 0, 1) := by decide +kernel
theorem dc_Ma_text_32 : decode M_Ma_text.2.1 32 = .ok (.invokevirtual 176, 3) := by decide +kernel
theorem dc_Ma_text_35 : decode M_Ma_text.2.1 35 = .ok (.goto 7, 3) := by decide +kernel
theorem dc_Ma_text_38 : decode M_Ma_text.2.1 38 = .ok (.bipush (-100), 2) := by decide +kernel
theorem dc_Ma_text_40 : decode M_Ma_text.2.1 40 = .ok (.iload_n 1, 1) := by decide +kernel
theorem dc_Ma_text_41 : decode M_Ma_text.2.1 41 = .ok (.isub, 1) := by decide +kernel
theorem dc_Ma_text_42 : decode M_Ma_text.2.1 42 = .ok (.ireturn, 1) := by decide +kernel
def f_Ma_text (a0 : Nat) (h : xH) : Option (Int32 × xH) := gd (hK h a0 = 10) (if (hI h a0 11) < (6 : Int32) then gd (hK h (hR h a0 6) = 1) (Option.bind (f_Re_read (hR h a0 6) h) (fun q11 => gd (hK q11.2 a0 = 10) (gd (hK q11.2 (hR q11.2 a0 6) = 1) (Option.bind (f_Re_empty (hR q11.2 a0 6) q11.2) (fun q14 => jn (fun (x16 : Int32 × xH) => some (x16.1, x16.2)) (fun k17 => if 0 ≤ q11.1 then k17 (((-100 : Int32) - q11.1), q14.2) else gd (hK q14.2 a0 = 10) (Option.bind (f_Ma_keepText a0 q14.2) (fun q19 => k17 (q19.1, q19.2))))))))) else some ((-4 : Int32), h))
theorem t_Ma_text {l : Launch} {z : xZ} {d mc ms : Nat} {Ph : Option xV → xH → Prop} {a0 : Nat}  {h : xH} (hd : 386 ≤ d) (hmc : 3 ≤ mc) (hms : 402 ≤ ms) (hk : OK (f_Ma_text a0 h) (fun q => Ph (some (xI q.1)) q.2)) : Sx l z d mc ms M_Ma_text 0 (x_en [xR a0] 2) [] h Ph := by
  unfold f_Ma_text at hk
  refine sx_eq (lc2 := [some (xR a0), none]) rfl rfl ?_
  refine sx_aload_n dc_Ma_text_0 rfl ?_
  obtain ⟨g9, hk⟩ := hk.g
  refine sx_get (ci := 10) (k := 11) rfl (by decide) wF_Ma_167 g9 dc_Ma_text_1 ?_
  refine sx_bipush (v := (6 : Int32)) dc_Ma_text_4 (by decide) ?_
  refine sx_icmp_lt (tgt := 12) dc_Ma_text_6 (by decide) (fun c10 => ?_) (fun c10 => ?_)
  · replace hk := hk.t c10
    refine sx_aload_n dc_Ma_text_12 rfl ?_
    refine sx_get (ci := 10) (k := 6) rfl (by decide) wF_Ma_60 g9 dc_Ma_text_13 ?_
    obtain ⟨g12, hk⟩ := hk.g
    obtain ⟨q11, eq11, hk⟩ := hk.bind
    refine sx_callV (d2 := d - 1) (mc2 := 0) (ms2 := 0) (as := []) mk_Re_read rfl (x_rk (ci := 1) g12 rfl rfl) wM_Ma_170 mi_Re_read me_Re_read rfl (Nat.le_of_ble_eq_true rfl) (Nat.le_of_ble_eq_true rfl) dc_Ma_text_16 (by omega) (Nat.zero_le _) (Nat.zero_le _) ?_
    refine t_Re_read (by omega) ⟨q11, eq11, ?_⟩
    refine sx_eq0 (lc2 := [some (xR a0), none]) (st2 := [xI q11.1]) rfl rfl ?_
    refine sx_istore_n dc_Ma_text_19 (by decide) (sx_eq (lc2 := [some (xR a0), some (xI q11.1)]) rfl rfl ?_)
    refine sx_aload_n dc_Ma_text_20 rfl ?_
    obtain ⟨g13, hk⟩ := hk.g
    refine sx_get (ci := 10) (k := 6) rfl (by decide) wF_Ma_60 g13 dc_Ma_text_21 ?_
    obtain ⟨g15, hk⟩ := hk.g
    obtain ⟨q14, eq14, hk⟩ := hk.bind
    refine sx_callV (d2 := d - 1) (mc2 := 0) (ms2 := 0) (as := []) mk_Re_empty rfl (x_rk (ci := 1) g15 rfl rfl) wM_Ma_173 mi_Re_empty me_Re_empty rfl (Nat.le_of_ble_eq_true rfl) (Nat.le_of_ble_eq_true rfl) dc_Ma_text_24 (by omega) (Nat.zero_le _) (Nat.zero_le _) ?_
    refine t_Re_empty (by omega) ⟨q14, eq14, ?_⟩
    refine sx_eq0 (lc2 := [some (xR a0), some (xI q11.1)]) (st2 := []) rfl rfl ?_
    refine sx_iload_n dc_Ma_text_27 rfl ?_
    refine hk.j (X := fun x16 => ∀ (mc ms : Nat), 0 ≤ mc → 0 ≤ ms → Sx l z d mc ms M_Ma_text 42 [some (xR a0), some (xI q11.1)] [xI x16.1] x16.2 Ph) (fun x16 hk mc ms hmc hms => ?_) (fun k17 jk17 hk => ?_)
    · exact sx_retI dc_Ma_text_42 rfl hk.val
    · refine sx_if_ge (tgt := 38) dc_Ma_text_28 (by decide) (fun c18 => ?_) (fun c18 => ?_)
      · replace hk := hk.t c18
        refine sx_bipush (v := (-100 : Int32)) dc_Ma_text_38 (by decide) ?_
        refine sx_iload_n dc_Ma_text_40 rfl ?_
        refine sx_isub dc_Ma_text_41 ?_
        exact jk17 (((-100 : Int32) - q11.1), q14.2) hk _ _ (by omega) (by omega)
      · replace hk := hk.f c18
        refine sx_aload_n dc_Ma_text_31 rfl ?_
        obtain ⟨g20, hk⟩ := hk.g
        obtain ⟨q19, eq19, hk⟩ := hk.bind
        refine sx_callV (d2 := d - 1) (mc2 := 3) (ms2 := 402) (as := []) mk_Ma_keepText rfl (x_rk (ci := 10) g20 rfl rfl) wM_Ma_176 mi_Ma_keepText me_Ma_keepText rfl (Nat.le_of_ble_eq_true rfl) (Nat.le_of_ble_eq_true rfl) dc_Ma_text_32 (by omega) (by omega) (by omega) ?_
        refine t_Ma_keepText (by omega) (by omega) (by omega) ⟨q19, eq19, ?_⟩
        refine sx_eq (lc2 := [some (xR a0), some (xI q11.1)]) (st2 := [xI q19.1]) rfl rfl ?_
        refine sx_goto (tgt := 42) dc_Ma_text_35 (by decide) ?_
        exact jk17 (q19.1, q19.2) hk _ _ (by omega) (by omega)
  · replace hk := hk.f c10
    refine sx_bipush (v := (-4 : Int32)) dc_Ma_text_9 (by decide) ?_
    exact sx_retI dc_Ma_text_11 rfl hk.val

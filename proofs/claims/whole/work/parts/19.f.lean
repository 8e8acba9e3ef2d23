theorem dc_Mo_change_0 : decode M_Mo_change.2.1 0 = .ok (.iload_n 1, 1) := by decide +kernel
theorem dc_Mo_change_1 : decode M_Mo_change.2.1 1 = .ok (.i2l, 1) := by decide +kernel
theorem dc_Mo_change_2 : decode M_Mo_change.2.1 2 = .ok (.lconst 0, 1) := by decide +kernel
theorem dc_Mo_change_3 : decode M_Mo_change.2.1 3 = .ok (.lconst 1, 1) := by decide +kernel
theorem dc_Mo_change_4 : decode M_Mo_change.2.1 4 = .ok (.invokestatic 73, 3) := by decide +kernel
theorem dc_Mo_change_7 : decode M_Mo_change.2.1 7 = .ok (.ifCond .ne 6, 3) := by decide +kernel
theorem dc_Mo_change_10 : decode M_Mo_change.2.1 10 = .ok (.bipush (-2), 2) := by decide +kernel
theorem dc_Mo_change_12 : decode M_Mo_change.2.1 12 = .ok (.ireturn, 1) := by decide +kernel
theorem dc_Mo_change_13 : decode M_Mo_change.2.1 13 = .ok (.aload_n 0, 1) := by decide +kernel
theorem dc_Mo_change_14 : decode M_Mo_change.2.1 14 = .ok (.invokevirtual 263, 3) := by decide +kernel
theorem dc_Mo_change_17 : decode M_Mo_change.2.1 17 = .ok (.aload_n 0, 1) := by decide +kernel
theorem dc_Mo_change_18 : decode M_Mo_change.2.1 18 = .ok (.invokevirtual 281, 3) := by decide +kernel
theorem dc_Mo_change_21 : decode M_Mo_change.2.1 21 = .ok (.iconst (-1), 1) := by decide +kernel
theorem dc_Mo_change_22 : decode M_Mo_change.2.1 22 = .ok (.istore_n 2, 1) := by decide +kernel
theorem dc_Mo_change_23 : decode M_Mo_change.2.1 23 = .ok (.aload_n 0, 1) := by decide +kernel
theorem dc_Mo_change_24 : decode M_Mo_change.2.1 24 = .ok (.aload_n 0, 1) := by decide +kernel
theorem dc_Mo_change_25 : decode M_Mo_change.2.1 25 = .ok (.getfield 77, 3) := by decide +kernel
theorem dc_Mo_change_28 : decode M_Mo_change.2.1 28 = .ok (.aload_n 0, 1) := by decide +kernel
theorem dc_Mo_change_29 : decode M_Mo_change.2.1 29 = .ok (.getfield 26, 3) := by decide +kernel
theorem dc_Mo_change_32 : decode M_Mo_change.2.1 32 = .ok (.invokevirtual 284, 3) := by decide +kernel
theorem dc_Mo_change_35 : decode M_Mo_change.2.1 35 = .ok (.istore_n 3, 1) := by decide +kernel
theorem dc_Mo_change_36 : decode M_Mo_change.2.1 36 = .ok (.iconst 0, 1) := by decide +kernel
theorem dc_Mo_change_37 : decode M_Mo_change.2.1 37 = .ok (.istore 4, 2) := by decide +kernel
theorem dc_Mo_change_39 : decode M_Mo_change.2.1 39 = .ok (.iload 4, 2) := by decide +kernel
theorem dc_Mo_change_41 : decode M_Mo_change.2.1 41 = .ok (.aload_n 0, 1) := by decide +kernel
theorem dc_Mo_change_42 : decode M_Mo_change.2.1 42 = .ok (.getfield 23, 3) := by decide +kernel
theorem dc_Mo_change_45 : decode M_Mo_change.2.1 45 = .ok (.aload_n 0, 1) := by decide +kernel
theorem dc_Mo_change_46 : decode M_Mo_change.2.1 46 = .ok (.getfield 23, 3) := by decide +kernel
theorem dc_Mo_change_49 : decode M_Mo_change.2.1 49 = .ok (.iconst 1, 1) := by decide +kernel
theorem dc_Mo_change_50 : decode M_Mo_change.2.1 50 = .ok (.isub, 1) := by decide +kernel
theorem dc_Mo_change_51 : decode M_Mo_change.2.1 51 = .ok (.imul, 1) := by decide +kernel
theorem dc_Mo_change_52 : decode M_Mo_change.2.1 52 = .ok (.iconst 2, 1) := by decide +kernel
theorem dc_Mo_change_53 : decode M_Mo_change.2.1 53 = .ok (.idiv, 1) := by decide +kernel
theorem dc_Mo_change_54 : decode M_Mo_change.2.1 54 = .ok (.if_icmp .ge 80, 3) := by decide +kernel
theorem dc_Mo_change_57 : decode M_Mo_change.2.1 57 = .ok (.aload_n 0, 1) := by decide +kernel
theorem dc_Mo_change_58 : decode M_Mo_change.2.1 58 = .ok (.getfield 26, 3) := by decide +kernel
theorem dc_Mo_change_61 : decode M_Mo_change.2.1 61 = .ok (.iload 4, 2) := by decide +kernel
theorem dc_Mo_change_63 : decode M_Mo_change.2.1 63 = .ok (.ishr, 1) := by decide +kernel
theorem dc_Mo_change_64 : decode M_Mo_change.2.1 64 = .ok (.iconst 1, 1) := by decide +kernel
theorem dc_Mo_change_65 : decode M_Mo_change.2.1 65 = .ok (.iand, 1) := by decide +kernel
theorem dc_Mo_change_66 : decode M_Mo_change.2.1 66 = .ok (.iconst 1, 1) := by decide +kernel
theorem dc_Mo_change_67 : decode M_Mo_change.2.1 67 = .ok (.if_icmp .ne 61, 3) := by decide +kernel
theorem dc_Mo_change_70 : decode M_Mo_change.2.1 70 = .ok (.aload_n 0, 1) := by decide +kernel
theorem dc_Mo_change_71 : decode M_Mo_change.2.1 71 = .ok (.aload_n 0, 1) := by decide +kernel
theorem dc_Mo_change_72 : decode M_Mo_change.2.1 72 = .ok (.getfield 77, 3) := by decide +kernel
theorem dc_Mo_change_75 : decode M_Mo_change.2.1 75 = .ok (.iconst 1, 1) := by decide +kernel
theorem dc_Mo_change_76 : decode M_Mo_change.2.1 76 = .ok (.iload 4, 2) := by decide +kernel
theorem dc_Mo_change_78 : decode M_Mo_change.2.1 78 = .ok (.ishl, 1) := by decide +kernel
theorem dc_Mo_change_79 : decode M_Mo_change.2.1 79 = .ok (.ixor, 1) := by decide +kernel
theorem dc_Mo_change_80 : decode M_Mo_change.2.1 80 = .ok (.aload_n 0, 1) := by decide +kernel
theorem dc_Mo_change_81 : decode M_Mo_change.2.1 81 = .ok (.getfield 26, 3) := by decide +kernel
theorem dc_Mo_change_84 : decode M_Mo_change.2.1 84 = .ok (.invokevirtual 284, 3) := by decide +kernel
theorem dc_Mo_change_87 : decode M_Mo_change.2.1 87 = .ok (.istore 5, 2) := by decide +kernel
theorem dc_Mo_change_89 : decode M_Mo_change.2.1 89 = .ok (.iload 5, 2) := by decide +kernel
theorem dc_Mo_change_91 : decode M_Mo_change.2.1 91 = .ok (.iload_n 3, 1) := by decide +kernel
theorem dc_Mo_change_92 : decode M_Mo_change.2.1 92 = .ok (.if_icmp .lt 30, 3) := by decide +kernel
theorem dc_Mo_change_95 : decode M_Mo_change.2.1 95 = .ok (.iload_n 2, 1) := by decide +kernel
theorem dc_Mo_change_96 : decode M_Mo_change.2.1 96 = .ok (.iconst (-1), 1) := by decide +kernel
theorem dc_Mo_change_97 : decode M_Mo_change.2.1 97 = .ok (.if_icmp .eq 31, 3) := by decide +kernel
theorem dc_Mo_change_100 : decode M_Mo_change.2.1 100 = .ok (.iload 5, 2) := by decide +kernel
theorem dc_Mo_change_102 : decode M_Mo_change.2.1 102 = .ok (.iload_n 3, 1) := by decide +kernel
theorem dc_Mo_change_103 : decode M_Mo_change.2.1 103 = .ok (.if_icmp .ne 25, 3) := by decide +kernel
theorem dc_Mo_change_106 : decode M_Mo_change.2.1 106 = .ok (.aload_n 0, 1) := by decide +kernel
theorem dc_Mo_change_107 : decode M_Mo_change.2.1 107 = .ok (.getfield 48, 3) := by decide +kernel
theorem dc_Mo_change_110 : decode M_Mo_change.2.1 110 = .ok (.iload 4, 2) := by decide +kernel
theorem dc_Mo_change_112 : decode M_Mo_change.2.1 112 = .ok (.iaload, 1) := by decide +kernel
theorem dc_Mo_change_113 : decode M_Mo_change.2.1 113 = .ok (.aload_n 0, 1) := by decide +kernel
theorem dc_Mo_change_114 : decode M_Mo_change.2.1 114 = .ok (.getfield 48, 3) := by decide +kernel
theorem dc_Mo_change_117 : decode M_Mo_change.2.1 117 = .ok (.iload_n 2, 1) := by decide +kernel
theorem dc_Mo_change_118 : decode M_Mo_change.2.1 118 = .ok (.iaload, 1) := by decide +kernel
theorem dc_Mo_change_119 : decode M_Mo_change.2.1 119 = .ok (.if_icmp .ge 9, 3) := by decide +kernel
theorem dc_Mo_change_122 : decode M_Mo_change.2.1 122 = .ok (.iload 4, 2) := by decide +kernel
theorem dc_Mo_change_124 : decode M_Mo_change.2.1 124 = .ok (.istore_n 2, 1) := by decide +kernel
theorem dc_Mo_change_125 : decode M_Mo_change.2.1 125 = .ok (.iload 5, 2) := by decide +kernel
theorem dc_Mo_change_127 : decode M_Mo_change.2.1 127 = .ok (.istore_n 3, 1) := by decide +kernel
theorem dc_Mo_change_128 : decode M_Mo_change.2.1 128 = .ok (.iinc 4 1, 3) := by decide +kernel
theorem dc_Mo_change_131 : decode M_Mo_change.2.1 131 = .ok (.goto (-92), 3) := by decide +kernel
theorem dc_Mo_change_134 : decode M_Mo_change.2.1 134 = .ok (.iload_n 2, 1) := by decide +kernel
theorem dc_Mo_change_135 : decode M_Mo_change.2.1 135 = .ok (.iconst (-1), 1) := by decide +kernel
theorem dc_Mo_change_136 : decode M_Mo_change.2.1 136 = .ok (.if_icmp .ne 7, 3) := by decide +kernel
theorem dc_Mo_change_139 : decode M_Mo_change.2.1 139 = .ok (.iconst (-1), 1) := by decide +kernel
theorem dc_Mo_change_140 : decode M_Mo_change.2.1 140 = .ok (.goto 12, 3) := by decide +kernel
theorem dc_Mo_change_143 : decode M_Mo_change.2.1 143 = .ok (.iload_n 1, 1) := by decide +kernel
theorem dc_Mo_change_144 : decode M_Mo_change.2.1 144 = .ok (.ifCond .ne 7, 3) := by decide +kernel
theorem dc_Mo_change_147 : decode M_Mo_change.2.1 147 = .ok (.iload_n 2, 1) := by decide +kernel
theorem dc_Mo_change_148 : decode M_Mo_change.2.1 148 = .ok (.goto 4, 3) := by decide +kernel
theorem dc_Mo_change_151 : decode M_Mo_change.2.1 151 = .ok (.iload_n 3, 1) := by decide +kernel
theorem dc_Mo_change_152 : decode M_Mo_change.2.1 152 = .ok (.ireturn, 1) := by decide +kernel
def f_Mo_change_L39 (a0 : Nat) (a1 : Int32) : Nat → Int32 → Int32 → Int32 → xH → (Int32 → Int32 → Int32 → xH → Option (Int32 × xH)) → Option (Int32 × xH)
  | 0, _, _, _, _, _ => none
  | n + 1, a2, a3, a4, h, K => gd (hK h a0 = 11) (if (((hI h a0 7) * ((hI h a0 7) - (1 : Int32))) / (2 : Int32)) ≤ a4 then K a2 a3 a4 h else jn (fun (x24 : Int32 × Int32 × xH) => f_Mo_change_L39 a0 a1 n x24.1 x24.2.1 (a4 + (1 : Int32)) x24.2.2 K) (fun k25 => if ((jShr (hI h a0 9) a4) &&& (1 : Int32)) = (1 : Int32) then Option.bind (f_Mo_allThrees a0 ((hI h a0 8) ^^^ (jShl (1 : Int32) a4)) (hI h a0 9) h) (fun q27 => jn (fun (x28 : Unit) => k25 (a4, q27.1, q27.2)) (fun k29 => if q27.1 < a3 then k29 () else if a2 = (-1 : Int32) then k25 (a2, a3, q27.2) else if q27.1 = a3 then gd (hK q27.2 a0 = 11) (gd (hK q27.2 (hR q27.2 a0 33) = 12) (gd (¬ (a4 < 0 ∨ hL q27.2 (hR q27.2 a0 33) ≤ a4.toNatClampNeg)) (gd (¬ (a2 < 0 ∨ hL q27.2 (hR q27.2 a0 33) ≤ a2.toNatClampNeg)) (if (hI q27.2 (hR q27.2 a0 33) a2.toNatClampNeg) ≤ (hI q27.2 (hR q27.2 a0 33) a4.toNatClampNeg) then k25 (a2, a3, q27.2) else k29 ())))) else k25 (a2, a3, q27.2))) else k25 (a2, a3, h)))
def f_Mo_change (a0 : Nat) (a1 : Int32) (h : xH) : Option (Int32 × xH) := Option.bind (f_Mo_in a1.toInt64 (0 : Int64) (1 : Int64) h) (fun q14 => if q14.1 = 0 then some ((-2 : Int32), q14.2) else gd (hK q14.2 a0 = 11) (Option.bind (f_Mo_gathers a0 q14.2) (fun q16 => gd (hK q16.2 a0 = 11) (Option.bind (f_Mo_gathersCosts a0 q16.2) (fun q18 => gd (hK q18.2 a0 = 11) (Option.bind (f_Mo_allThrees a0 (hI q18.2 a0 8) (hI q18.2 a0 9) q18.2) (fun q21 => f_Mo_change_L39 a0 a1 fu (-1 : Int32) q21.1 (0 : Int32) q21.2 (fun v38 v39 v40 h41 => some ((if v38 = (-1 : Int32) then (-1 : Int32) else if a1 = 0 then v38 else v39), h41)))))))))
theorem t_Mo_change_L39 {l : Launch} {z : xZ} {d mc ms : Nat} {Ph : Option xV → xH → Prop} {a0 : Nat} {a1 : Int32}  (hd : 3 ≤ d) : ∀ (n : Nat) (a2 : Int32) (a3 : Int32) (a4 : Int32) (h : xH) (K : Int32 → Int32 → Int32 → xH → Option (Int32 × xH)), OK (f_Mo_change_L39 a0 a1 n a2 a3 a4 h K) (fun q => Ph (some (xI q.1)) q.2) → (∀ (a2 : Int32) (a3 : Int32) (a4 : Int32) (h : xH), OK (K a2 a3 a4 h) (fun q => Ph (some (xI q.1)) q.2) → Sx l z d mc ms M_Mo_change 134 [some (xR a0), some (xI a1), some (xI a2), some (xI a3), some (xI a4), none] [] h Ph) → Sx l z d mc ms M_Mo_change 39 [some (xR a0), some (xI a1), some (xI a2), some (xI a3), some (xI a4), none] [] h Ph := by
  intro n
  induction n with
  | zero => intro a2 a3 a4 h K hk hE; exact hk.no
  | succ n ih =>
    intro a2 a3 a4 h K hk hE
    rw [f_Mo_change_L39] at hk
    refine sx_iload dc_Mo_change_39 rfl ?_
    refine sx_aload_n dc_Mo_change_41 rfl ?_
    obtain ⟨g22, hk⟩ := hk.g
    refine sx_get (ci := 11) (k := 7) rfl (by decide) wF_Mo_23 g22 dc_Mo_change_42 ?_
    refine sx_aload_n dc_Mo_change_45 rfl ?_
    refine sx_get (ci := 11) (k := 7) rfl (by decide) wF_Mo_23 g22 dc_Mo_change_46 ?_
    refine sx_iconst (v := (1 : Int32)) dc_Mo_change_49 (by decide) ?_
    refine sx_isub dc_Mo_change_50 ?_
    refine sx_imul dc_Mo_change_51 ?_
    refine sx_iconst (v := (2 : Int32)) dc_Mo_change_52 (by decide) ?_
    refine sx_idiv dc_Mo_change_53 (by decide) ?_
    refine sx_icmp_ge (tgt := 134) dc_Mo_change_54 (by decide) (fun c23 => ?_) (fun c23 => ?_)
    · replace hk := hk.t c23
      exact hE a2 a3 a4 h hk
    · replace hk := hk.f c23
      refine sx_aload_n dc_Mo_change_57 rfl ?_
      refine sx_get (ci := 11) (k := 9) rfl (by decide) wF_Mo_26 g22 dc_Mo_change_58 ?_
      refine sx_iload dc_Mo_change_61 rfl ?_
      refine sx_ishr dc_Mo_change_63 ?_
      refine sx_iconst (v := (1 : Int32)) dc_Mo_change_64 (by decide) ?_
      refine sx_iand dc_Mo_change_65 ?_
      refine sx_iconst (v := (1 : Int32)) dc_Mo_change_66 (by decide) ?_
      refine hk.j (X := fun x24 => Sx l z d mc ms M_Mo_change 128 [some (xR a0), some (xI a1), some (xI x24.1), some (xI x24.2.1), some (xI a4), none] [] x24.2.2 Ph) (fun x24 hk => ?_) (fun k25 jk25 hk => ?_)
      · refine sx_iinc (v := (1 : Int32)) dc_Mo_change_128 rfl (by decide) (by decide) (sx_eq (lc2 := [some (xR a0), some (xI a1), some (xI x24.1), some (xI x24.2.1), some (xI (a4 + (1 : Int32))), none]) rfl rfl ?_)
        refine sx_goto (tgt := 39) dc_Mo_change_131 (by decide) ?_
        exact ih x24.1 x24.2.1 (a4 + (1 : Int32)) x24.2.2 _ hk hE
      · refine sx_icmp_ne (tgt := 128) dc_Mo_change_67 (by decide) (fun c26 => ?_) (fun c26 => ?_)
        · replace hk := hk.f c26
          exact jk25 (a2, a3, h) hk
        · replace hk := hk.t c26
          refine sx_aload_n dc_Mo_change_70 rfl ?_
          refine sx_aload_n dc_Mo_change_71 rfl ?_
          refine sx_get (ci := 11) (k := 8) rfl (by decide) wF_Mo_77 g22 dc_Mo_change_72 ?_
          refine sx_iconst (v := (1 : Int32)) dc_Mo_change_75 (by decide) ?_
          refine sx_iload dc_Mo_change_76 rfl ?_
          refine sx_ishl dc_Mo_change_78 ?_
          refine sx_ixor dc_Mo_change_79 ?_
          refine sx_aload_n dc_Mo_change_80 rfl ?_
          refine sx_get (ci := 11) (k := 9) rfl (by decide) wF_Mo_26 g22 dc_Mo_change_81 ?_
          obtain ⟨q27, eq27, hk⟩ := hk.bind
          refine sx_callV (d2 := d - 1) (mc2 := 0) (ms2 := 0) (as := [xI ((hI h a0 8) ^^^ (jShl (1 : Int32) a4)), xI (hI h a0 9)]) mk_Mo_allThrees rfl (x_rk (ci := 11) g22 rfl rfl) wM_Mo_284 mi_Mo_allThrees me_Mo_allThrees rfl (Nat.le_of_ble_eq_true rfl) (Nat.le_of_ble_eq_true rfl) dc_Mo_change_84 (by omega) (Nat.zero_le _) (Nat.zero_le _) ?_
          refine t_Mo_allThrees (by omega) ⟨q27, eq27, ?_⟩
          refine sx_eq0 (lc2 := [some (xR a0), some (xI a1), some (xI a2), some (xI a3), some (xI a4), none]) (st2 := [xI q27.1]) rfl rfl ?_
          refine sx_istore dc_Mo_change_87 (by decide) (sx_eq (lc2 := [some (xR a0), some (xI a1), some (xI a2), some (xI a3), some (xI a4), some (xI q27.1)]) rfl rfl ?_)
          refine sx_iload dc_Mo_change_89 rfl ?_
          refine sx_iload_n dc_Mo_change_91 rfl ?_
          refine hk.j (X := fun x28 => Sx l z d mc ms M_Mo_change 122 [some (xR a0), some (xI a1), some (xI a2), some (xI a3), some (xI a4), some (xI q27.1)] [] q27.2 Ph) (fun x28 hk => ?_) (fun k29 jk29 hk => ?_)
          · refine sx_iload dc_Mo_change_122 rfl ?_
            refine sx_istore_n dc_Mo_change_124 (by decide) (sx_eq (lc2 := [some (xR a0), some (xI a1), some (xI a4), some (xI a3), some (xI a4), some (xI q27.1)]) rfl rfl ?_)
            refine sx_iload dc_Mo_change_125 rfl ?_
            refine sx_istore_n dc_Mo_change_127 (by decide) (sx_eq (lc2 := [some (xR a0), some (xI a1), some (xI a4), some (xI q27.1), some (xI a4), some (xI q27.1)]) rfl rfl ?_)
            exact sx_less (by simp [x_le]) (jk25 (a4, q27.1, q27.2) hk)
          · refine sx_icmp_lt (tgt := 122) dc_Mo_change_92 (by decide) (fun c30 => ?_) (fun c30 => ?_)
            · replace hk := hk.t c30
              exact jk29 () hk
            · replace hk := hk.f c30
              refine sx_iload_n dc_Mo_change_95 rfl ?_
              refine sx_iconst (v := (-1 : Int32)) dc_Mo_change_96 (by decide) ?_
              refine sx_icmp_eq (tgt := 128) dc_Mo_change_97 (by decide) (fun c31 => ?_) (fun c31 => ?_)
              · replace hk := hk.t c31
                exact sx_less (by simp [x_le]) (jk25 (a2, a3, q27.2) hk)
              · replace hk := hk.f c31
                refine sx_iload dc_Mo_change_100 rfl ?_
                refine sx_iload_n dc_Mo_change_102 rfl ?_
                refine sx_icmp_ne (tgt := 128) dc_Mo_change_103 (by decide) (fun c32 => ?_) (fun c32 => ?_)
                · replace hk := hk.f c32
                  exact sx_less (by simp [x_le]) (jk25 (a2, a3, q27.2) hk)
                · replace hk := hk.t c32
                  refine sx_aload_n dc_Mo_change_106 rfl ?_
                  obtain ⟨g33, hk⟩ := hk.g
                  refine sx_get (ci := 11) (k := 33) rfl (by decide) wF_Mo_48 g33 dc_Mo_change_107 ?_
                  refine sx_iload dc_Mo_change_110 rfl ?_
                  obtain ⟨g34, hk⟩ := hk.g
                  obtain ⟨g35, hk⟩ := hk.g
                  refine sx_iald g34 g35 dc_Mo_change_112 ?_
                  refine sx_aload_n dc_Mo_change_113 rfl ?_
                  refine sx_get (ci := 11) (k := 33) rfl (by decide) wF_Mo_48 g33 dc_Mo_change_114 ?_
                  refine sx_iload_n dc_Mo_change_117 rfl ?_
                  obtain ⟨g36, hk⟩ := hk.g
                  refine sx_iald g34 g36 dc_Mo_change_118 ?_
                  refine sx_icmp_ge (tgt := 128) dc_Mo_change_119 (by decide) (fun c37 => ?_) (fun c37 => ?_)
                  · replace hk := hk.t c37
                    exact sx_less (by simp [x_le]) (jk25 (a2, a3, q27.2) hk)
                  · replace hk := hk.f c37
                    exact jk29 () hk
theorem t_Mo_change {l : Launch} {z : xZ} {d mc ms : Nat} {Ph : Option xV → xH → Prop} {a0 : Nat} {a1 : Int32}  {h : xH} (hd : 154 ≤ d) (hk : OK (f_Mo_change a0 a1 h) (fun q => Ph (some (xI q.1)) q.2)) : Sx l z d mc ms M_Mo_change 0 (x_en [xR a0, xI a1] 6) [] h Ph := by
  unfold f_Mo_change at hk
  refine sx_eq (lc2 := [some (xR a0), some (xI a1), none, none, none, none]) rfl rfl ?_
  refine sx_iload_n dc_Mo_change_0 rfl ?_
  refine sx_i2l dc_Mo_change_1 ?_
  refine sx_lconst (v := 0) dc_Mo_change_2 (by decide) ?_
  refine sx_lconst (v := 1) dc_Mo_change_3 (by decide) ?_
  obtain ⟨q14, eq14, hk⟩ := hk.bind
  refine sx_callS (d2 := d - 1) (mc2 := 0) (ms2 := 0) (as := [xJ a1.toInt64, xJ (0 : Int64), xJ (1 : Int64)]) mk_Mo_in rfl wM_Mo_73 mt_Mo_in rfl (Nat.le_of_ble_eq_true rfl) (Nat.le_of_ble_eq_true rfl) dc_Mo_change_4 (by omega) (Nat.zero_le _) (Nat.zero_le _) ?_
  refine t_Mo_in (by omega) ⟨q14, eq14, ?_⟩
  refine sx_eq0 (lc2 := [some (xR a0), some (xI a1), none, none, none, none]) (st2 := [xI q14.1]) rfl rfl ?_
  refine sx_if_ne (tgt := 13) dc_Mo_change_7 (by decide) (fun c15 => ?_) (fun c15 => ?_)
  · replace hk := hk.f c15
    refine sx_aload_n dc_Mo_change_13 rfl ?_
    obtain ⟨g17, hk⟩ := hk.g
    obtain ⟨q16, eq16, hk⟩ := hk.bind
    refine sx_callV (d2 := d - 1) (mc2 := 0) (ms2 := 0) (as := []) mk_Mo_gathers rfl (x_rk (ci := 11) g17 rfl rfl) wM_Mo_263 mi_Mo_gathers me_Mo_gathers rfl (Nat.le_of_ble_eq_true rfl) (Nat.le_of_ble_eq_true rfl) dc_Mo_change_14 (by omega) (Nat.zero_le _) (Nat.zero_le _) ?_
    refine t_Mo_gathers (by omega) ⟨q16, eq16, ?_⟩
    refine sx_eq0 (lc2 := [some (xR a0), some (xI a1), none, none, none, none]) (st2 := []) rfl rfl ?_
    refine sx_aload_n dc_Mo_change_17 rfl ?_
    obtain ⟨g19, hk⟩ := hk.g
    obtain ⟨q18, eq18, hk⟩ := hk.bind
    refine sx_callV (d2 := d - 1) (mc2 := 0) (ms2 := 0) (as := []) mk_Mo_gathersCosts rfl (x_rk (ci := 11) g19 rfl rfl) wM_Mo_281 mi_Mo_gathersCosts me_Mo_gathersCosts rfl (Nat.le_of_ble_eq_true rfl) (Nat.le_of_ble_eq_true rfl) dc_Mo_change_18 (by omega) (Nat.zero_le _) (Nat.zero_le _) ?_
    refine t_Mo_gathersCosts (by omega) ⟨q18, eq18, ?_⟩
    refine sx_eq0 (lc2 := [some (xR a0), some (xI a1), none, none, none, none]) (st2 := []) rfl rfl ?_
    refine sx_iconst (v := (-1 : Int32)) dc_Mo_change_21 (by decide) ?_
    refine sx_istore_n dc_Mo_change_22 (by decide) (sx_eq (lc2 := [some (xR a0), some (xI a1), some (xI (-1 : Int32)), none, none, none]) rfl rfl ?_)
    refine sx_aload_n dc_Mo_change_23 rfl ?_
    refine sx_aload_n dc_Mo_change_24 rfl ?_
    obtain ⟨g20, hk⟩ := hk.g
    refine sx_get (ci := 11) (k := 8) rfl (by decide) wF_Mo_77 g20 dc_Mo_change_25 ?_
    refine sx_aload_n dc_Mo_change_28 rfl ?_
    refine sx_get (ci := 11) (k := 9) rfl (by decide) wF_Mo_26 g20 dc_Mo_change_29 ?_
    obtain ⟨q21, eq21, hk⟩ := hk.bind
    refine sx_callV (d2 := d - 1) (mc2 := 0) (ms2 := 0) (as := [xI (hI q18.2 a0 8), xI (hI q18.2 a0 9)]) mk_Mo_allThrees rfl (x_rk (ci := 11) g20 rfl rfl) wM_Mo_284 mi_Mo_allThrees me_Mo_allThrees rfl (Nat.le_of_ble_eq_true rfl) (Nat.le_of_ble_eq_true rfl) dc_Mo_change_32 (by omega) (Nat.zero_le _) (Nat.zero_le _) ?_
    refine t_Mo_allThrees (by omega) ⟨q21, eq21, ?_⟩
    refine sx_eq0 (lc2 := [some (xR a0), some (xI a1), some (xI (-1 : Int32)), none, none, none]) (st2 := [xI q21.1]) rfl rfl ?_
    refine sx_istore_n dc_Mo_change_35 (by decide) (sx_eq (lc2 := [some (xR a0), some (xI a1), some (xI (-1 : Int32)), some (xI q21.1), none, none]) rfl rfl ?_)
    refine sx_iconst (v := (0 : Int32)) dc_Mo_change_36 (by decide) ?_
    refine sx_istore dc_Mo_change_37 (by decide) (sx_eq (lc2 := [some (xR a0), some (xI a1), some (xI (-1 : Int32)), some (xI q21.1), some (xI (0 : Int32)), none]) rfl rfl ?_)
    refine t_Mo_change_L39 (by omega) _ _ _ _ _ _ hk (fun v38 v39 v40 h41 hk => ?_)
    refine sx_iload_n dc_Mo_change_134 rfl ?_
    refine sx_iconst (v := (-1 : Int32)) dc_Mo_change_135 (by decide) ?_
    refine sx_mg (pc2 := 152) (lc2 := [some (xR a0), some (xI a1), some (xI v38), some (xI v39), some (xI v40), none]) (st2 := [xI (if v38 = (-1 : Int32) then (-1 : Int32) else if a1 = 0 then v38 else v39)]) (h2 := h41) ?_ (fun J42 => ?_)
    · exact sx_retI dc_Mo_change_152 rfl hk.val
    · refine sx_icmp_ne (tgt := 143) dc_Mo_change_136 (by decide) (fun c43 => ?_) (fun c43 => ?_)
      · try simp only [if_neg c43] at J42
        refine sx_iload_n dc_Mo_change_143 rfl ?_
        refine sx_if_ne (tgt := 151) dc_Mo_change_144 (by decide) (fun c44 => ?_) (fun c44 => ?_)
        · try simp only [if_neg c44] at J42
          refine sx_iload_n dc_Mo_change_151 rfl ?_
          exact J42
        · try simp only [if_pos c44] at J42
          refine sx_iload_n dc_Mo_change_147 rfl ?_
          refine sx_goto (tgt := 152) dc_Mo_change_148 (by decide) ?_
          exact J42
      · try simp only [if_pos c43] at J42
        refine sx_iconst (v := (-1 : Int32)) dc_Mo_change_139 (by decide) ?_
        refine sx_goto (tgt := 152) dc_Mo_change_140 (by decide) ?_
        exact J42
  · replace hk := hk.t c15
    refine sx_bipush (v := (-2 : Int32)) dc_Mo_change_10 (by decide) ?_
    exact sx_retI dc_Mo_change_12 rfl hk.val
theorem dc_Mo_leaves_0 : decode M_Mo_leaves.2.1 0 = .ok (.iload_n 2, 1) := by decide +kernel
theorem dc_Mo_leaves_1 : decode M_Mo_leaves.2.1 1 = .ok (.ifCond .ne 66, 3) := by decide +kernel
theorem dc_Mo_leaves_4 : decode M_Mo_leaves.2.1 4 = .ok (.aload_n 0, 1) := by decide +kernel
theorem dc_Mo_leaves_5 : decode M_Mo_leaves.2.1 5 = .ok (.getfield 287, 3) := by decide +kernel
theorem dc_Mo_leaves_8 : decode M_Mo_leaves.2.1 8 = .ok (.iconst (-1), 1) := by decide +kernel
theorem dc_Mo_leaves_9 : decode M_Mo_leaves.2.1 9 = .ok (.if_icmp .eq 29, 3) := by decide +kernel
theorem dc_Mo_leaves_12 : decode M_Mo_leaves.2.1 12 = .ok (.iload 4, 2) := by decide +kernel
theorem dc_Mo_leaves_14 : decode M_Mo_leaves.2.1 14 = .ok (.aload_n 0, 1) := by decide +kernel
theorem dc_Mo_leaves_15 : decode M_Mo_leaves.2.1 15 = .ok (.getfield 290, 3) := by decide +kernel
theorem dc_Mo_leaves_18 : decode M_Mo_leaves.2.1 18 = .ok (.if_icmp .lt 20, 3) := by decide +kernel
theorem dc_Mo_leaves_21 : decode M_Mo_leaves.2.1 21 = .ok (.iload 4, 2) := by decide +kernel
theorem dc_Mo_leaves_23 : decode M_Mo_leaves.2.1 23 = .ok (.aload_n 0, 1) := by decide +kernel
theorem dc_Mo_leaves_24 : decode M_Mo_leaves.2.1 24 = .ok (.getfield 290, 3) := by decide +kernel
theorem dc_Mo_leaves_27 : decode M_Mo_leaves.2.1 27 = .ok (.if_icmp .ne 39, 3) := by decide +kernel
theorem dc_Mo_leaves_30 : decode M_Mo_leaves.2.1 30 = .ok (.iload_n 3, 1) := by decide +kernel
theorem dc_Mo_leaves_31 : decode M_Mo_leaves.2.1 31 = .ok (.aload_n 0, 1) := by decide +kernel
theorem dc_Mo_leaves_32 : decode M_Mo_leaves.2.1 32 = .ok (.getfield 287, 3) := by decide +kernel
theorem dc_Mo_leaves_35 : decode M_Mo_leaves.2.1 35 = .ok (.if_icmp .ge 31, 3) := by decide +kernel
theorem dc_Mo_leaves_38 : decode M_Mo_leaves.2.1 38 = .ok (.aload_n 0, 1) := by decide +kernel
theorem dc_Mo_leaves_39 : decode M_Mo_leaves.2.1 39 = .ok (.aload_n 0, 1) := by decide +kernel
theorem dc_Mo_leaves_40 : decode M_Mo_leaves.2.1 40 = .ok (.getfield 77, 3) := by decide +kernel
theorem dc_Mo_leaves_43 : decode M_Mo_leaves.2.1 43 = .ok (.iload_n 3, 1) := by decide +kernel
theorem dc_Mo_leaves_44 : decode M_Mo_leaves.2.1 44 = .ok (.ixor, 1) := by decide +kernel
theorem dc_Mo_leaves_45 : decode M_Mo_leaves.2.1 45 = .ok (.aload_n 0, 1) := by decide +kernel
theorem dc_Mo_leaves_46 : decode M_Mo_leaves.2.1 46 = .ok (.getfield 26, 3) := by decide +kernel
theorem dc_Mo_leaves_49 : decode M_Mo_leaves.2.1 49 = .ok (.invokevirtual 284, 3) := by decide +kernel
theorem dc_Mo_leaves_52 : decode M_Mo_leaves.2.1 52 = .ok (.ifCond .ne 14, 3) := by decide +kernel
theorem dc_Mo_leaves_55 : decode M_Mo_leaves.2.1 55 = .ok (.aload_n 0, 1) := by decide +kernel
theorem dc_Mo_leaves_56 : decode M_Mo_leaves.2.1 56 = .ok (.iload_n 3, 1) := by decide +kernel
theorem dc_Mo_leaves_57 : decode M_Mo_leaves.2.1 57 = .ok (.putfield 287, 3) := by decide +kernel
theorem dc_Mo_leaves_60 : decode M_Mo_leaves.2.1 60 = .ok (.aload_n 0, 1) := by decide +kernel
theorem dc_Mo_leaves_61 : decode M_Mo_leaves.2.1 61 = .ok (.iload 4, 2) := by decide +kernel
theorem dc_Mo_leaves_63 : decode M_Mo_leaves.2.1 63 = .ok (.putfield 290, 3) := by decide +kernel
theorem dc_Mo_leaves_66 : decode M_Mo_leaves.2.1 66 = .ok (.return_, 1) := by decide +kernel
theorem dc_Mo_leaves_67 : decode M_Mo_leaves.2.1 67 = .ok (.iload_n 1, 1) := by decide +kernel
theorem dc_Mo_leaves_68 : decode M_Mo_leaves.2.1 68 = .ok (.istore 5, 2) := by decide +kernel
theorem dc_Mo_leaves_70 : decode M_Mo_leaves.2.1 70 = .ok (.iload 5, 2) := by decide +kernel
theorem dc_Mo_leaves_72 : decode M_Mo_leaves.2.1 72 = .ok (.aload_n 0, 1) := by decide +kernel
theorem dc_Mo_leaves_73 : decode M_Mo_leaves.2.1 73 = .ok (.getfield 23, 3) := by decide +kernel
theorem dc_Mo_leaves_76 : decode M_Mo_leaves.2.1 76 = .ok (.aload_n 0, 1) := by decide +kernel
theorem dc_Mo_leaves_77 : decode M_Mo_leaves.2.1 77 = .ok (.getfield 23, 3) := by decide +kernel
theorem dc_Mo_leaves_80 : decode M_Mo_leaves.2.1 80 = .ok (.iconst 1, 1) := by decide +kernel
theorem dc_Mo_leaves_81 : decode M_Mo_leaves.2.1 81 = .ok (.isub, 1) := by decide +kernel
theorem dc_Mo_leaves_82 : decode M_Mo_leaves.2.1 82 = .ok (.imul, 1) := by decide +kernel
theorem dc_Mo_leaves_83 : decode M_Mo_leaves.2.1 83 = .ok (.iconst 2, 1) := by decide +kernel
theorem dc_Mo_leaves_84 : decode M_Mo_leaves.2.1 84 = .ok (.idiv, 1) := by decide +kernel
theorem dc_Mo_leaves_85 : decode M_Mo_leaves.2.1 85 = .ok (.if_icmp .ge 49, 3) := by decide +kernel
theorem dc_Mo_leaves_88 : decode M_Mo_leaves.2.1 88 = .ok (.aload_n 0, 1) := by decide +kernel
theorem dc_Mo_leaves_89 : decode M_Mo_leaves.2.1 89 = .ok (.getfield 26, 3) := by decide +kernel
theorem dc_Mo_leaves_92 : decode M_Mo_leaves.2.1 92 = .ok (.iload 5, 2) := by decide +kernel
theorem dc_Mo_leaves_94 : decode M_Mo_leaves.2.1 94 = .ok (.ishr, 1) := by decide +kernel
theorem dc_Mo_leaves_95 : decode M_Mo_leaves.2.1 95 = .ok (.iconst 1, 1) := by decide +kernel
theorem dc_Mo_leaves_96 : decode M_Mo_leaves.2.1 96 = .ok (.iand, 1) := by decide +kernel
theorem dc_Mo_leaves_97 : decode M_Mo_leaves.2.1 97 = .ok (.iconst 1, 1) := by decide +kernel
theorem dc_Mo_leaves_98 : decode M_Mo_leaves.2.1 98 = .ok (.if_icmp .ne 30, 3) := by decide +kernel
theorem dc_Mo_leaves_101 : decode M_Mo_leaves.2.1 101 = .ok (.aload_n 0, 1) := by decide +kernel
theorem dc_Mo_leaves_102 : decode M_Mo_leaves.2.1 102 = .ok (.iload 5, 2) := by decide +kernel
theorem dc_Mo_leaves_104 : decode M_Mo_leaves.2.1 104 = .ok (.iconst 1, 1) := by decide +kernel
theorem dc_Mo_leaves_105 : decode M_Mo_leaves.2.1 105 = .ok (.iadd, 1) := by decide +kernel
theorem dc_Mo_leaves_106 : decode M_Mo_leaves.2.1 106 = .ok (.iload_n 2, 1) := by decide +kernel
theorem dc_Mo_leaves_107 : decode M_Mo_leaves.2.1 107 = .ok (.iconst 1, 1) := by decide +kernel
theorem dc_Mo_leaves_108 : decode M_Mo_leaves.2.1 108 = .ok (.isub, 1) := by decide +kernel
theorem dc_Mo_leaves_109 : decode M_Mo_leaves.2.1 109 = .ok (.iload_n 3, 1) := by decide +kernel
theorem dc_Mo_leaves_110 : decode M_Mo_leaves.2.1 110 = .ok (.iconst 1, 1) := by decide +kernel
theorem dc_Mo_leaves_111 : decode M_Mo_leaves.2.1 111 = .ok (.iload 5, 2) := by decide +kernel
theorem dc_Mo_leaves_113 : decode M_Mo_leaves.2.1 113 = .ok (.ishl, 1) := by decide +kernel
theorem dc_Mo_leaves_114 : decode M_Mo_leaves.2.1 114 = .ok (.ior, 1) := by decide +kernel
theorem dc_Mo_leaves_115 : decode M_Mo_leaves.2.1 115 = .ok (.iload 4, 2) := by decide +kernel
theorem dc_Mo_leaves_117 : decode M_Mo_leaves.2.1 117 = .ok (.aload_n 0, 1) := by decide +kernel
theorem dc_Mo_leaves_118 : decode M_Mo_leaves.2.1 118 = .ok (.getfield 48, 3) := by decide +kernel
theorem dc_Mo_leaves_121 : decode M_Mo_leaves.2.1 121 = .ok (.iload 5, 2) := by decide +kernel
theorem dc_Mo_leaves_123 : decode M_Mo_leaves.2.1 123 = .ok (.iaload, 1) := by decide +kernel
theorem dc_Mo_leaves_124 : decode M_Mo_leaves.2.1 124 = .ok (.iadd, 1) := by decide +kernel
theorem dc_Mo_leaves_125 : decode M_Mo_leaves.2.1 125 = .ok (.invokevirtual 293, 3) := by decide +kernel
theorem dc_Mo_leaves_128 : decode M_Mo_leaves.2.1 128 = .ok (.iinc 5 1, 3) := by decide +kernel
theorem dc_Mo_leaves_131 : decode M_Mo_leaves.2.1 131 = .ok (.goto (-61), 3) := by decide +kernel
theorem dc_Mo_leaves_134 : decode M_Mo_leaves.2.1 134 = .ok (.return_, 1) := by decide +kernel
def f_Mo_leaves_L70 (R0 : Nat → Int32 → Int32 → Int32 → Int32 → xH → Option (Unit × xH)) (a0 : Nat) (a1 : Int32) (a2 : Int32) (a3 : Int32) (a4 : Int32) : Nat → Int32 → xH → (Int32 → xH → Option (Unit × xH)) → Option (Unit × xH)
  | 0, _, _, _ => none
  | n + 1, a5, h, K => gd (hK h a0 = 11) (if (((hI h a0 7) * ((hI h a0 7) - (1 : Int32))) / (2 : Int32)) ≤ a5 then K a5 h else jn (fun (x11 : xH) => f_Mo_leaves_L70 R0 a0 a1 a2 a3 a4 n (a5 + (1 : Int32)) x11 K) (fun k12 => if ((jShr (hI h a0 9) a5) &&& (1 : Int32)) = (1 : Int32) then gd (hK h (hR h a0 33) = 12) (gd (¬ (a5 < 0 ∨ hL h (hR h a0 33) ≤ a5.toNatClampNeg)) (Option.bind (R0 a0 (a5 + (1 : Int32)) (a2 - (1 : Int32)) (a3 ||| (jShl (1 : Int32) a5)) (a4 + (hI h (hR h a0 33) a5.toNatClampNeg)) h) (fun q16 => k12 q16.2))) else k12 h))
def fb_Mo_leaves (R0 : Nat → Int32 → Int32 → Int32 → Int32 → xH → Option (Unit × xH)) (a0 : Nat) (a1 : Int32) (a2 : Int32) (a3 : Int32) (a4 : Int32) (h : xH) : Option (Unit × xH) := if a2 = 0 then gd (hK h a0 = 11) (jn (fun (x20 : xH) => some ((), x20)) (fun k21 => jn (fun (x22 : Unit) => Option.bind (f_Mo_allThrees a0 ((hI h a0 8) ^^^ a3) (hI h a0 9) h) (fun q24 => if q24.1 = 0 then gd (hK q24.2 a0 = 11) (k21 (hIu (hIu q24.2 a0 34 a3) a0 35 a4)) else k21 q24.2)) (fun k23 => if (hI h a0 34) = (-1 : Int32) then k23 () else if a4 < (hI h a0 35) then k23 () else if a4 = (hI h a0 35) then if (hI h a0 34) ≤ a3 then k21 h else k23 () else k21 h))) else f_Mo_leaves_L70 R0 a0 a1 a2 a3 a4 fu a1 h (fun v17 h18 => some ((), h18))
def G_Mo_leaves : Nat → Nat → Int32 → Int32 → Int32 → Int32 → xH → Option (Unit × xH)
  | 0 => fun _ _ _ _ _ _ => none
  | g + 1 => fun a0 a1 a2 a3 a4 h => fb_Mo_leaves (G_Mo_leaves g) a0 a1 a2 a3 a4 h
def f_Mo_leaves (a0 : Nat) (a1 : Int32) (a2 : Int32) (a3 : Int32) (a4 : Int32) (h : xH) : Option (Unit × xH) := G_Mo_leaves 24 a0 a1 a2 a3 a4 h
theorem t_Mo_leaves_L70 {l : Launch} {z : xZ} {d mc ms : Nat} {Ph : Option xV → xH → Prop} {R0 : Nat → Int32 → Int32 → Int32 → Int32 → xH → Option (Unit × xH)} {a0 : Nat} {a1 : Int32} {a2 : Int32} {a3 : Int32} {a4 : Int32} {B : Nat} (hR0 : ∀ {d mc ms : Nat} {Ph : Option xV → xH → Prop} {a0 : Nat} {a1 : Int32} {a2 : Int32} {a3 : Int32} {a4 : Int32} {h : xH}, B ≤ d → OK (R0 a0 a1 a2 a3 a4 h) (fun q => Ph (none) q.2) → Sx l z d mc ms M_Mo_leaves 0 (x_en [xR a0, xI a1, xI a2, xI a3, xI a4] 6) [] h Ph) (hd : B + 1 ≤ d) : ∀ (n : Nat) (a5 : Int32) (h : xH) (K : Int32 → xH → Option (Unit × xH)), OK (f_Mo_leaves_L70 R0 a0 a1 a2 a3 a4 n a5 h K) (fun q => Ph (none) q.2) → (∀ (a5 : Int32) (h : xH), OK (K a5 h) (fun q => Ph (none) q.2) → Sx l z d mc ms M_Mo_leaves 134 [some (xR a0), some (xI a1), some (xI a2), some (xI a3), some (xI a4), some (xI a5)] [] h Ph) → Sx l z d mc ms M_Mo_leaves 70 [some (xR a0), some (xI a1), some (xI a2), some (xI a3), some (xI a4), some (xI a5)] [] h Ph := by
  intro n
  induction n with
  | zero => intro a5 h K hk hE; exact hk.no
  | succ n ih =>
    intro a5 h K hk hE
    rw [f_Mo_leaves_L70] at hk
    refine sx_iload dc_Mo_leaves_70 rfl ?_
    refine sx_aload_n dc_Mo_leaves_72 rfl ?_
    obtain ⟨g9, hk⟩ := hk.g
    refine sx_get (ci := 11) (k := 7) rfl (by decide) wF_Mo_23 g9 dc_Mo_leaves_73 ?_
    refine sx_aload_n dc_Mo_leaves_76 rfl ?_
    refine sx_get (ci := 11) (k := 7) rfl (by decide) wF_Mo_23 g9 dc_Mo_leaves_77 ?_
    refine sx_iconst (v := (1 : Int32)) dc_Mo_leaves_80 (by decide) ?_
    refine sx_isub dc_Mo_leaves_81 ?_
    refine sx_imul dc_Mo_leaves_82 ?_
    refine sx_iconst (v := (2 : Int32)) dc_Mo_leaves_83 (by decide) ?_
    refine sx_idiv dc_Mo_leaves_84 (by decide) ?_
    refine sx_icmp_ge (tgt := 134) dc_Mo_leaves_85 (by decide) (fun c10 => ?_) (fun c10 => ?_)
    · replace hk := hk.t c10
      exact hE a5 h hk
    · replace hk := hk.f c10
      refine sx_aload_n dc_Mo_leaves_88 rfl ?_
      refine sx_get (ci := 11) (k := 9) rfl (by decide) wF_Mo_26 g9 dc_Mo_leaves_89 ?_
      refine sx_iload dc_Mo_leaves_92 rfl ?_
      refine sx_ishr dc_Mo_leaves_94 ?_
      refine sx_iconst (v := (1 : Int32)) dc_Mo_leaves_95 (by decide) ?_
      refine sx_iand dc_Mo_leaves_96 ?_
      refine sx_iconst (v := (1 : Int32)) dc_Mo_leaves_97 (by decide) ?_
      refine hk.j (X := fun x11 => Sx l z d mc ms M_Mo_leaves 128 [some (xR a0), some (xI a1), some (xI a2), some (xI a3), some (xI a4), some (xI a5)] [] x11 Ph) (fun x11 hk => ?_) (fun k12 jk12 hk => ?_)
      · refine sx_iinc (v := (1 : Int32)) dc_Mo_leaves_128 rfl (by decide) (by decide) (sx_eq (lc2 := [some (xR a0), some (xI a1), some (xI a2), some (xI a3), some (xI a4), some (xI (a5 + (1 : Int32)))]) rfl rfl ?_)
        refine sx_goto (tgt := 70) dc_Mo_leaves_131 (by decide) ?_
        exact ih (a5 + (1 : Int32)) x11 _ hk hE
      · refine sx_icmp_ne (tgt := 128) dc_Mo_leaves_98 (by decide) (fun c13 => ?_) (fun c13 => ?_)
        · replace hk := hk.f c13
          exact jk12 h hk
        · replace hk := hk.t c13
          refine sx_aload_n dc_Mo_leaves_101 rfl ?_
          refine sx_iload dc_Mo_leaves_102 rfl ?_
          refine sx_iconst (v := (1 : Int32)) dc_Mo_leaves_104 (by decide) ?_
          refine sx_iadd dc_Mo_leaves_105 ?_
          refine sx_iload_n dc_Mo_leaves_106 rfl ?_
          refine sx_iconst (v := (1 : Int32)) dc_Mo_leaves_107 (by decide) ?_
          refine sx_isub dc_Mo_leaves_108 ?_
          refine sx_iload_n dc_Mo_leaves_109 rfl ?_
          refine sx_iconst (v := (1 : Int32)) dc_Mo_leaves_110 (by decide) ?_
          refine sx_iload dc_Mo_leaves_111 rfl ?_
          refine sx_ishl dc_Mo_leaves_113 ?_
          refine sx_ior dc_Mo_leaves_114 ?_
          refine sx_iload dc_Mo_leaves_115 rfl ?_
          refine sx_aload_n dc_Mo_leaves_117 rfl ?_
          refine sx_get (ci := 11) (k := 33) rfl (by decide) wF_Mo_48 g9 dc_Mo_leaves_118 ?_
          refine sx_iload dc_Mo_leaves_121 rfl ?_
          obtain ⟨g14, hk⟩ := hk.g
          obtain ⟨g15, hk⟩ := hk.g
          refine sx_iald g14 g15 dc_Mo_leaves_123 ?_
          refine sx_iadd dc_Mo_leaves_124 ?_
          obtain ⟨q16, eq16, hk⟩ := hk.bind
          refine sx_callV (d2 := d - 1) (mc2 := 0) (ms2 := 0) (as := [xI (a5 + (1 : Int32)), xI (a2 - (1 : Int32)), xI (a3 ||| (jShl (1 : Int32) a5)), xI (a4 + (hI h (hR h a0 33) a5.toNatClampNeg))]) mk_Mo_leaves rfl (x_rk (ci := 11) g9 rfl rfl) wM_Mo_293 mi_Mo_leaves me_Mo_leaves rfl (Nat.le_of_ble_eq_true rfl) (Nat.le_of_ble_eq_true rfl) dc_Mo_leaves_125 (by omega) (Nat.zero_le _) (Nat.zero_le _) ?_
          refine hR0 (by omega) ⟨q16, eq16, ?_⟩
          refine sx_eq0 (lc2 := [some (xR a0), some (xI a1), some (xI a2), some (xI a3), some (xI a4), some (xI a5)]) (st2 := []) rfl rfl ?_
          exact jk12 q16.2 hk
theorem tb_Mo_leaves {l : Launch} {z : xZ} {d mc ms : Nat} {Ph : Option xV → xH → Prop} {R0 : Nat → Int32 → Int32 → Int32 → Int32 → xH → Option (Unit × xH)} {B : Nat} (hR0 : ∀ {d mc ms : Nat} {Ph : Option xV → xH → Prop} {a0 : Nat} {a1 : Int32} {a2 : Int32} {a3 : Int32} {a4 : Int32} {h : xH}, B ≤ d → OK (R0 a0 a1 a2 a3 a4 h) (fun q => Ph (none) q.2) → Sx l z d mc ms M_Mo_leaves 0 (x_en [xR a0, xI a1, xI a2, xI a3, xI a4] 6) [] h Ph) {a0 : Nat} {a1 : Int32} {a2 : Int32} {a3 : Int32} {a4 : Int32}  {h : xH} (hd : B + 3 ≤ d) (hk : OK (fb_Mo_leaves R0 a0 a1 a2 a3 a4 h) (fun q => Ph (none) q.2)) : Sx l z d mc ms M_Mo_leaves 0 (x_en [xR a0, xI a1, xI a2, xI a3, xI a4] 6) [] h Ph := by
  unfold fb_Mo_leaves at hk
  refine sx_eq (lc2 := [some (xR a0), some (xI a1), some (xI a2), some (xI a3), some (xI a4), none]) rfl rfl ?_
  refine sx_iload_n dc_Mo_leaves_0 rfl ?_
  refine sx_if_ne (tgt := 67) dc_Mo_leaves_1 (by decide) (fun c8 => ?_) (fun c8 => ?_)
  · replace hk := hk.f c8
    refine sx_iload_n dc_Mo_leaves_67 rfl ?_
    refine sx_istore dc_Mo_leaves_68 (by decide) (sx_eq (lc2 := [some (xR a0), some (xI a1), some (xI a2), some (xI a3), some (xI a4), some (xI a1)]) rfl rfl ?_)
    refine t_Mo_leaves_L70 hR0 (by omega) _ _ _ _ hk (fun v17 h18 hk => ?_)
    exact sx_retV dc_Mo_leaves_134 rfl hk.val
  · replace hk := hk.t c8
    refine sx_aload_n dc_Mo_leaves_4 rfl ?_
    obtain ⟨g19, hk⟩ := hk.g
    refine sx_get (ci := 11) (k := 34) rfl (by decide) wF_Mo_287 g19 dc_Mo_leaves_5 ?_
    refine sx_iconst (v := (-1 : Int32)) dc_Mo_leaves_8 (by decide) ?_
    refine hk.j (X := fun x20 => Sx l z d mc ms M_Mo_leaves 66 [some (xR a0), some (xI a1), some (xI a2), some (xI a3), some (xI a4), none] [] x20 Ph) (fun x20 hk => ?_) (fun k21 jk21 hk => ?_)
    · exact sx_retV dc_Mo_leaves_66 rfl hk.val
    · refine hk.j (X := fun x22 => Sx l z d mc ms M_Mo_leaves 38 [some (xR a0), some (xI a1), some (xI a2), some (xI a3), some (xI a4), none] [] h Ph) (fun x22 hk => ?_) (fun k23 jk23 hk => ?_)
      · refine sx_aload_n dc_Mo_leaves_38 rfl ?_
        refine sx_aload_n dc_Mo_leaves_39 rfl ?_
        refine sx_get (ci := 11) (k := 8) rfl (by decide) wF_Mo_77 g19 dc_Mo_leaves_40 ?_
        refine sx_iload_n dc_Mo_leaves_43 rfl ?_
        refine sx_ixor dc_Mo_leaves_44 ?_
        refine sx_aload_n dc_Mo_leaves_45 rfl ?_
        refine sx_get (ci := 11) (k := 9) rfl (by decide) wF_Mo_26 g19 dc_Mo_leaves_46 ?_
        obtain ⟨q24, eq24, hk⟩ := hk.bind
        refine sx_callV (d2 := d - 1) (mc2 := 0) (ms2 := 0) (as := [xI ((hI h a0 8) ^^^ a3), xI (hI h a0 9)]) mk_Mo_allThrees rfl (x_rk (ci := 11) g19 rfl rfl) wM_Mo_284 mi_Mo_allThrees me_Mo_allThrees rfl (Nat.le_of_ble_eq_true rfl) (Nat.le_of_ble_eq_true rfl) dc_Mo_leaves_49 (by omega) (Nat.zero_le _) (Nat.zero_le _) ?_
        refine t_Mo_allThrees (by omega) ⟨q24, eq24, ?_⟩
        refine sx_eq0 (lc2 := [some (xR a0), some (xI a1), some (xI a2), some (xI a3), some (xI a4), none]) (st2 := [xI q24.1]) rfl rfl ?_
        refine sx_if_ne (tgt := 66) dc_Mo_leaves_52 (by decide) (fun c25 => ?_) (fun c25 => ?_)
        · replace hk := hk.f c25
          exact jk21 q24.2 hk
        · replace hk := hk.t c25
          refine sx_aload_n dc_Mo_leaves_55 rfl ?_
          refine sx_iload_n dc_Mo_leaves_56 rfl ?_
          obtain ⟨g26, hk⟩ := hk.g
          refine sx_putI (ci := 11) (k := 34) rfl (by decide) wF_Mo_287 rfl g26 (Or.inl rfl) dc_Mo_leaves_57 ?_
          refine sx_aload_n dc_Mo_leaves_60 rfl ?_
          refine sx_iload dc_Mo_leaves_61 rfl ?_
          refine sx_putI (ci := 11) (k := 35) rfl (by decide) wF_Mo_290 rfl g26 (Or.inl rfl) dc_Mo_leaves_63 ?_
          exact jk21 (hIu (hIu q24.2 a0 34 a3) a0 35 a4) hk
      · refine sx_icmp_eq (tgt := 38) dc_Mo_leaves_9 (by decide) (fun c27 => ?_) (fun c27 => ?_)
        · replace hk := hk.t c27
          exact jk23 () hk
        · replace hk := hk.f c27
          refine sx_iload dc_Mo_leaves_12 rfl ?_
          refine sx_aload_n dc_Mo_leaves_14 rfl ?_
          refine sx_get (ci := 11) (k := 35) rfl (by decide) wF_Mo_290 g19 dc_Mo_leaves_15 ?_
          refine sx_icmp_lt (tgt := 38) dc_Mo_leaves_18 (by decide) (fun c28 => ?_) (fun c28 => ?_)
          · replace hk := hk.t c28
            exact jk23 () hk
          · replace hk := hk.f c28
            refine sx_iload dc_Mo_leaves_21 rfl ?_
            refine sx_aload_n dc_Mo_leaves_23 rfl ?_
            refine sx_get (ci := 11) (k := 35) rfl (by decide) wF_Mo_290 g19 dc_Mo_leaves_24 ?_
            refine sx_icmp_ne (tgt := 66) dc_Mo_leaves_27 (by decide) (fun c29 => ?_) (fun c29 => ?_)
            · replace hk := hk.f c29
              exact jk21 h hk
            · replace hk := hk.t c29
              refine sx_iload_n dc_Mo_leaves_30 rfl ?_
              refine sx_aload_n dc_Mo_leaves_31 rfl ?_
              refine sx_get (ci := 11) (k := 34) rfl (by decide) wF_Mo_287 g19 dc_Mo_leaves_32 ?_
              refine sx_icmp_ge (tgt := 66) dc_Mo_leaves_35 (by decide) (fun c30 => ?_) (fun c30 => ?_)
              · replace hk := hk.t c30
                exact jk21 h hk
              · replace hk := hk.f c30
                exact jk23 () hk
theorem tg_Mo_leaves {l : Launch} {z : xZ} : ∀ (g : Nat) {d mc ms : Nat} {Ph : Option xV → xH → Prop} {a0 : Nat} {a1 : Int32} {a2 : Int32} {a3 : Int32} {a4 : Int32} {h : xH}, 3 * g ≤ d → OK (G_Mo_leaves g a0 a1 a2 a3 a4 h) (fun q => Ph (none) q.2) → Sx l z d mc ms M_Mo_leaves 0 (x_en [xR a0, xI a1, xI a2, xI a3, xI a4] 6) [] h Ph
  | 0 => fun _ hk => hk.no
  | g + 1 => fun hd hk => tb_Mo_leaves (R0 := G_Mo_leaves g) (B := 3 * g) (fun hd hk => tg_Mo_leaves g hd hk) (by omega) hk
theorem t_Mo_leaves {l : Launch} {z : xZ} {d mc ms : Nat} {Ph : Option xV → xH → Prop} {a0 : Nat} {a1 : Int32} {a2 : Int32} {a3 : Int32} {a4 : Int32} {h : xH} (hd : 72 ≤ d) (hk : OK (f_Mo_leaves a0 a1 a2 a3 a4 h) (fun q => Ph (none) q.2)) : Sx l z d mc ms M_Mo_leaves 0 (x_en [xR a0, xI a1, xI a2, xI a3, xI a4] 6) [] h Ph := tg_Mo_leaves 24 (by omega) hk
theorem dc_Mo_noneLeft_0 : decode M_Mo_noneLeft.2.1 0 = .ok (.iload_n 1, 1) := by decide +kernel
theorem dc_Mo_noneLeft_1 : decode M_Mo_noneLeft.2.1 1 = .ok (.i2l, 1) := by decide +kernel
theorem dc_Mo_noneLeft_2 : decode M_Mo_noneLeft.2.1 2 = .ok (.lconst 0, 1) := by decide +kernel
theorem dc_Mo_noneLeft_3 : decode M_Mo_noneLeft.2.1 3 = .ok (.ldc2_w 98, 3) := by decide +kernel
theorem dc_Mo_noneLeft_6 : decode M_Mo_noneLeft.2.1 6 = .ok (.invokestatic 73, 3) := by decide +kernel
theorem dc_Mo_noneLeft_9 : decode M_Mo_noneLeft.2.1 9 = .ok (.ifCond .ne 6, 3) := by decide +kernel
theorem dc_Mo_noneLeft_12 : decode M_Mo_noneLeft.2.1 12 = .ok (.bipush (-2), 2) := by decide +kernel
theorem dc_Mo_noneLeft_14 : decode M_Mo_noneLeft.2.1 14 = .ok (.ireturn, 1) := by decide +kernel
theorem dc_Mo_noneLeft_15 : decode M_Mo_noneLeft.2.1 15 = .ok (.aload_n 0, 1) := by decide +kernel
theorem dc_Mo_noneLeft_16 : decode M_Mo_noneLeft.2.1 16 = .ok (.invokevirtual 263, 3) := by decide +kernel
theorem dc_Mo_noneLeft_19 : decode M_Mo_noneLeft.2.1 19 = .ok (.aload_n 0, 1) := by decide +kernel
theorem dc_Mo_noneLeft_20 : decode M_Mo_noneLeft.2.1 20 = .ok (.invokevirtual 281, 3) := by decide +kernel
theorem dc_Mo_noneLeft_23 : decode M_Mo_noneLeft.2.1 23 = .ok (.aload_n 0, 1) := by decide +kernel
theorem dc_Mo_noneLeft_24 : decode M_Mo_noneLeft.2.1 24 = .ok (.iconst (-1), 1) := by decide +kernel
theorem dc_Mo_noneLeft_25 : decode M_Mo_noneLeft.2.1 25 = .ok (.putfield 287, 3) := by decide +kernel
theorem dc_Mo_noneLeft_28 : decode M_Mo_noneLeft.2.1 28 = .ok (.iconst 0, 1) := by decide +kernel
theorem dc_Mo_noneLeft_29 : decode M_Mo_noneLeft.2.1 29 = .ok (.istore_n 2, 1) := by decide +kernel
theorem dc_Mo_noneLeft_30 : decode M_Mo_noneLeft.2.1 30 = .ok (.iload_n 2, 1) := by decide +kernel
theorem dc_Mo_noneLeft_31 : decode M_Mo_noneLeft.2.1 31 = .ok (.iconst 3, 1) := by decide +kernel
theorem dc_Mo_noneLeft_32 : decode M_Mo_noneLeft.2.1 32 = .ok (.if_icmp .gt 25, 3) := by decide +kernel
theorem dc_Mo_noneLeft_35 : decode M_Mo_noneLeft.2.1 35 = .ok (.aload_n 0, 1) := by decide +kernel
theorem dc_Mo_noneLeft_36 : decode M_Mo_noneLeft.2.1 36 = .ok (.getfield 287, 3) := by decide +kernel
theorem dc_Mo_noneLeft_39 : decode M_Mo_noneLeft.2.1 39 = .ok (.iconst (-1), 1) := by decide +kernel
theorem dc_Mo_noneLeft_40 : decode M_Mo_noneLeft.2.1 40 = .ok (.if_icmp .ne 17, 3) := by decide +kernel
theorem dc_Mo_noneLeft_43 : decode M_Mo_noneLeft.2.1 43 = .ok (.aload_n 0, 1) := by decide +kernel
theorem dc_Mo_noneLeft_44 : decode M_Mo_noneLeft.2.1 44 = .ok (.iconst 0, 1) := by decide +kernel
theorem dc_Mo_noneLeft_45 : decode M_Mo_noneLeft.2.1 45 = .ok (.iload_n 2, 1) := by decide +kernel
theorem dc_Mo_noneLeft_46 : decode M_Mo_noneLeft.2.1 46 = .ok (.iconst 0, 1) := by decide +kernel
theorem dc_Mo_noneLeft_47 : decode M_Mo_noneLeft.2.1 47 = .ok (.iconst 0, 1) := by decide +kernel
theorem dc_Mo_noneLeft_48 : decode M_Mo_noneLeft.2.1 48 = .ok (.invokevirtual 293, 3) := by decide +kernel
theorem dc_Mo_noneLeft_51 : decode M_Mo_noneLeft.2.1 51 = .ok (.iinc 2 1, 3) := by decide +kernel
theorem dc_Mo_noneLeft_54 : decode M_Mo_noneLeft.2.1 54 = .ok (.goto (-24), 3) := by decide +kernel
theorem dc_Mo_noneLeft_57 : decode M_Mo_noneLeft.2.1 57 = .ok (.aload_n 0, 1) := by decide +kernel
theorem dc_Mo_noneLeft_58 : decode M_Mo_noneLeft.2.1 58 = .ok (.getfield 287, 3) := by decide +kernel
theorem dc_Mo_noneLeft_61 : decode M_Mo_noneLeft.2.1 61 = .ok (.iconst (-1), 1) := by decide +kernel
theorem dc_Mo_noneLeft_62 : decode M_Mo_noneLeft.2.1 62 = .ok (.if_icmp .ne 5, 3) := by decide +kernel
theorem dc_Mo_noneLeft_65 : decode M_Mo_noneLeft.2.1 65 = .ok (.iconst (-1), 1) := by decide +kernel
theorem dc_Mo_noneLeft_66 : decode M_Mo_noneLeft.2.1 66 = .ok (.ireturn, 1) := by decide +kernel
theorem dc_Mo_noneLeft_67 : decode M_Mo_noneLeft.2.1 67 = .ok (.iload_n 1, 1) := by decide +kernel
theorem dc_Mo_noneLeft_68 : decode M_Mo_noneLeft.2.1 68 = .ok (.ifCond .ne 13, 3) := by decide +kernel
theorem dc_Mo_noneLeft_71 : decode M_Mo_noneLeft.2.1 71 = .ok (.aload_n 0, 1) := by decide +kernel
theorem dc_Mo_noneLeft_72 : decode M_Mo_noneLeft.2.1 72 = .ok (.getfield 287, 3) := by decide +kernel
theorem dc_Mo_noneLeft_75 : decode M_Mo_noneLeft.2.1 75 = .ok (.invokestatic 117, 3) := by decide +kernel
theorem dc_Mo_noneLeft_78 : decode M_Mo_noneLeft.2.1 78 = .ok (.goto 19, 3) := by decide +kernel
theorem dc_Mo_noneLeft_81 : decode M_Mo_noneLeft.2.1 81 = .ok (.iload_n 1, 1) := by decide +kernel
theorem dc_Mo_noneLeft_82 : decode M_Mo_noneLeft.2.1 82 = .ok (.iconst 1, 1) := by decide +kernel
theorem dc_Mo_noneLeft_83 : decode M_Mo_noneLeft.2.1 83 = .ok (.if_icmp .ne 10, 3) := by decide +kernel
theorem dc_Mo_noneLeft_86 : decode M_Mo_noneLeft.2.1 86 = .ok (.aload_n 0, 1) := by decide +kernel
theorem dc_Mo_noneLeft_87 : decode M_Mo_noneLeft.2.1 87 = .ok (.getfield 287, 3) := by decide +kernel
theorem dc_Mo_noneLeft_90 : decode M_Mo_noneLeft.2.1 90 = .ok (.goto 7, 3) := by decide +kernel
theorem dc_Mo_noneLeft_93 : decode M_Mo_noneLeft.2.1 93 = .ok (.aload_n 0, 1) := by decide +kernel
theorem dc_Mo_noneLeft_94 : decode M_Mo_noneLeft.2.1 94 = .ok (.getfield 290, 3) := by decide +kernel
theorem dc_Mo_noneLeft_97 : decode M_Mo_noneLeft.2.1 97 = .ok (.ireturn, 1) := by decide +kernel
def f_Mo_noneLeft_L30 (a0 : Nat) (a1 : Int32) : Nat → Int32 → xH → (Int32 → xH → Option (Int32 × xH)) → Option (Int32 × xH)
  | 0, _, _, _ => none
  | n + 1, a2, h, K => if (3 : Int32) < a2 then K a2 h else gd (hK h a0 = 11) (if (hI h a0 34) = (-1 : Int32) then Option.bind (f_Mo_leaves a0 (0 : Int32) a2 (0 : Int32) (0 : Int32) h) (fun q19 => f_Mo_noneLeft_L30 a0 a1 n (a2 + (1 : Int32)) q19.2 K) else K a2 h)
def f_Mo_noneLeft (a0 : Nat) (a1 : Int32) (h : xH) : Option (Int32 × xH) := Option.bind (f_Mo_in a1.toInt64 (0 : Int64) (2 : Int64) h) (fun q9 => if q9.1 = 0 then some ((-2 : Int32), q9.2) else gd (hK q9.2 a0 = 11) (Option.bind (f_Mo_gathers a0 q9.2) (fun q11 => gd (hK q11.2 a0 = 11) (Option.bind (f_Mo_gathersCosts a0 q11.2) (fun q13 => gd (hK q13.2 a0 = 11) (f_Mo_noneLeft_L30 a0 a1 fu (0 : Int32) (hIu q13.2 a0 34 (-1 : Int32)) (fun v20 h21 => gd (hK h21 a0 = 11) (if (hI h21 a0 34) = (-1 : Int32) then some ((-1 : Int32), h21) else jn (fun (x24 : Int32 × xH) => some (x24.1, x24.2)) (fun k25 => if a1 = 0 then Option.bind (f_Mo_bitsOf (hI h21 a0 34) h21) (fun q28 => k25 (q28.1, q28.2)) else if a1 = (1 : Int32) then k25 ((hI h21 a0 34), h21) else k25 ((hI h21 a0 35), h21))))))))))
theorem t_Mo_noneLeft_L30 {l : Launch} {z : xZ} {d mc ms : Nat} {Ph : Option xV → xH → Prop} {a0 : Nat} {a1 : Int32}  (hd : 73 ≤ d) : ∀ (n : Nat) (a2 : Int32) (h : xH) (K : Int32 → xH → Option (Int32 × xH)), OK (f_Mo_noneLeft_L30 a0 a1 n a2 h K) (fun q => Ph (some (xI q.1)) q.2) → (∀ (a2 : Int32) (h : xH), OK (K a2 h) (fun q => Ph (some (xI q.1)) q.2) → Sx l z d mc ms M_Mo_noneLeft 57 [some (xR a0), some (xI a1), some (xI a2)] [] h Ph) → Sx l z d mc ms M_Mo_noneLeft 30 [some (xR a0), some (xI a1), some (xI a2)] [] h Ph := by
  intro n
  induction n with
  | zero => intro a2 h K hk hE; exact hk.no
  | succ n ih =>
    intro a2 h K hk hE
    rw [f_Mo_noneLeft_L30] at hk
    refine sx_iload_n dc_Mo_noneLeft_30 rfl ?_
    refine sx_iconst (v := (3 : Int32)) dc_Mo_noneLeft_31 (by decide) ?_
    refine sx_icmp_gt (tgt := 57) dc_Mo_noneLeft_32 (by decide) (fun c16 => ?_) (fun c16 => ?_)
    · replace hk := hk.t c16
      exact hE a2 h hk
    · replace hk := hk.f c16
      refine sx_aload_n dc_Mo_noneLeft_35 rfl ?_
      obtain ⟨g17, hk⟩ := hk.g
      refine sx_get (ci := 11) (k := 34) rfl (by decide) wF_Mo_287 g17 dc_Mo_noneLeft_36 ?_
      refine sx_iconst (v := (-1 : Int32)) dc_Mo_noneLeft_39 (by decide) ?_
      refine sx_icmp_ne (tgt := 57) dc_Mo_noneLeft_40 (by decide) (fun c18 => ?_) (fun c18 => ?_)
      · replace hk := hk.f c18
        exact hE a2 h hk
      · replace hk := hk.t c18
        refine sx_aload_n dc_Mo_noneLeft_43 rfl ?_
        refine sx_iconst (v := (0 : Int32)) dc_Mo_noneLeft_44 (by decide) ?_
        refine sx_iload_n dc_Mo_noneLeft_45 rfl ?_
        refine sx_iconst (v := (0 : Int32)) dc_Mo_noneLeft_46 (by decide) ?_
        refine sx_iconst (v := (0 : Int32)) dc_Mo_noneLeft_47 (by decide) ?_
        obtain ⟨q19, eq19, hk⟩ := hk.bind
        refine sx_callV (d2 := d - 1) (mc2 := 0) (ms2 := 0) (as := [xI (0 : Int32), xI a2, xI (0 : Int32), xI (0 : Int32)]) mk_Mo_leaves rfl (x_rk (ci := 11) g17 rfl rfl) wM_Mo_293 mi_Mo_leaves me_Mo_leaves rfl (Nat.le_of_ble_eq_true rfl) (Nat.le_of_ble_eq_true rfl) dc_Mo_noneLeft_48 (by omega) (Nat.zero_le _) (Nat.zero_le _) ?_
        refine t_Mo_leaves (by omega) ⟨q19, eq19, ?_⟩
        refine sx_eq0 (lc2 := [some (xR a0), some (xI a1), some (xI a2)]) (st2 := []) rfl rfl ?_
        refine sx_iinc (v := (1 : Int32)) dc_Mo_noneLeft_51 rfl (by decide) (by decide) (sx_eq (lc2 := [some (xR a0), some (xI a1), some (xI (a2 + (1 : Int32)))]) rfl rfl ?_)
        refine sx_goto (tgt := 30) dc_Mo_noneLeft_54 (by decide) ?_
        exact ih (a2 + (1 : Int32)) q19.2 _ hk hE
theorem t_Mo_noneLeft {l : Launch} {z : xZ} {d mc ms : Nat} {Ph : Option xV → xH → Prop} {a0 : Nat} {a1 : Int32}  {h : xH} (hd : 154 ≤ d) (hk : OK (f_Mo_noneLeft a0 a1 h) (fun q => Ph (some (xI q.1)) q.2)) : Sx l z d mc ms M_Mo_noneLeft 0 (x_en [xR a0, xI a1] 3) [] h Ph := by
  unfold f_Mo_noneLeft at hk
  refine sx_eq (lc2 := [some (xR a0), some (xI a1), none]) rfl rfl ?_
  refine sx_iload_n dc_Mo_noneLeft_0 rfl ?_
  refine sx_i2l dc_Mo_noneLeft_1 ?_
  refine sx_lconst (v := 0) dc_Mo_noneLeft_2 (by decide) ?_
  refine sx_ldc2 (v := 2) wJ_Mo_98 dc_Mo_noneLeft_3 ?_
  obtain ⟨q9, eq9, hk⟩ := hk.bind
  refine sx_callS (d2 := d - 1) (mc2 := 0) (ms2 := 0) (as := [xJ a1.toInt64, xJ (0 : Int64), xJ (2 : Int64)]) mk_Mo_in rfl wM_Mo_73 mt_Mo_in rfl (Nat.le_of_ble_eq_true rfl) (Nat.le_of_ble_eq_true rfl) dc_Mo_noneLeft_6 (by omega) (Nat.zero_le _) (Nat.zero_le _) ?_
  refine t_Mo_in (by omega) ⟨q9, eq9, ?_⟩
  refine sx_eq0 (lc2 := [some (xR a0), some (xI a1), none]) (st2 := [xI q9.1]) rfl rfl ?_
  refine sx_if_ne (tgt := 15) dc_Mo_noneLeft_9 (by decide) (fun c10 => ?_) (fun c10 => ?_)
  · replace hk := hk.f c10
    refine sx_aload_n dc_Mo_noneLeft_15 rfl ?_
    obtain ⟨g12, hk⟩ := hk.g
    obtain ⟨q11, eq11, hk⟩ := hk.bind
    refine sx_callV (d2 := d - 1) (mc2 := 0) (ms2 := 0) (as := []) mk_Mo_gathers rfl (x_rk (ci := 11) g12 rfl rfl) wM_Mo_263 mi_Mo_gathers me_Mo_gathers rfl (Nat.le_of_ble_eq_true rfl) (Nat.le_of_ble_eq_true rfl) dc_Mo_noneLeft_16 (by omega) (Nat.zero_le _) (Nat.zero_le _) ?_
    refine t_Mo_gathers (by omega) ⟨q11, eq11, ?_⟩
    refine sx_eq0 (lc2 := [some (xR a0), some (xI a1), none]) (st2 := []) rfl rfl ?_
    refine sx_aload_n dc_Mo_noneLeft_19 rfl ?_
    obtain ⟨g14, hk⟩ := hk.g
    obtain ⟨q13, eq13, hk⟩ := hk.bind
    refine sx_callV (d2 := d - 1) (mc2 := 0) (ms2 := 0) (as := []) mk_Mo_gathersCosts rfl (x_rk (ci := 11) g14 rfl rfl) wM_Mo_281 mi_Mo_gathersCosts me_Mo_gathersCosts rfl (Nat.le_of_ble_eq_true rfl) (Nat.le_of_ble_eq_true rfl) dc_Mo_noneLeft_20 (by omega) (Nat.zero_le _) (Nat.zero_le _) ?_
    refine t_Mo_gathersCosts (by omega) ⟨q13, eq13, ?_⟩
    refine sx_eq0 (lc2 := [some (xR a0), some (xI a1), none]) (st2 := []) rfl rfl ?_
    refine sx_aload_n dc_Mo_noneLeft_23 rfl ?_
    refine sx_iconst (v := (-1 : Int32)) dc_Mo_noneLeft_24 (by decide) ?_
    obtain ⟨g15, hk⟩ := hk.g
    refine sx_putI (ci := 11) (k := 34) rfl (by decide) wF_Mo_287 rfl g15 (Or.inl rfl) dc_Mo_noneLeft_25 ?_
    refine sx_iconst (v := (0 : Int32)) dc_Mo_noneLeft_28 (by decide) ?_
    refine sx_istore_n dc_Mo_noneLeft_29 (by decide) (sx_eq (lc2 := [some (xR a0), some (xI a1), some (xI (0 : Int32))]) rfl rfl ?_)
    refine t_Mo_noneLeft_L30 (by omega) _ _ _ _ hk (fun v20 h21 hk => ?_)
    refine sx_aload_n dc_Mo_noneLeft_57 rfl ?_
    obtain ⟨g22, hk⟩ := hk.g
    refine sx_get (ci := 11) (k := 34) rfl (by decide) wF_Mo_287 g22 dc_Mo_noneLeft_58 ?_
    refine sx_iconst (v := (-1 : Int32)) dc_Mo_noneLeft_61 (by decide) ?_
    refine sx_icmp_ne (tgt := 67) dc_Mo_noneLeft_62 (by decide) (fun c23 => ?_) (fun c23 => ?_)
    · replace hk := hk.f c23
      refine sx_iload_n dc_Mo_noneLeft_67 rfl ?_
      refine hk.j (X := fun x24 => Sx l z d mc ms M_Mo_noneLeft 97 [some (xR a0), some (xI a1), some (xI v20)] [xI x24.1] x24.2 Ph) (fun x24 hk => ?_) (fun k25 jk25 hk => ?_)
      · exact sx_retI dc_Mo_noneLeft_97 rfl hk.val
      · refine sx_if_ne (tgt := 81) dc_Mo_noneLeft_68 (by decide) (fun c26 => ?_) (fun c26 => ?_)
        · replace hk := hk.f c26
          refine sx_iload_n dc_Mo_noneLeft_81 rfl ?_
          refine sx_iconst (v := (1 : Int32)) dc_Mo_noneLeft_82 (by decide) ?_
          refine sx_icmp_ne (tgt := 93) dc_Mo_noneLeft_83 (by decide) (fun c27 => ?_) (fun c27 => ?_)
          · replace hk := hk.f c27
            refine sx_aload_n dc_Mo_noneLeft_93 rfl ?_
            refine sx_get (ci := 11) (k := 35) rfl (by decide) wF_Mo_290 g22 dc_Mo_noneLeft_94 ?_
            exact jk25 ((hI h21 a0 35), h21) hk
          · replace hk := hk.t c27
            refine sx_aload_n dc_Mo_noneLeft_86 rfl ?_
            refine sx_get (ci := 11) (k := 34) rfl (by decide) wF_Mo_287 g22 dc_Mo_noneLeft_87 ?_
            refine sx_goto (tgt := 97) dc_Mo_noneLeft_90 (by decide) ?_
            exact jk25 ((hI h21 a0 34), h21) hk
        · replace hk := hk.t c26
          refine sx_aload_n dc_Mo_noneLeft_71 rfl ?_
          refine sx_get (ci := 11) (k := 34) rfl (by decide) wF_Mo_287 g22 dc_Mo_noneLeft_72 ?_
          obtain ⟨q28, eq28, hk⟩ := hk.bind
          refine sx_callS (d2 := d - 1) (mc2 := 0) (ms2 := 0) (as := [xI (hI h21 a0 34)]) mk_Mo_bitsOf rfl wM_Mo_117 mt_Mo_bitsOf rfl (Nat.le_of_ble_eq_true rfl) (Nat.le_of_ble_eq_true rfl) dc_Mo_noneLeft_75 (by omega) (Nat.zero_le _) (Nat.zero_le _) ?_
          refine t_Mo_bitsOf (by omega) ⟨q28, eq28, ?_⟩
          refine sx_eq0 (lc2 := [some (xR a0), some (xI a1), some (xI v20)]) (st2 := [xI q28.1]) rfl rfl ?_
          refine sx_goto (tgt := 97) dc_Mo_noneLeft_78 (by decide) ?_
          exact jk25 (q28.1, q28.2) hk
    · replace hk := hk.t c23
      refine sx_iconst (v := (-1 : Int32)) dc_Mo_noneLeft_65 (by decide) ?_
      exact sx_retI dc_Mo_noneLeft_66 rfl hk.val
  · replace hk := hk.t c10
    refine sx_bipush (v := (-2 : Int32)) dc_Mo_noneLeft_12 (by decide) ?_
    exact sx_retI dc_Mo_noneLeft_14 rfl hk.val
theorem dc_Mo_areAll_0 : decode M_Mo_areAll.2.1 0 = .ok (.iconst 1, 1) := by decide +kernel
theorem dc_Mo_areAll_1 : decode M_Mo_areAll.2.1 1 = .ok (.istore_n 3, 1) := by decide +kernel
theorem dc_Mo_areAll_2 : decode M_Mo_areAll.2.1 2 = .ok (.iload_n 3, 1) := by decide +kernel
theorem dc_Mo_areAll_3 : decode M_Mo_areAll.2.1 3 = .ok (.aload_n 0, 1) := by decide +kernel
theorem dc_Mo_areAll_4 : decode M_Mo_areAll.2.1 4 = .ok (.getfield 23, 3) := by decide +kernel
theorem dc_Mo_areAll_7 : decode M_Mo_areAll.2.1 7 = .ok (.if_icmp .ge 59, 3) := by decide +kernel
theorem dc_Mo_areAll_10 : decode M_Mo_areAll.2.1 10 = .ok (.iconst 0, 1) := by decide +kernel
theorem dc_Mo_areAll_11 : decode M_Mo_areAll.2.1 11 = .ok (.istore 4, 2) := by decide +kernel
theorem dc_Mo_areAll_13 : decode M_Mo_areAll.2.1 13 = .ok (.iload 4, 2) := by decide +kernel
theorem dc_Mo_areAll_15 : decode M_Mo_areAll.2.1 15 = .ok (.iload_n 3, 1) := by decide +kernel
theorem dc_Mo_areAll_16 : decode M_Mo_areAll.2.1 16 = .ok (.if_icmp .ge 44, 3) := by decide +kernel
theorem dc_Mo_areAll_19 : decode M_Mo_areAll.2.1 19 = .ok (.iload_n 1, 1) := by decide +kernel
theorem dc_Mo_areAll_20 : decode M_Mo_areAll.2.1 20 = .ok (.iload 4, 2) := by decide +kernel
theorem dc_Mo_areAll_22 : decode M_Mo_areAll.2.1 22 = .ok (.ishr, 1) := by decide +kernel
theorem dc_Mo_areAll_23 : decode M_Mo_areAll.2.1 23 = .ok (.iconst 1, 1) := by decide +kernel
theorem dc_Mo_areAll_24 : decode M_Mo_areAll.2.1 24 = .ok (.iand, 1) := by decide +kernel
theorem dc_Mo_areAll_25 : decode M_Mo_areAll.2.1 25 = .ok (.iconst 1, 1) := by decide +kernel
theorem dc_Mo_areAll_26 : decode M_Mo_areAll.2.1 26 = .ok (.if_icmp .ne 28, 3) := by decide +kernel
theorem dc_Mo_areAll_29 : decode M_Mo_areAll.2.1 29 = .ok (.iload_n 1, 1) := by decide +kernel
theorem dc_Mo_areAll_30 : decode M_Mo_areAll.2.1 30 = .ok (.iload_n 3, 1) := by decide +kernel
theorem dc_Mo_areAll_31 : decode M_Mo_areAll.2.1 31 = .ok (.ishr, 1) := by decide +kernel
theorem dc_Mo_areAll_32 : decode M_Mo_areAll.2.1 32 = .ok (.iconst 1, 1) := by decide +kernel
theorem dc_Mo_areAll_33 : decode M_Mo_areAll.2.1 33 = .ok (.iand, 1) := by decide +kernel
theorem dc_Mo_areAll_34 : decode M_Mo_areAll.2.1 34 = .ok (.iconst 1, 1) := by decide +kernel
theorem dc_Mo_areAll_35 : decode M_Mo_areAll.2.1 35 = .ok (.if_icmp .ne 19, 3) := by decide +kernel
theorem dc_Mo_areAll_38 : decode M_Mo_areAll.2.1 38 = .ok (.aload_n 0, 1) := by decide +kernel
theorem dc_Mo_areAll_39 : decode M_Mo_areAll.2.1 39 = .ok (.iload 4, 2) := by decide +kernel
theorem dc_Mo_areAll_41 : decode M_Mo_areAll.2.1 41 = .ok (.iload_n 3, 1) := by decide +kernel
theorem dc_Mo_areAll_42 : decode M_Mo_areAll.2.1 42 = .ok (.invokestatic 80, 3) := by decide +kernel
theorem dc_Mo_areAll_45 : decode M_Mo_areAll.2.1 45 = .ok (.invokevirtual 100, 3) := by decide +kernel
theorem dc_Mo_areAll_48 : decode M_Mo_areAll.2.1 48 = .ok (.iload_n 2, 1) := by decide +kernel
theorem dc_Mo_areAll_49 : decode M_Mo_areAll.2.1 49 = .ok (.if_icmp .eq 5, 3) := by decide +kernel
theorem dc_Mo_areAll_52 : decode M_Mo_areAll.2.1 52 = .ok (.iconst 0, 1) := by decide +kernel
theorem dc_Mo_areAll_53 : decode M_Mo_areAll.2.1 53 = .ok (.ireturn, 1) := by decide +kernel
theorem dc_Mo_areAll_54 : decode M_Mo_areAll.2.1 54 = .ok (.iinc 4 1, 3) := by decide +kernel
theorem dc_Mo_areAll_57 : decode M_Mo_areAll.2.1 57 = .ok (.goto (-44), 3) := by decide +kernel
theorem dc_Mo_areAll_60 : decode M_Mo_areAll.2.1 60 = .ok (.iinc 3 1, 3) := by decide +kernel
theorem dc_Mo_areAll_63 : decode M_Mo_areAll.2.1 63 = .ok (.goto (-61), 3) := by decide +kernel
theorem dc_Mo_areAll_66 : decode M_Mo_areAll.2.1 66 = .ok (.iconst 1, 1) := by decide +kernel
theorem dc_Mo_areAll_67 : decode M_Mo_areAll.2.1 67 = .ok (.ireturn, 1) := by decide +kernel
def f_Mo_areAll_L13 (a0 : Nat) (a1 : Int32) (a2 : Int32) (a3 : Int32) : Nat → Int32 → xH → (Int32 → xH → Option (Int32 × xH)) → Option (Int32 × xH)
  | 0, _, _, _ => none
  | n + 1, a4, h, K => if a3 ≤ a4 then K a4 h else jn (fun (x8 : xH) => f_Mo_areAll_L13 a0 a1 a2 a3 n (a4 + (1 : Int32)) x8 K) (fun k9 => if ((jShr a1 a4) &&& (1 : Int32)) = (1 : Int32) then if ((jShr a1 a3) &&& (1 : Int32)) = (1 : Int32) then Option.bind (f_Mo_seat a4 a3 h) (fun q12 => gd (hK q12.2 a0 = 11) (Option.bind (f_Mo_pairAt a0 q12.1 q12.2) (fun q13 => if q13.1 = a2 then k9 q13.2 else some ((0 : Int32), q13.2)))) else k9 h else k9 h)
def f_Mo_areAll_L2 (a0 : Nat) (a1 : Int32) (a2 : Int32) : Nat → Int32 → xH → (Int32 → xH → Option (Int32 × xH)) → Option (Int32 × xH)
  | 0, _, _, _ => none
  | n + 1, a3, h, K => gd (hK h a0 = 11) (if (hI h a0 7) ≤ a3 then K a3 h else f_Mo_areAll_L13 a0 a1 a2 a3 fu (0 : Int32) h (fun v16 h17 => f_Mo_areAll_L2 a0 a1 a2 n (a3 + (1 : Int32)) h17 K))
def f_Mo_areAll (a0 : Nat) (a1 : Int32) (a2 : Int32) (h : xH) : Option (Int32 × xH) := f_Mo_areAll_L2 a0 a1 a2 fu (1 : Int32) h (fun v18 h19 => some ((1 : Int32), h19))
theorem t_Mo_areAll_L13 {l : Launch} {z : xZ} {d mc ms : Nat} {Ph : Option xV → xH → Prop} {a0 : Nat} {a1 : Int32} {a2 : Int32} {a3 : Int32}  (hd : 2 ≤ d) : ∀ (n : Nat) (a4 : Int32) (h : xH) (K : Int32 → xH → Option (Int32 × xH)), OK (f_Mo_areAll_L13 a0 a1 a2 a3 n a4 h K) (fun q => Ph (some (xI q.1)) q.2) → (∀ (a4 : Int32) (h : xH), OK (K a4 h) (fun q => Ph (some (xI q.1)) q.2) → Sx l z d mc ms M_Mo_areAll 60 [some (xR a0), some (xI a1), some (xI a2), some (xI a3), some (xI a4)] [] h Ph) → Sx l z d mc ms M_Mo_areAll 13 [some (xR a0), some (xI a1), some (xI a2), some (xI a3), some (xI a4)] [] h Ph := by
  intro n
  induction n with
  | zero => intro a4 h K hk hE; exact hk.no
  | succ n ih =>
    intro a4 h K hk hE
    rw [f_Mo_areAll_L13] at hk
    refine sx_iload dc_Mo_areAll_13 rfl ?_
    refine sx_iload_n dc_Mo_areAll_15 rfl ?_
    refine sx_icmp_ge (tgt := 60) dc_Mo_areAll_16 (by decide) (fun c7 => ?_) (fun c7 => ?_)
    · replace hk := hk.t c7
      exact hE a4 h hk
    · replace hk := hk.f c7
      refine sx_iload_n dc_Mo_areAll_19 rfl ?_
      refine sx_iload dc_Mo_areAll_20 rfl ?_
      refine sx_ishr dc_Mo_areAll_22 ?_
      refine sx_iconst (v := (1 : Int32)) dc_Mo_areAll_23 (by decide) ?_
      refine sx_iand dc_Mo_areAll_24 ?_
      refine sx_iconst (v := (1 : Int32)) dc_Mo_areAll_25 (by decide) ?_
      refine hk.j (X := fun x8 => Sx l z d mc ms M_Mo_areAll 54 [some (xR a0), some (xI a1), some (xI a2), some (xI a3), some (xI a4)] [] x8 Ph) (fun x8 hk => ?_) (fun k9 jk9 hk => ?_)
      · refine sx_iinc (v := (1 : Int32)) dc_Mo_areAll_54 rfl (by decide) (by decide) (sx_eq (lc2 := [some (xR a0), some (xI a1), some (xI a2), some (xI a3), some (xI (a4 + (1 : Int32)))]) rfl rfl ?_)
        refine sx_goto (tgt := 13) dc_Mo_areAll_57 (by decide) ?_
        exact ih (a4 + (1 : Int32)) x8 _ hk hE
      · refine sx_icmp_ne (tgt := 54) dc_Mo_areAll_26 (by decide) (fun c10 => ?_) (fun c10 => ?_)
        · replace hk := hk.f c10
          exact jk9 h hk
        · replace hk := hk.t c10
          refine sx_iload_n dc_Mo_areAll_29 rfl ?_
          refine sx_iload_n dc_Mo_areAll_30 rfl ?_
          refine sx_ishr dc_Mo_areAll_31 ?_
          refine sx_iconst (v := (1 : Int32)) dc_Mo_areAll_32 (by decide) ?_
          refine sx_iand dc_Mo_areAll_33 ?_
          refine sx_iconst (v := (1 : Int32)) dc_Mo_areAll_34 (by decide) ?_
          refine sx_icmp_ne (tgt := 54) dc_Mo_areAll_35 (by decide) (fun c11 => ?_) (fun c11 => ?_)
          · replace hk := hk.f c11
            exact jk9 h hk
          · replace hk := hk.t c11
            refine sx_aload_n dc_Mo_areAll_38 rfl ?_
            refine sx_iload dc_Mo_areAll_39 rfl ?_
            refine sx_iload_n dc_Mo_areAll_41 rfl ?_
            obtain ⟨q12, eq12, hk⟩ := hk.bind
            refine sx_callS (d2 := d - 1) (mc2 := 0) (ms2 := 0) (as := [xI a4, xI a3]) mk_Mo_seat rfl wM_Mo_80 mt_Mo_seat rfl (Nat.le_of_ble_eq_true rfl) (Nat.le_of_ble_eq_true rfl) dc_Mo_areAll_42 (by omega) (Nat.zero_le _) (Nat.zero_le _) ?_
            refine t_Mo_seat (by omega) ⟨q12, eq12, ?_⟩
            refine sx_eq0 (lc2 := [some (xR a0), some (xI a1), some (xI a2), some (xI a3), some (xI a4)]) (st2 := [xI q12.1, xR a0]) rfl rfl ?_
            obtain ⟨g14, hk⟩ := hk.g
            obtain ⟨q13, eq13, hk⟩ := hk.bind
            refine sx_callV (d2 := d - 1) (mc2 := 0) (ms2 := 0) (as := [xI q12.1]) mk_Mo_pairAt rfl (x_rk (ci := 11) g14 rfl rfl) wM_Mo_100 mi_Mo_pairAt me_Mo_pairAt rfl (Nat.le_of_ble_eq_true rfl) (Nat.le_of_ble_eq_true rfl) dc_Mo_areAll_45 (by omega) (Nat.zero_le _) (Nat.zero_le _) ?_
            refine t_Mo_pairAt (by omega) ⟨q13, eq13, ?_⟩
            refine sx_eq0 (lc2 := [some (xR a0), some (xI a1), some (xI a2), some (xI a3), some (xI a4)]) (st2 := [xI q13.1]) rfl rfl ?_
            refine sx_iload_n dc_Mo_areAll_48 rfl ?_
            refine sx_icmp_eq (tgt := 54) dc_Mo_areAll_49 (by decide) (fun c15 => ?_) (fun c15 => ?_)
            · replace hk := hk.t c15
              exact jk9 q13.2 hk
            · replace hk := hk.f c15
              refine sx_iconst (v := (0 : Int32)) dc_Mo_areAll_52 (by decide) ?_
              exact sx_retT (v := (0 : Int32)) dc_Mo_areAll_53 (Or.inl ⟨rfl, rfl⟩) (by decide) hk.val
theorem t_Mo_areAll_L2 {l : Launch} {z : xZ} {d mc ms : Nat} {Ph : Option xV → xH → Prop} {a0 : Nat} {a1 : Int32} {a2 : Int32}  (hd : 2 ≤ d) : ∀ (n : Nat) (a3 : Int32) (h : xH) (K : Int32 → xH → Option (Int32 × xH)), OK (f_Mo_areAll_L2 a0 a1 a2 n a3 h K) (fun q => Ph (some (xI q.1)) q.2) → (∀ (a3 : Int32) (h : xH), OK (K a3 h) (fun q => Ph (some (xI q.1)) q.2) → Sx l z d mc ms M_Mo_areAll 66 [some (xR a0), some (xI a1), some (xI a2), some (xI a3), none] [] h Ph) → Sx l z d mc ms M_Mo_areAll 2 [some (xR a0), some (xI a1), some (xI a2), some (xI a3), none] [] h Ph := by
  intro n
  induction n with
  | zero => intro a3 h K hk hE; exact hk.no
  | succ n ih =>
    intro a3 h K hk hE
    rw [f_Mo_areAll_L2] at hk
    refine sx_iload_n dc_Mo_areAll_2 rfl ?_
    refine sx_aload_n dc_Mo_areAll_3 rfl ?_
    obtain ⟨g5, hk⟩ := hk.g
    refine sx_get (ci := 11) (k := 7) rfl (by decide) wF_Mo_23 g5 dc_Mo_areAll_4 ?_
    refine sx_icmp_ge (tgt := 66) dc_Mo_areAll_7 (by decide) (fun c6 => ?_) (fun c6 => ?_)
    · replace hk := hk.t c6
      exact hE a3 h hk
    · replace hk := hk.f c6
      refine sx_iconst (v := (0 : Int32)) dc_Mo_areAll_10 (by decide) ?_
      refine sx_istore dc_Mo_areAll_11 (by decide) (sx_eq (lc2 := [some (xR a0), some (xI a1), some (xI a2), some (xI a3), some (xI (0 : Int32))]) rfl rfl ?_)
      refine t_Mo_areAll_L13 (by omega) _ _ _ _ hk (fun v16 h17 hk => ?_)
      refine sx_iinc (v := (1 : Int32)) dc_Mo_areAll_60 rfl (by decide) (by decide) (sx_eq (lc2 := [some (xR a0), some (xI a1), some (xI a2), some (xI (a3 + (1 : Int32))), some (xI v16)]) rfl rfl ?_)
      refine sx_goto (tgt := 2) dc_Mo_areAll_63 (by decide) ?_
      exact sx_less (by simp [x_le]) (ih (a3 + (1 : Int32)) h17 _ hk hE)
theorem t_Mo_areAll {l : Launch} {z : xZ} {d mc ms : Nat} {Ph : Option xV → xH → Prop} {a0 : Nat} {a1 : Int32} {a2 : Int32}  {h : xH} (hd : 2 ≤ d) (hk : OK (f_Mo_areAll a0 a1 a2 h) (fun q => Ph (some (xI q.1)) q.2)) : Sx l z d mc ms M_Mo_areAll 0 (x_en [xR a0, xI a1, xI a2] 5) [] h Ph := by
  unfold f_Mo_areAll at hk
  refine sx_eq (lc2 := [some (xR a0), some (xI a1), some (xI a2), none, none]) rfl rfl ?_
  refine sx_iconst (v := (1 : Int32)) dc_Mo_areAll_0 (by decide) ?_
  refine sx_istore_n dc_Mo_areAll_1 (by decide) (sx_eq (lc2 := [some (xR a0), some (xI a1), some (xI a2), some (xI (1 : Int32)), none]) rfl rfl ?_)
  refine t_Mo_areAll_L2 (by omega) _ _ _ _ hk (fun v18 h19 hk => ?_)
  refine sx_iconst (v := (1 : Int32)) dc_Mo_areAll_66 (by decide) ?_
  exact sx_retT (v := (1 : Int32)) dc_Mo_areAll_67 (Or.inl ⟨rfl, rfl⟩) (by decide) hk.val
theorem dc_Mo_all_0 : decode M_Mo_all.2.1 0 = .ok (.iload_n 1, 1) := by decide +kernel
theorem dc_Mo_all_1 : decode M_Mo_all.2.1 1 = .ok (.i2l, 1) := by decide +kernel
theorem dc_Mo_all_2 : decode M_Mo_all.2.1 2 = .ok (.lconst 0, 1) := by decide +kernel
theorem dc_Mo_all_3 : decode M_Mo_all.2.1 3 = .ok (.lconst 1, 1) := by decide +kernel
theorem dc_Mo_all_4 : decode M_Mo_all.2.1 4 = .ok (.invokestatic 73, 3) := by decide +kernel
theorem dc_Mo_all_7 : decode M_Mo_all.2.1 7 = .ok (.ifCond .eq 13, 3) := by decide +kernel
theorem dc_Mo_all_10 : decode M_Mo_all.2.1 10 = .ok (.iload_n 2, 1) := by decide +kernel
theorem dc_Mo_all_11 : decode M_Mo_all.2.1 11 = .ok (.i2l, 1) := by decide +kernel
theorem dc_Mo_all_12 : decode M_Mo_all.2.1 12 = .ok (.lconst 0, 1) := by decide +kernel
theorem dc_Mo_all_13 : decode M_Mo_all.2.1 13 = .ok (.lconst 1, 1) := by decide +kernel
theorem dc_Mo_all_14 : decode M_Mo_all.2.1 14 = .ok (.invokestatic 73, 3) := by decide +kernel
theorem dc_Mo_all_17 : decode M_Mo_all.2.1 17 = .ok (.ifCond .ne 6, 3) := by decide +kernel
theorem dc_Mo_all_20 : decode M_Mo_all.2.1 20 = .ok (.bipush (-2), 2) := by decide +kernel
theorem dc_Mo_all_22 : decode M_Mo_all.2.1 22 = .ok (.ireturn, 1) := by decide +kernel
theorem dc_Mo_all_23 : decode M_Mo_all.2.1 23 = .ok (.iconst 0, 1) := by decide +kernel
theorem dc_Mo_all_24 : decode M_Mo_all.2.1 24 = .ok (.istore_n 3, 1) := by decide +kernel
theorem dc_Mo_all_25 : decode M_Mo_all.2.1 25 = .ok (.iconst 1, 1) := by decide +kernel
theorem dc_Mo_all_26 : decode M_Mo_all.2.1 26 = .ok (.istore 4, 2) := by decide +kernel
theorem dc_Mo_all_28 : decode M_Mo_all.2.1 28 = .ok (.iload 4, 2) := by decide +kernel
theorem dc_Mo_all_30 : decode M_Mo_all.2.1 30 = .ok (.iconst 1, 1) := by decide +kernel
theorem dc_Mo_all_31 : decode M_Mo_all.2.1 31 = .ok (.aload_n 0, 1) := by decide +kernel
theorem dc_Mo_all_32 : decode M_Mo_all.2.1 32 = .ok (.getfield 23, 3) := by decide +kernel
theorem dc_Mo_all_35 : decode M_Mo_all.2.1 35 = .ok (.ishl, 1) := by decide +kernel
theorem dc_Mo_all_36 : decode M_Mo_all.2.1 36 = .ok (.if_icmp .ge 34, 3) := by decide +kernel
theorem dc_Mo_all_39 : decode M_Mo_all.2.1 39 = .ok (.iload 4, 2) := by decide +kernel
theorem dc_Mo_all_41 : decode M_Mo_all.2.1 41 = .ok (.invokestatic 117, 3) := by decide +kernel
theorem dc_Mo_all_44 : decode M_Mo_all.2.1 44 = .ok (.iload_n 3, 1) := by decide +kernel
theorem dc_Mo_all_45 : decode M_Mo_all.2.1 45 = .ok (.invokestatic 117, 3) := by decide +kernel
theorem dc_Mo_all_48 : decode M_Mo_all.2.1 48 = .ok (.if_icmp .le 16, 3) := by decide +kernel
theorem dc_Mo_all_51 : decode M_Mo_all.2.1 51 = .ok (.aload_n 0, 1) := by decide +kernel
theorem dc_Mo_all_52 : decode M_Mo_all.2.1 52 = .ok (.iload 4, 2) := by decide +kernel
theorem dc_Mo_all_54 : decode M_Mo_all.2.1 54 = .ok (.iload_n 1, 1) := by decide +kernel
theorem dc_Mo_all_55 : decode M_Mo_all.2.1 55 = .ok (.invokevirtual 297, 3) := by decide +kernel
theorem dc_Mo_all_58 : decode M_Mo_all.2.1 58 = .ok (.ifCond .eq 6, 3) := by decide +kernel
theorem dc_Mo_all_61 : decode M_Mo_all.2.1 61 = .ok (.iload 4, 2) := by decide +kernel
theorem dc_Mo_all_63 : decode M_Mo_all.2.1 63 = .ok (.istore_n 3, 1) := by decide +kernel
theorem dc_Mo_all_64 : decode M_Mo_all.2.1 64 = .ok (.iinc 4 1, 3) := by decide +kernel
theorem dc_Mo_all_67 : decode M_Mo_all.2.1 67 = .ok (.goto (-39), 3) := by decide +kernel
theorem dc_Mo_all_70 : decode M_Mo_all.2.1 70 = .ok (.iload_n 2, 1) := by decide +kernel
theorem dc_Mo_all_71 : decode M_Mo_all.2.1 71 = .ok (.ifCond .ne 10, 3) := by decide +kernel
theorem dc_Mo_all_74 : decode M_Mo_all.2.1 74 = .ok (.iload_n 3, 1) := by decide +kernel
theorem dc_Mo_all_75 : decode M_Mo_all.2.1 75 = .ok (.invokestatic 117, 3) := by decide +kernel
theorem dc_Mo_all_78 : decode M_Mo_all.2.1 78 = .ok (.goto 4, 3) := by decide +kernel
theorem dc_Mo_all_81 : decode M_Mo_all.2.1 81 = .ok (.iload_n 3, 1) := by decide +kernel
theorem dc_Mo_all_82 : decode M_Mo_all.2.1 82 = .ok (.ireturn, 1) := by decide +kernel
def f_Mo_all_L28 (a0 : Nat) (a1 : Int32) (a2 : Int32) : Nat → Int32 → Int32 → xH → (Int32 → Int32 → xH → Option (Int32 × xH)) → Option (Int32 × xH)
  | 0, _, _, _, _ => none
  | n + 1, a3, a4, h, K => gd (hK h a0 = 11) (if (jShl (1 : Int32) (hI h a0 7)) ≤ a4 then K a3 a4 h else Option.bind (f_Mo_bitsOf a4 h) (fun q17 => Option.bind (f_Mo_bitsOf a3 q17.2) (fun q18 => jn (fun (x19 : Int32 × xH) => f_Mo_all_L28 a0 a1 a2 n x19.1 (a4 + (1 : Int32)) x19.2 K) (fun k20 => if q17.1 ≤ q18.1 then k20 (a3, q18.2) else gd (hK q18.2 a0 = 11) (Option.bind (f_Mo_areAll a0 a4 a1 q18.2) (fun q22 => if q22.1 = 0 then k20 (a3, q22.2) else k20 (a4, q22.2)))))))
def f_Mo_all (a0 : Nat) (a1 : Int32) (a2 : Int32) (h : xH) : Option (Int32 × xH) := Option.bind (f_Mo_in a1.toInt64 (0 : Int64) (1 : Int64) h) (fun q9 => jn (fun (x10 : xH) => some ((-2 : Int32), x10)) (fun k11 => if q9.1 = 0 then k11 q9.2 else Option.bind (f_Mo_in a2.toInt64 (0 : Int64) (1 : Int64) q9.2) (fun q13 => if q13.1 = 0 then k11 q13.2 else f_Mo_all_L28 a0 a1 a2 fu (0 : Int32) (1 : Int32) q13.2 (fun v25 v26 h27 => jn (fun (x28 : Int32 × xH) => some (x28.1, x28.2)) (fun k29 => if a2 = 0 then Option.bind (f_Mo_bitsOf v25 h27) (fun q31 => k29 (q31.1, q31.2)) else k29 (v25, h27))))))
theorem t_Mo_all_L28 {l : Launch} {z : xZ} {d mc ms : Nat} {Ph : Option xV → xH → Prop} {a0 : Nat} {a1 : Int32} {a2 : Int32}  (hd : 3 ≤ d) : ∀ (n : Nat) (a3 : Int32) (a4 : Int32) (h : xH) (K : Int32 → Int32 → xH → Option (Int32 × xH)), OK (f_Mo_all_L28 a0 a1 a2 n a3 a4 h K) (fun q => Ph (some (xI q.1)) q.2) → (∀ (a3 : Int32) (a4 : Int32) (h : xH), OK (K a3 a4 h) (fun q => Ph (some (xI q.1)) q.2) → Sx l z d mc ms M_Mo_all 70 [some (xR a0), some (xI a1), some (xI a2), some (xI a3), some (xI a4)] [] h Ph) → Sx l z d mc ms M_Mo_all 28 [some (xR a0), some (xI a1), some (xI a2), some (xI a3), some (xI a4)] [] h Ph := by
  intro n
  induction n with
  | zero => intro a3 a4 h K hk hE; exact hk.no
  | succ n ih =>
    intro a3 a4 h K hk hE
    rw [f_Mo_all_L28] at hk
    refine sx_iload dc_Mo_all_28 rfl ?_
    refine sx_iconst (v := (1 : Int32)) dc_Mo_all_30 (by decide) ?_
    refine sx_aload_n dc_Mo_all_31 rfl ?_
    obtain ⟨g15, hk⟩ := hk.g
    refine sx_get (ci := 11) (k := 7) rfl (by decide) wF_Mo_23 g15 dc_Mo_all_32 ?_
    refine sx_ishl dc_Mo_all_35 ?_
    refine sx_icmp_ge (tgt := 70) dc_Mo_all_36 (by decide) (fun c16 => ?_) (fun c16 => ?_)
    · replace hk := hk.t c16
      exact hE a3 a4 h hk
    · replace hk := hk.f c16
      refine sx_iload dc_Mo_all_39 rfl ?_
      obtain ⟨q17, eq17, hk⟩ := hk.bind
      refine sx_callS (d2 := d - 1) (mc2 := 0) (ms2 := 0) (as := [xI a4]) mk_Mo_bitsOf rfl wM_Mo_117 mt_Mo_bitsOf rfl (Nat.le_of_ble_eq_true rfl) (Nat.le_of_ble_eq_true rfl) dc_Mo_all_41 (by omega) (Nat.zero_le _) (Nat.zero_le _) ?_
      refine t_Mo_bitsOf (by omega) ⟨q17, eq17, ?_⟩
      refine sx_eq0 (lc2 := [some (xR a0), some (xI a1), some (xI a2), some (xI a3), some (xI a4)]) (st2 := [xI q17.1]) rfl rfl ?_
      refine sx_iload_n dc_Mo_all_44 rfl ?_
      obtain ⟨q18, eq18, hk⟩ := hk.bind
      refine sx_callS (d2 := d - 1) (mc2 := 0) (ms2 := 0) (as := [xI a3]) mk_Mo_bitsOf rfl wM_Mo_117 mt_Mo_bitsOf rfl (Nat.le_of_ble_eq_true rfl) (Nat.le_of_ble_eq_true rfl) dc_Mo_all_45 (by omega) (Nat.zero_le _) (Nat.zero_le _) ?_
      refine t_Mo_bitsOf (by omega) ⟨q18, eq18, ?_⟩
      refine sx_eq0 (lc2 := [some (xR a0), some (xI a1), some (xI a2), some (xI a3), some (xI a4)]) (st2 := [xI q18.1, xI q17.1]) rfl rfl ?_
      refine hk.j (X := fun x19 => Sx l z d mc ms M_Mo_all 64 [some (xR a0), some (xI a1), some (xI a2), some (xI x19.1), some (xI a4)] [] x19.2 Ph) (fun x19 hk => ?_) (fun k20 jk20 hk => ?_)
      · refine sx_iinc (v := (1 : Int32)) dc_Mo_all_64 rfl (by decide) (by decide) (sx_eq (lc2 := [some (xR a0), some (xI a1), some (xI a2), some (xI x19.1), some (xI (a4 + (1 : Int32)))]) rfl rfl ?_)
        refine sx_goto (tgt := 28) dc_Mo_all_67 (by decide) ?_
        exact ih x19.1 (a4 + (1 : Int32)) x19.2 _ hk hE
      · refine sx_icmp_le (tgt := 64) dc_Mo_all_48 (by decide) (fun c21 => ?_) (fun c21 => ?_)
        · replace hk := hk.t c21
          exact jk20 (a3, q18.2) hk
        · replace hk := hk.f c21
          refine sx_aload_n dc_Mo_all_51 rfl ?_
          refine sx_iload dc_Mo_all_52 rfl ?_
          refine sx_iload_n dc_Mo_all_54 rfl ?_
          obtain ⟨g23, hk⟩ := hk.g
          obtain ⟨q22, eq22, hk⟩ := hk.bind
          refine sx_callV (d2 := d - 1) (mc2 := 0) (ms2 := 0) (as := [xI a4, xI a1]) mk_Mo_areAll rfl (x_rk (ci := 11) g23 rfl rfl) wM_Mo_297 mi_Mo_areAll me_Mo_areAll rfl (Nat.le_of_ble_eq_true rfl) (Nat.le_of_ble_eq_true rfl) dc_Mo_all_55 (by omega) (Nat.zero_le _) (Nat.zero_le _) ?_
          refine t_Mo_areAll (by omega) ⟨q22, eq22, ?_⟩
          refine sx_eq0 (lc2 := [some (xR a0), some (xI a1), some (xI a2), some (xI a3), some (xI a4)]) (st2 := [xI q22.1]) rfl rfl ?_
          refine sx_if_eq (tgt := 64) dc_Mo_all_58 (by decide) (fun c24 => ?_) (fun c24 => ?_)
          · replace hk := hk.t c24
            exact jk20 (a3, q22.2) hk
          · replace hk := hk.f c24
            refine sx_iload dc_Mo_all_61 rfl ?_
            refine sx_istore_n dc_Mo_all_63 (by decide) (sx_eq (lc2 := [some (xR a0), some (xI a1), some (xI a2), some (xI a4), some (xI a4)]) rfl rfl ?_)
            exact jk20 (a4, q22.2) hk
theorem t_Mo_all {l : Launch} {z : xZ} {d mc ms : Nat} {Ph : Option xV → xH → Prop} {a0 : Nat} {a1 : Int32} {a2 : Int32}  {h : xH} (hd : 3 ≤ d) (hk : OK (f_Mo_all a0 a1 a2 h) (fun q => Ph (some (xI q.1)) q.2)) : Sx l z d mc ms M_Mo_all 0 (x_en [xR a0, xI a1, xI a2] 5) [] h Ph := by
  unfold f_Mo_all at hk
  refine sx_eq (lc2 := [some (xR a0), some (xI a1), some (xI a2), none, none]) rfl rfl ?_
  refine sx_iload_n dc_Mo_all_0 rfl ?_
  refine sx_i2l dc_Mo_all_1 ?_
  refine sx_lconst (v := 0) dc_Mo_all_2 (by decide) ?_
  refine sx_lconst (v := 1) dc_Mo_all_3 (by decide) ?_
  obtain ⟨q9, eq9, hk⟩ := hk.bind
  refine sx_callS (d2 := d - 1) (mc2 := 0) (ms2 := 0) (as := [xJ a1.toInt64, xJ (0 : Int64), xJ (1 : Int64)]) mk_Mo_in rfl wM_Mo_73 mt_Mo_in rfl (Nat.le_of_ble_eq_true rfl) (Nat.le_of_ble_eq_true rfl) dc_Mo_all_4 (by omega) (Nat.zero_le _) (Nat.zero_le _) ?_
  refine t_Mo_in (by omega) ⟨q9, eq9, ?_⟩
  refine sx_eq0 (lc2 := [some (xR a0), some (xI a1), some (xI a2), none, none]) (st2 := [xI q9.1]) rfl rfl ?_
  refine hk.j (X := fun x10 => Sx l z d mc ms M_Mo_all 20 [some (xR a0), some (xI a1), some (xI a2), none, none] [] x10 Ph) (fun x10 hk => ?_) (fun k11 jk11 hk => ?_)
  · refine sx_bipush (v := (-2 : Int32)) dc_Mo_all_20 (by decide) ?_
    exact sx_retI dc_Mo_all_22 rfl hk.val
  · refine sx_if_eq (tgt := 20) dc_Mo_all_7 (by decide) (fun c12 => ?_) (fun c12 => ?_)
    · replace hk := hk.t c12
      exact jk11 q9.2 hk
    · replace hk := hk.f c12
      refine sx_iload_n dc_Mo_all_10 rfl ?_
      refine sx_i2l dc_Mo_all_11 ?_
      refine sx_lconst (v := 0) dc_Mo_all_12 (by decide) ?_
      refine sx_lconst (v := 1) dc_Mo_all_13 (by decide) ?_
      obtain ⟨q13, eq13, hk⟩ := hk.bind
      refine sx_callS (d2 := d - 1) (mc2 := 0) (ms2 := 0) (as := [xJ a2.toInt64, xJ (0 : Int64), xJ (1 : Int64)]) mk_Mo_in rfl wM_Mo_73 mt_Mo_in rfl (Nat.le_of_ble_eq_true rfl) (Nat.le_of_ble_eq_true rfl) dc_Mo_all_14 (by omega) (Nat.zero_le _) (Nat.zero_le _) ?_
      refine t_Mo_in (by omega) ⟨q13, eq13, ?_⟩
      refine sx_eq0 (lc2 := [some (xR a0), some (xI a1), some (xI a2), none, none]) (st2 := [xI q13.1]) rfl rfl ?_
      refine sx_if_ne (tgt := 23) dc_Mo_all_17 (by decide) (fun c14 => ?_) (fun c14 => ?_)
      · replace hk := hk.f c14
        refine sx_iconst (v := (0 : Int32)) dc_Mo_all_23 (by decide) ?_
        refine sx_istore_n dc_Mo_all_24 (by decide) (sx_eq (lc2 := [some (xR a0), some (xI a1), some (xI a2), some (xI (0 : Int32)), none]) rfl rfl ?_)
        refine sx_iconst (v := (1 : Int32)) dc_Mo_all_25 (by decide) ?_
        refine sx_istore dc_Mo_all_26 (by decide) (sx_eq (lc2 := [some (xR a0), some (xI a1), some (xI a2), some (xI (0 : Int32)), some (xI (1 : Int32))]) rfl rfl ?_)
        refine t_Mo_all_L28 (by omega) _ _ _ _ _ hk (fun v25 v26 h27 hk => ?_)
        refine sx_iload_n dc_Mo_all_70 rfl ?_
        refine hk.j (X := fun x28 => Sx l z d mc ms M_Mo_all 82 [some (xR a0), some (xI a1), some (xI a2), some (xI v25), some (xI v26)] [xI x28.1] x28.2 Ph) (fun x28 hk => ?_) (fun k29 jk29 hk => ?_)
        · exact sx_retI dc_Mo_all_82 rfl hk.val
        · refine sx_if_ne (tgt := 81) dc_Mo_all_71 (by decide) (fun c30 => ?_) (fun c30 => ?_)
          · replace hk := hk.f c30
            refine sx_iload_n dc_Mo_all_81 rfl ?_
            exact jk29 (v25, h27) hk
          · replace hk := hk.t c30
            refine sx_iload_n dc_Mo_all_74 rfl ?_
            obtain ⟨q31, eq31, hk⟩ := hk.bind
            refine sx_callS (d2 := d - 1) (mc2 := 0) (ms2 := 0) (as := [xI v25]) mk_Mo_bitsOf rfl wM_Mo_117 mt_Mo_bitsOf rfl (Nat.le_of_ble_eq_true rfl) (Nat.le_of_ble_eq_true rfl) dc_Mo_all_75 (by omega) (Nat.zero_le _) (Nat.zero_le _) ?_
            refine t_Mo_bitsOf (by omega) ⟨q31, eq31, ?_⟩
            refine sx_eq0 (lc2 := [some (xR a0), some (xI a1), some (xI a2), some (xI v25), some (xI v26)]) (st2 := [xI q31.1]) rfl rfl ?_
            refine sx_goto (tgt := 82) dc_Mo_all_78 (by decide) ?_
            exact jk29 (q31.1, q31.2) hk
      · replace hk := hk.t c14
        exact jk11 q13.2 hk
theorem dc_Mo_halved_0 : decode M_Mo_halved.2.1 0 = .ok (.iload_n 1, 1) := by decide +kernel
theorem dc_Mo_halved_1 : decode M_Mo_halved.2.1 1 = .ok (.i2l, 1) := by decide +kernel
theorem dc_Mo_halved_2 : decode M_Mo_halved.2.1 2 = .ok (.lconst 0, 1) := by decide +kernel
theorem dc_Mo_halved_3 : decode M_Mo_halved.2.1 3 = .ok (.lconst 1, 1) := by decide +kernel
theorem dc_Mo_halved_4 : decode M_Mo_halved.2.1 4 = .ok (.invokestatic 73, 3) := by decide +kernel
theorem dc_Mo_halved_7 : decode M_Mo_halved.2.1 7 = .ok (.ifCond .ne 6, 3) := by decide +kernel
theorem dc_Mo_halved_10 : decode M_Mo_halved.2.1 10 = .ok (.bipush (-2), 2) := by decide +kernel
theorem dc_Mo_halved_12 : decode M_Mo_halved.2.1 12 = .ok (.ireturn, 1) := by decide +kernel
theorem dc_Mo_halved_13 : decode M_Mo_halved.2.1 13 = .ok (.iconst (-1), 1) := by decide +kernel
theorem dc_Mo_halved_14 : decode M_Mo_halved.2.1 14 = .ok (.istore_n 2, 1) := by decide +kernel
theorem dc_Mo_halved_15 : decode M_Mo_halved.2.1 15 = .ok (.iconst 0, 1) := by decide +kernel
theorem dc_Mo_halved_16 : decode M_Mo_halved.2.1 16 = .ok (.istore_n 3, 1) := by decide +kernel
theorem dc_Mo_halved_17 : decode M_Mo_halved.2.1 17 = .ok (.iconst 1, 1) := by decide +kernel
theorem dc_Mo_halved_18 : decode M_Mo_halved.2.1 18 = .ok (.istore 4, 2) := by decide +kernel
theorem dc_Mo_halved_20 : decode M_Mo_halved.2.1 20 = .ok (.iload 4, 2) := by decide +kernel
theorem dc_Mo_halved_22 : decode M_Mo_halved.2.1 22 = .ok (.iconst 1, 1) := by decide +kernel
theorem dc_Mo_halved_23 : decode M_Mo_halved.2.1 23 = .ok (.aload_n 0, 1) := by decide +kernel
theorem dc_Mo_halved_24 : decode M_Mo_halved.2.1 24 = .ok (.getfield 23, 3) := by decide +kernel
theorem dc_Mo_halved_27 : decode M_Mo_halved.2.1 27 = .ok (.ishl, 1) := by decide +kernel
theorem dc_Mo_halved_28 : decode M_Mo_halved.2.1 28 = .ok (.if_icmp .ge 101, 3) := by decide +kernel
theorem dc_Mo_halved_31 : decode M_Mo_halved.2.1 31 = .ok (.iconst 0, 1) := by decide +kernel
theorem dc_Mo_halved_32 : decode M_Mo_halved.2.1 32 = .ok (.istore 5, 2) := by decide +kernel
theorem dc_Mo_halved_34 : decode M_Mo_halved.2.1 34 = .ok (.iconst 1, 1) := by decide +kernel
theorem dc_Mo_halved_35 : decode M_Mo_halved.2.1 35 = .ok (.istore 6, 2) := by decide +kernel
theorem dc_Mo_halved_37 : decode M_Mo_halved.2.1 37 = .ok (.iload 6, 2) := by decide +kernel
theorem dc_Mo_halved_39 : decode M_Mo_halved.2.1 39 = .ok (.aload_n 0, 1) := by decide +kernel
theorem dc_Mo_halved_40 : decode M_Mo_halved.2.1 40 = .ok (.getfield 23, 3) := by decide +kernel
theorem dc_Mo_halved_43 : decode M_Mo_halved.2.1 43 = .ok (.if_icmp .ge 63, 3) := by decide +kernel
theorem dc_Mo_halved_46 : decode M_Mo_halved.2.1 46 = .ok (.iconst 0, 1) := by decide +kernel
theorem dc_Mo_halved_47 : decode M_Mo_halved.2.1 47 = .ok (.istore 7, 2) := by decide +kernel
theorem dc_Mo_halved_49 : decode M_Mo_halved.2.1 49 = .ok (.iload 7, 2) := by decide +kernel
theorem dc_Mo_halved_51 : decode M_Mo_halved.2.1 51 = .ok (.iload 6, 2) := by decide +kernel
theorem dc_Mo_halved_53 : decode M_Mo_halved.2.1 53 = .ok (.if_icmp .ge 47, 3) := by decide +kernel
theorem dc_Mo_halved_56 : decode M_Mo_halved.2.1 56 = .ok (.iload 5, 2) := by decide +kernel
theorem dc_Mo_halved_58 : decode M_Mo_halved.2.1 58 = .ok (.aload_n 0, 1) := by decide +kernel
theorem dc_Mo_halved_59 : decode M_Mo_halved.2.1 59 = .ok (.iload 7, 2) := by decide +kernel
theorem dc_Mo_halved_61 : decode M_Mo_halved.2.1 61 = .ok (.iload 6, 2) := by decide +kernel
theorem dc_Mo_halved_63 : decode M_Mo_halved.2.1 63 = .ok (.invokevirtual 255, 3) := by decide +kernel
theorem dc_Mo_halved_66 : decode M_Mo_halved.2.1 66 = .ok (.ifCond .eq 24, 3) := by decide +kernel
theorem dc_Mo_halved_69 : decode M_Mo_halved.2.1 69 = .ok (.iload 4, 2) := by decide +kernel
theorem dc_Mo_halved_71 : decode M_Mo_halved.2.1 71 = .ok (.iload 7, 2) := by decide +kernel
theorem dc_Mo_halved_73 : decode M_Mo_halved.2.1 73 = .ok (.ishr, 1) := by decide +kernel
theorem dc_Mo_halved_74 : decode M_Mo_halved.2.1 74 = .ok (.iconst 1, 1) := by decide +kernel
theorem dc_Mo_halved_75 : decode M_Mo_halved.2.1 75 = .ok (.iand, 1) := by decide +kernel
theorem dc_Mo_halved_76 : decode M_Mo_halved.2.1 76 = .ok (.iload 4, 2) := by decide +kernel
theorem dc_Mo_halved_78 : decode M_Mo_halved.2.1 78 = .ok (.iload 6, 2) := by decide +kernel
theorem dc_Mo_halved_80 : decode M_Mo_halved.2.1 80 = .ok (.ishr, 1) := by decide +kernel
theorem dc_Mo_halved_81 : decode M_Mo_halved.2.1 81 = .ok (.iconst 1, 1) := by decide +kernel
theorem dc_Mo_halved_82 : decode M_Mo_halved.2.1 82 = .ok (.iand, 1) := by decide +kernel
theorem dc_Mo_halved_83 : decode M_Mo_halved.2.1 83 = .ok (.if_icmp .ne 7, 3) := by decide +kernel
theorem dc_Mo_halved_86 : decode M_Mo_halved.2.1 86 = .ok (.iconst 1, 1) := by decide +kernel
theorem dc_Mo_halved_87 : decode M_Mo_halved.2.1 87 = .ok (.goto 4, 3) := by decide +kernel
theorem dc_Mo_halved_90 : decode M_Mo_halved.2.1 90 = .ok (.iconst 0, 1) := by decide +kernel
theorem dc_Mo_halved_91 : decode M_Mo_halved.2.1 91 = .ok (.iadd, 1) := by decide +kernel
theorem dc_Mo_halved_92 : decode M_Mo_halved.2.1 92 = .ok (.istore 5, 2) := by decide +kernel
theorem dc_Mo_halved_94 : decode M_Mo_halved.2.1 94 = .ok (.iinc 7 1, 3) := by decide +kernel
theorem dc_Mo_halved_97 : decode M_Mo_halved.2.1 97 = .ok (.goto (-48), 3) := by decide +kernel
theorem dc_Mo_halved_100 : decode M_Mo_halved.2.1 100 = .ok (.iinc 6 1, 3) := by decide +kernel
theorem dc_Mo_halved_103 : decode M_Mo_halved.2.1 103 = .ok (.goto (-66), 3) := by decide +kernel
theorem dc_Mo_halved_106 : decode M_Mo_halved.2.1 106 = .ok (.iload_n 2, 1) := by decide +kernel
theorem dc_Mo_halved_107 : decode M_Mo_halved.2.1 107 = .ok (.iconst (-1), 1) := by decide +kernel
theorem dc_Mo_halved_108 : decode M_Mo_halved.2.1 108 = .ok (.if_icmp .eq 9, 3) := by decide +kernel
theorem dc_Mo_halved_111 : decode M_Mo_halved.2.1 111 = .ok (.iload 5, 2) := by decide +kernel
theorem dc_Mo_halved_113 : decode M_Mo_halved.2.1 113 = .ok (.iload_n 3, 1) := by decide +kernel
theorem dc_Mo_halved_114 : decode M_Mo_halved.2.1 114 = .ok (.if_icmp .ge 9, 3) := by decide +kernel
theorem dc_Mo_halved_117 : decode M_Mo_halved.2.1 117 = .ok (.iload 4, 2) := by decide +kernel
theorem dc_Mo_halved_119 : decode M_Mo_halved.2.1 119 = .ok (.istore_n 2, 1) := by decide +kernel
theorem dc_Mo_halved_120 : decode M_Mo_halved.2.1 120 = .ok (.iload 5, 2) := by decide +kernel
theorem dc_Mo_halved_122 : decode M_Mo_halved.2.1 122 = .ok (.istore_n 3, 1) := by decide +kernel
theorem dc_Mo_halved_123 : decode M_Mo_halved.2.1 123 = .ok (.iinc 4 2, 3) := by decide +kernel
theorem dc_Mo_halved_126 : decode M_Mo_halved.2.1 126 = .ok (.goto (-106), 3) := by decide +kernel
theorem dc_Mo_halved_129 : decode M_Mo_halved.2.1 129 = .ok (.iload_n 1, 1) := by decide +kernel
theorem dc_Mo_halved_130 : decode M_Mo_halved.2.1 130 = .ok (.ifCond .ne 7, 3) := by decide +kernel
theorem dc_Mo_halved_133 : decode M_Mo_halved.2.1 133 = .ok (.iload_n 3, 1) := by decide +kernel
theorem dc_Mo_halved_134 : decode M_Mo_halved.2.1 134 = .ok (.goto 4, 3) := by decide +kernel
theorem dc_Mo_halved_137 : decode M_Mo_halved.2.1 137 = .ok (.iload_n 2, 1) := by decide +kernel
theorem dc_Mo_halved_138 : decode M_Mo_halved.2.1 138 = .ok (.ireturn, 1) := by decide +kernel
def f_Mo_halved_L49 (a0 : Nat) (a1 : Int32) (a2 : Int32) (a3 : Int32) (a4 : Int32) (a6 : Int32) : Nat → Int32 → Int32 → xH → (Int32 → Int32 → xH → Option (Int32 × xH)) → Option (Int32 × xH)
  | 0, _, _, _, _ => none
  | n + 1, a5, a7, h, K => if a6 ≤ a7 then K a5 a7 h else gd (hK h a0 = 11) (Option.bind (f_Mo_know a0 a7 a6 h) (fun q11 => jn (fun (x13 : Int32) => f_Mo_halved_L49 a0 a1 a2 a3 a4 a6 n (a5 + x13) (a7 + (1 : Int32)) q11.2 K) (fun k14 => jn (fun (x15 : Unit) => k14 (0 : Int32)) (fun k16 => if q11.1 = 0 then k16 () else if ((jShr a4 a7) &&& (1 : Int32)) = ((jShr a4 a6) &&& (1 : Int32)) then k14 (1 : Int32) else k16 ()))))
def f_Mo_halved_L37 (a0 : Nat) (a1 : Int32) (a2 : Int32) (a3 : Int32) (a4 : Int32) : Nat → Int32 → Int32 → xH → (Int32 → Int32 → xH → Option (Int32 × xH)) → Option (Int32 × xH)
  | 0, _, _, _, _ => none
  | n + 1, a5, a6, h, K => gd (hK h a0 = 11) (if (hI h a0 7) ≤ a6 then K a5 a6 h else f_Mo_halved_L49 a0 a1 a2 a3 a4 a6 fu a5 (0 : Int32) h (fun v19 v20 h21 => f_Mo_halved_L37 a0 a1 a2 a3 a4 n v19 (a6 + (1 : Int32)) h21 K))
def f_Mo_halved_L20 (a0 : Nat) (a1 : Int32) : Nat → Int32 → Int32 → Int32 → xH → (Int32 → Int32 → Int32 → xH → Option (Int32 × xH)) → Option (Int32 × xH)
  | 0, _, _, _, _, _ => none
  | n + 1, a2, a3, a4, h, K => gd (hK h a0 = 11) (if (jShl (1 : Int32) (hI h a0 7)) ≤ a4 then K a2 a3 a4 h else f_Mo_halved_L37 a0 a1 a2 a3 a4 fu (0 : Int32) (1 : Int32) h (fun v22 v23 h24 => jn (fun (x25 : Int32 × Int32) => f_Mo_halved_L20 a0 a1 n x25.1 x25.2 (a4 + (2 : Int32)) h24 K) (fun k26 => jn (fun (x27 : Unit) => k26 (a4, v22)) (fun k28 => if a2 = (-1 : Int32) then k28 () else if a3 ≤ v22 then k26 (a2, a3) else k28 ()))))
def f_Mo_halved (a0 : Nat) (a1 : Int32) (h : xH) : Option (Int32 × xH) := Option.bind (f_Mo_in a1.toInt64 (0 : Int64) (1 : Int64) h) (fun q4 => if q4.1 = 0 then some ((-2 : Int32), q4.2) else f_Mo_halved_L20 a0 a1 fu (-1 : Int32) (0 : Int32) (1 : Int32) q4.2 (fun v31 v32 v33 h34 => some ((if a1 = 0 then v32 else v31), h34)))
theorem t_Mo_halved_L49 {l : Launch} {z : xZ} {d mc ms : Nat} {Ph : Option xV → xH → Prop} {a0 : Nat} {a1 : Int32} {a2 : Int32} {a3 : Int32} {a4 : Int32} {a6 : Int32}  (hd : 3 ≤ d) : ∀ (n : Nat) (a5 : Int32) (a7 : Int32) (h : xH) (K : Int32 → Int32 → xH → Option (Int32 × xH)), OK (f_Mo_halved_L49 a0 a1 a2 a3 a4 a6 n a5 a7 h K) (fun q => Ph (some (xI q.1)) q.2) → (∀ (a5 : Int32) (a7 : Int32) (h : xH), OK (K a5 a7 h) (fun q => Ph (some (xI q.1)) q.2) → Sx l z d mc ms M_Mo_halved 100 [some (xR a0), some (xI a1), some (xI a2), some (xI a3), some (xI a4), some (xI a5), some (xI a6), some (xI a7)] [] h Ph) → Sx l z d mc ms M_Mo_halved 49 [some (xR a0), some (xI a1), some (xI a2), some (xI a3), some (xI a4), some (xI a5), some (xI a6), some (xI a7)] [] h Ph := by
  intro n
  induction n with
  | zero => intro a5 a7 h K hk hE; exact hk.no
  | succ n ih =>
    intro a5 a7 h K hk hE
    rw [f_Mo_halved_L49] at hk
    refine sx_iload dc_Mo_halved_49 rfl ?_
    refine sx_iload dc_Mo_halved_51 rfl ?_
    refine sx_icmp_ge (tgt := 100) dc_Mo_halved_53 (by decide) (fun c10 => ?_) (fun c10 => ?_)
    · replace hk := hk.t c10
      exact hE a5 a7 h hk
    · replace hk := hk.f c10
      refine sx_iload dc_Mo_halved_56 rfl ?_
      refine sx_aload_n dc_Mo_halved_58 rfl ?_
      refine sx_iload dc_Mo_halved_59 rfl ?_
      refine sx_iload dc_Mo_halved_61 rfl ?_
      obtain ⟨g12, hk⟩ := hk.g
      obtain ⟨q11, eq11, hk⟩ := hk.bind
      refine sx_callV (d2 := d - 1) (mc2 := 0) (ms2 := 0) (as := [xI a7, xI a6]) mk_Mo_know rfl (x_rk (ci := 11) g12 rfl rfl) wM_Mo_255 mi_Mo_know me_Mo_know rfl (Nat.le_of_ble_eq_true rfl) (Nat.le_of_ble_eq_true rfl) dc_Mo_halved_63 (by omega) (Nat.zero_le _) (Nat.zero_le _) ?_
      refine t_Mo_know (by omega) ⟨q11, eq11, ?_⟩
      refine sx_eq0 (lc2 := [some (xR a0), some (xI a1), some (xI a2), some (xI a3), some (xI a4), some (xI a5), some (xI a6), some (xI a7)]) (st2 := [xI q11.1, xI a5]) rfl rfl ?_
      refine hk.j (X := fun x13 => Sx l z d mc ms M_Mo_halved 91 [some (xR a0), some (xI a1), some (xI a2), some (xI a3), some (xI a4), some (xI a5), some (xI a6), some (xI a7)] [xI x13, xI a5] q11.2 Ph) (fun x13 hk => ?_) (fun k14 jk14 hk => ?_)
      · refine sx_iadd dc_Mo_halved_91 ?_
        refine sx_istore dc_Mo_halved_92 (by decide) (sx_eq (lc2 := [some (xR a0), some (xI a1), some (xI a2), some (xI a3), some (xI a4), some (xI (a5 + x13)), some (xI a6), some (xI a7)]) rfl rfl ?_)
        refine sx_iinc (v := (1 : Int32)) dc_Mo_halved_94 rfl (by decide) (by decide) (sx_eq (lc2 := [some (xR a0), some (xI a1), some (xI a2), some (xI a3), some (xI a4), some (xI (a5 + x13)), some (xI a6), some (xI (a7 + (1 : Int32)))]) rfl rfl ?_)
        refine sx_goto (tgt := 49) dc_Mo_halved_97 (by decide) ?_
        exact ih (a5 + x13) (a7 + (1 : Int32)) q11.2 _ hk hE
      · refine hk.j (X := fun x15 => Sx l z d mc ms M_Mo_halved 90 [some (xR a0), some (xI a1), some (xI a2), some (xI a3), some (xI a4), some (xI a5), some (xI a6), some (xI a7)] [xI a5] q11.2 Ph) (fun x15 hk => ?_) (fun k16 jk16 hk => ?_)
        · refine sx_iconst (v := (0 : Int32)) dc_Mo_halved_90 (by decide) ?_
          exact jk14 (0 : Int32) hk
        · refine sx_if_eq (tgt := 90) dc_Mo_halved_66 (by decide) (fun c17 => ?_) (fun c17 => ?_)
          · replace hk := hk.t c17
            exact jk16 () hk
          · replace hk := hk.f c17
            refine sx_iload dc_Mo_halved_69 rfl ?_
            refine sx_iload dc_Mo_halved_71 rfl ?_
            refine sx_ishr dc_Mo_halved_73 ?_
            refine sx_iconst (v := (1 : Int32)) dc_Mo_halved_74 (by decide) ?_
            refine sx_iand dc_Mo_halved_75 ?_
            refine sx_iload dc_Mo_halved_76 rfl ?_
            refine sx_iload dc_Mo_halved_78 rfl ?_
            refine sx_ishr dc_Mo_halved_80 ?_
            refine sx_iconst (v := (1 : Int32)) dc_Mo_halved_81 (by decide) ?_
            refine sx_iand dc_Mo_halved_82 ?_
            refine sx_icmp_ne (tgt := 90) dc_Mo_halved_83 (by decide) (fun c18 => ?_) (fun c18 => ?_)
            · replace hk := hk.f c18
              exact jk16 () hk
            · replace hk := hk.t c18
              refine sx_iconst (v := (1 : Int32)) dc_Mo_halved_86 (by decide) ?_
              refine sx_goto (tgt := 91) dc_Mo_halved_87 (by decide) ?_
              exact jk14 (1 : Int32) hk
theorem t_Mo_halved_L37 {l : Launch} {z : xZ} {d mc ms : Nat} {Ph : Option xV → xH → Prop} {a0 : Nat} {a1 : Int32} {a2 : Int32} {a3 : Int32} {a4 : Int32}  (hd : 3 ≤ d) : ∀ (n : Nat) (a5 : Int32) (a6 : Int32) (h : xH) (K : Int32 → Int32 → xH → Option (Int32 × xH)), OK (f_Mo_halved_L37 a0 a1 a2 a3 a4 n a5 a6 h K) (fun q => Ph (some (xI q.1)) q.2) → (∀ (a5 : Int32) (a6 : Int32) (h : xH), OK (K a5 a6 h) (fun q => Ph (some (xI q.1)) q.2) → Sx l z d mc ms M_Mo_halved 106 [some (xR a0), some (xI a1), some (xI a2), some (xI a3), some (xI a4), some (xI a5), some (xI a6), none] [] h Ph) → Sx l z d mc ms M_Mo_halved 37 [some (xR a0), some (xI a1), some (xI a2), some (xI a3), some (xI a4), some (xI a5), some (xI a6), none] [] h Ph := by
  intro n
  induction n with
  | zero => intro a5 a6 h K hk hE; exact hk.no
  | succ n ih =>
    intro a5 a6 h K hk hE
    rw [f_Mo_halved_L37] at hk
    refine sx_iload dc_Mo_halved_37 rfl ?_
    refine sx_aload_n dc_Mo_halved_39 rfl ?_
    obtain ⟨g8, hk⟩ := hk.g
    refine sx_get (ci := 11) (k := 7) rfl (by decide) wF_Mo_23 g8 dc_Mo_halved_40 ?_
    refine sx_icmp_ge (tgt := 106) dc_Mo_halved_43 (by decide) (fun c9 => ?_) (fun c9 => ?_)
    · replace hk := hk.t c9
      exact hE a5 a6 h hk
    · replace hk := hk.f c9
      refine sx_iconst (v := (0 : Int32)) dc_Mo_halved_46 (by decide) ?_
      refine sx_istore dc_Mo_halved_47 (by decide) (sx_eq (lc2 := [some (xR a0), some (xI a1), some (xI a2), some (xI a3), some (xI a4), some (xI a5), some (xI a6), some (xI (0 : Int32))]) rfl rfl ?_)
      refine t_Mo_halved_L49 (by omega) _ _ _ _ _ hk (fun v19 v20 h21 hk => ?_)
      refine sx_iinc (v := (1 : Int32)) dc_Mo_halved_100 rfl (by decide) (by decide) (sx_eq (lc2 := [some (xR a0), some (xI a1), some (xI a2), some (xI a3), some (xI a4), some (xI v19), some (xI (a6 + (1 : Int32))), some (xI v20)]) rfl rfl ?_)
      refine sx_goto (tgt := 37) dc_Mo_halved_103 (by decide) ?_
      exact sx_less (by simp [x_le]) (ih v19 (a6 + (1 : Int32)) h21 _ hk hE)
theorem t_Mo_halved_L20 {l : Launch} {z : xZ} {d mc ms : Nat} {Ph : Option xV → xH → Prop} {a0 : Nat} {a1 : Int32}  (hd : 3 ≤ d) : ∀ (n : Nat) (a2 : Int32) (a3 : Int32) (a4 : Int32) (h : xH) (K : Int32 → Int32 → Int32 → xH → Option (Int32 × xH)), OK (f_Mo_halved_L20 a0 a1 n a2 a3 a4 h K) (fun q => Ph (some (xI q.1)) q.2) → (∀ (a2 : Int32) (a3 : Int32) (a4 : Int32) (h : xH), OK (K a2 a3 a4 h) (fun q => Ph (some (xI q.1)) q.2) → Sx l z d mc ms M_Mo_halved 129 [some (xR a0), some (xI a1), some (xI a2), some (xI a3), some (xI a4), none, none, none] [] h Ph) → Sx l z d mc ms M_Mo_halved 20 [some (xR a0), some (xI a1), some (xI a2), some (xI a3), some (xI a4), none, none, none] [] h Ph := by
  intro n
  induction n with
  | zero => intro a2 a3 a4 h K hk hE; exact hk.no
  | succ n ih =>
    intro a2 a3 a4 h K hk hE
    rw [f_Mo_halved_L20] at hk
    refine sx_iload dc_Mo_halved_20 rfl ?_
    refine sx_iconst (v := (1 : Int32)) dc_Mo_halved_22 (by decide) ?_
    refine sx_aload_n dc_Mo_halved_23 rfl ?_
    obtain ⟨g6, hk⟩ := hk.g
    refine sx_get (ci := 11) (k := 7) rfl (by decide) wF_Mo_23 g6 dc_Mo_halved_24 ?_
    refine sx_ishl dc_Mo_halved_27 ?_
    refine sx_icmp_ge (tgt := 129) dc_Mo_halved_28 (by decide) (fun c7 => ?_) (fun c7 => ?_)
    · replace hk := hk.t c7
      exact hE a2 a3 a4 h hk
    · replace hk := hk.f c7
      refine sx_iconst (v := (0 : Int32)) dc_Mo_halved_31 (by decide) ?_
      refine sx_istore dc_Mo_halved_32 (by decide) (sx_eq (lc2 := [some (xR a0), some (xI a1), some (xI a2), some (xI a3), some (xI a4), some (xI (0 : Int32)), none, none]) rfl rfl ?_)
      refine sx_iconst (v := (1 : Int32)) dc_Mo_halved_34 (by decide) ?_
      refine sx_istore dc_Mo_halved_35 (by decide) (sx_eq (lc2 := [some (xR a0), some (xI a1), some (xI a2), some (xI a3), some (xI a4), some (xI (0 : Int32)), some (xI (1 : Int32)), none]) rfl rfl ?_)
      refine t_Mo_halved_L37 (by omega) _ _ _ _ _ hk (fun v22 v23 h24 hk => ?_)
      refine sx_iload_n dc_Mo_halved_106 rfl ?_
      refine sx_iconst (v := (-1 : Int32)) dc_Mo_halved_107 (by decide) ?_
      refine hk.j (X := fun x25 => Sx l z d mc ms M_Mo_halved 123 [some (xR a0), some (xI a1), some (xI x25.1), some (xI x25.2), some (xI a4), some (xI v22), some (xI v23), none] [] h24 Ph) (fun x25 hk => ?_) (fun k26 jk26 hk => ?_)
      · refine sx_iinc (v := (2 : Int32)) dc_Mo_halved_123 rfl (by decide) (by decide) (sx_eq (lc2 := [some (xR a0), some (xI a1), some (xI x25.1), some (xI x25.2), some (xI (a4 + (2 : Int32))), some (xI v22), some (xI v23), none]) rfl rfl ?_)
        refine sx_goto (tgt := 20) dc_Mo_halved_126 (by decide) ?_
        exact sx_less (by simp [x_le]) (ih x25.1 x25.2 (a4 + (2 : Int32)) h24 _ hk hE)
      · refine hk.j (X := fun x27 => Sx l z d mc ms M_Mo_halved 117 [some (xR a0), some (xI a1), some (xI a2), some (xI a3), some (xI a4), some (xI v22), some (xI v23), none] [] h24 Ph) (fun x27 hk => ?_) (fun k28 jk28 hk => ?_)
        · refine sx_iload dc_Mo_halved_117 rfl ?_
          refine sx_istore_n dc_Mo_halved_119 (by decide) (sx_eq (lc2 := [some (xR a0), some (xI a1), some (xI a4), some (xI a3), some (xI a4), some (xI v22), some (xI v23), none]) rfl rfl ?_)
          refine sx_iload dc_Mo_halved_120 rfl ?_
          refine sx_istore_n dc_Mo_halved_122 (by decide) (sx_eq (lc2 := [some (xR a0), some (xI a1), some (xI a4), some (xI v22), some (xI a4), some (xI v22), some (xI v23), none]) rfl rfl ?_)
          exact jk26 (a4, v22) hk
        · refine sx_icmp_eq (tgt := 117) dc_Mo_halved_108 (by decide) (fun c29 => ?_) (fun c29 => ?_)
          · replace hk := hk.t c29
            exact jk28 () hk
          · replace hk := hk.f c29
            refine sx_iload dc_Mo_halved_111 rfl ?_
            refine sx_iload_n dc_Mo_halved_113 rfl ?_
            refine sx_icmp_ge (tgt := 123) dc_Mo_halved_114 (by decide) (fun c30 => ?_) (fun c30 => ?_)
            · replace hk := hk.t c30
              exact jk26 (a2, a3) hk
            · replace hk := hk.f c30
              exact jk28 () hk
theorem t_Mo_halved {l : Launch} {z : xZ} {d mc ms : Nat} {Ph : Option xV → xH → Prop} {a0 : Nat} {a1 : Int32}  {h : xH} (hd : 3 ≤ d) (hk : OK (f_Mo_halved a0 a1 h) (fun q => Ph (some (xI q.1)) q.2)) : Sx l z d mc ms M_Mo_halved 0 (x_en [xR a0, xI a1] 8) [] h Ph := by
  unfold f_Mo_halved at hk
  refine sx_eq (lc2 := [some (xR a0), some (xI a1), none, none, none, none, none, none]) rfl rfl ?_
  refine sx_iload_n dc_Mo_halved_0 rfl ?_
  refine sx_i2l dc_Mo_halved_1 ?_
  refine sx_lconst (v := 0) dc_Mo_halved_2 (by decide) ?_
  refine sx_lconst (v := 1) dc_Mo_halved_3 (by decide) ?_
  obtain ⟨q4, eq4, hk⟩ := hk.bind
  refine sx_callS (d2 := d - 1) (mc2 := 0) (ms2 := 0) (as := [xJ a1.toInt64, xJ (0 : Int64), xJ (1 : Int64)]) mk_Mo_in rfl wM_Mo_73 mt_Mo_in rfl (Nat.le_of_ble_eq_true rfl) (Nat.le_of_ble_eq_true rfl) dc_Mo_halved_4 (by omega) (Nat.zero_le _) (Nat.zero_le _) ?_
  refine t_Mo_in (by omega) ⟨q4, eq4, ?_⟩
  refine sx_eq0 (lc2 := [some (xR a0), some (xI a1), none, none, none, none, none, none]) (st2 := [xI q4.1]) rfl rfl ?_
  refine sx_if_ne (tgt := 13) dc_Mo_halved_7 (by decide) (fun c5 => ?_) (fun c5 => ?_)
  · replace hk := hk.f c5
    refine sx_iconst (v := (-1 : Int32)) dc_Mo_halved_13 (by decide) ?_
    refine sx_istore_n dc_Mo_halved_14 (by decide) (sx_eq (lc2 := [some (xR a0), some (xI a1), some (xI (-1 : Int32)), none, none, none, none, none]) rfl rfl ?_)
    refine sx_iconst (v := (0 : Int32)) dc_Mo_halved_15 (by decide) ?_
    refine sx_istore_n dc_Mo_halved_16 (by decide) (sx_eq (lc2 := [some (xR a0), some (xI a1), some (xI (-1 : Int32)), some (xI (0 : Int32)), none, none, none, none]) rfl rfl ?_)
    refine sx_iconst (v := (1 : Int32)) dc_Mo_halved_17 (by decide) ?_
    refine sx_istore dc_Mo_halved_18 (by decide) (sx_eq (lc2 := [some (xR a0), some (xI a1), some (xI (-1 : Int32)), some (xI (0 : Int32)), some (xI (1 : Int32)), none, none, none]) rfl rfl ?_)
    refine t_Mo_halved_L20 (by omega) _ _ _ _ _ _ hk (fun v31 v32 v33 h34 hk => ?_)
    refine sx_iload_n dc_Mo_halved_129 rfl ?_
    refine sx_mg (pc2 := 138) (lc2 := [some (xR a0), some (xI a1), some (xI v31), some (xI v32), some (xI v33), none, none, none]) (st2 := [xI (if a1 = 0 then v32 else v31)]) (h2 := h34) ?_ (fun J35 => ?_)
    · exact sx_retI dc_Mo_halved_138 rfl hk.val
    · refine sx_if_ne (tgt := 137) dc_Mo_halved_130 (by decide) (fun c36 => ?_) (fun c36 => ?_)
      · try simp only [if_neg c36] at J35
        refine sx_iload_n dc_Mo_halved_137 rfl ?_
        exact J35
      · try simp only [if_pos c36] at J35
        refine sx_iload_n dc_Mo_halved_133 rfl ?_
        refine sx_goto (tgt := 138) dc_Mo_halved_134 (by decide) ?_
        exact J35
  · replace hk := hk.t c5
    refine sx_bipush (v := (-2 : Int32)) dc_Mo_halved_10 (by decide) ?_
    exact sx_retI dc_Mo_halved_12 rfl hk.val
theorem dc_Mo_ring_0 : decode M_Mo_ring.2.1 0 = .ok (.aload_n 0, 1) := by decide +kernel
theorem dc_Mo_ring_1 : decode M_Mo_ring.2.1 1 = .ok (.iload_n 1, 1) := by decide +kernel
theorem dc_Mo_ring_2 : decode M_Mo_ring.2.1 2 = .ok (.iload_n 2, 1) := by decide +kernel
theorem dc_Mo_ring_3 : decode M_Mo_ring.2.1 3 = .ok (.invokevirtual 255, 3) := by decide +kernel
theorem dc_Mo_ring_6 : decode M_Mo_ring.2.1 6 = .ok (.ifCond .eq 36, 3) := by decide +kernel
theorem dc_Mo_ring_9 : decode M_Mo_ring.2.1 9 = .ok (.aload_n 0, 1) := by decide +kernel
theorem dc_Mo_ring_10 : decode M_Mo_ring.2.1 10 = .ok (.iload_n 2, 1) := by decide +kernel
theorem dc_Mo_ring_11 : decode M_Mo_ring.2.1 11 = .ok (.iload_n 3, 1) := by decide +kernel
theorem dc_Mo_ring_12 : decode M_Mo_ring.2.1 12 = .ok (.invokevirtual 255, 3) := by decide +kernel
theorem dc_Mo_ring_15 : decode M_Mo_ring.2.1 15 = .ok (.ifCond .eq 27, 3) := by decide +kernel
theorem dc_Mo_ring_18 : decode M_Mo_ring.2.1 18 = .ok (.aload_n 0, 1) := by decide +kernel
theorem dc_Mo_ring_19 : decode M_Mo_ring.2.1 19 = .ok (.iload_n 3, 1) := by decide +kernel
theorem dc_Mo_ring_20 : decode M_Mo_ring.2.1 20 = .ok (.iload 4, 2) := by decide +kernel
theorem dc_Mo_ring_22 : decode M_Mo_ring.2.1 22 = .ok (.invokevirtual 255, 3) := by decide +kernel
theorem dc_Mo_ring_25 : decode M_Mo_ring.2.1 25 = .ok (.ifCond .eq 17, 3) := by decide +kernel
theorem dc_Mo_ring_28 : decode M_Mo_ring.2.1 28 = .ok (.aload_n 0, 1) := by decide +kernel
theorem dc_Mo_ring_29 : decode M_Mo_ring.2.1 29 = .ok (.iload 4, 2) := by decide +kernel
theorem dc_Mo_ring_31 : decode M_Mo_ring.2.1 31 = .ok (.iload_n 1, 1) := by decide +kernel
theorem dc_Mo_ring_32 : decode M_Mo_ring.2.1 32 = .ok (.invokevirtual 255, 3) := by decide +kernel
theorem dc_Mo_ring_35 : decode M_Mo_ring.2.1 35 = .ok (.ifCond .eq 7, 3) := by decide +kernel
theorem dc_Mo_ring_38 : decode M_Mo_ring.2.1 38 = .ok (.iconst 1, 1) := by decide +kernel
theorem dc_Mo_ring_39 : decode M_Mo_ring.2.1 39 = .ok (.goto 4, 3) := by decide +kernel
theorem dc_Mo_ring_42 : decode M_Mo_ring.2.1 42 = .ok (.iconst 0, 1) := by decide +kernel
theorem dc_Mo_ring_43 : decode M_Mo_ring.2.1 43 = .ok (.ireturn, 1) := by decide +kernel
def f_Mo_ring (a0 : Nat) (a1 : Int32) (a2 : Int32) (a3 : Int32) (a4 : Int32) (h : xH) : Option (Int32 × xH) := gd (hK h a0 = 11) (Option.bind (f_Mo_know a0 a1 a2 h) (fun q9 => jn (fun (x11 : Int32 × xH) => some (x11.1, x11.2)) (fun k12 => jn (fun (x13 : xH) => k12 ((0 : Int32), x13)) (fun k14 => if q9.1 = 0 then k14 q9.2 else gd (hK q9.2 a0 = 11) (Option.bind (f_Mo_know a0 a2 a3 q9.2) (fun q16 => if q16.1 = 0 then k14 q16.2 else gd (hK q16.2 a0 = 11) (Option.bind (f_Mo_know a0 a3 a4 q16.2) (fun q19 => if q19.1 = 0 then k14 q19.2 else gd (hK q19.2 a0 = 11) (Option.bind (f_Mo_know a0 a4 a1 q19.2) (fun q22 => if q22.1 = 0 then k14 q22.2 else k12 ((1 : Int32), q22.2)))))))))))
theorem t_Mo_ring {l : Launch} {z : xZ} {d mc ms : Nat} {Ph : Option xV → xH → Prop} {a0 : Nat} {a1 : Int32} {a2 : Int32} {a3 : Int32} {a4 : Int32}  {h : xH} (hd : 3 ≤ d) (hk : OK (f_Mo_ring a0 a1 a2 a3 a4 h) (fun q => Ph (some (xI q.1)) q.2)) : Sx l z d mc ms M_Mo_ring 0 (x_en [xR a0, xI a1, xI a2, xI a3, xI a4] 5) [] h Ph := by
  unfold f_Mo_ring at hk
  refine sx_eq (lc2 := [some (xR a0), some (xI a1), some (xI a2), some (xI a3), some (xI a4)]) rfl rfl ?_
  refine sx_aload_n dc_Mo_ring_0 rfl ?_
  refine sx_iload_n dc_Mo_ring_1 rfl ?_
  refine sx_iload_n dc_Mo_ring_2 rfl ?_
  obtain ⟨g10, hk⟩ := hk.g
  obtain ⟨q9, eq9, hk⟩ := hk.bind
  refine sx_callV (d2 := d - 1) (mc2 := 0) (ms2 := 0) (as := [xI a1, xI a2]) mk_Mo_know rfl (x_rk (ci := 11) g10 rfl rfl) wM_Mo_255 mi_Mo_know me_Mo_know rfl (Nat.le_of_ble_eq_true rfl) (Nat.le_of_ble_eq_true rfl) dc_Mo_ring_3 (by omega) (Nat.zero_le _) (Nat.zero_le _) ?_
  refine t_Mo_know (by omega) ⟨q9, eq9, ?_⟩
  refine sx_eq0 (lc2 := [some (xR a0), some (xI a1), some (xI a2), some (xI a3), some (xI a4)]) (st2 := [xI q9.1]) rfl rfl ?_
  refine hk.j (X := fun x11 => Sx l z d mc ms M_Mo_ring 43 [some (xR a0), some (xI a1), some (xI a2), some (xI a3), some (xI a4)] [xI x11.1] x11.2 Ph) (fun x11 hk => ?_) (fun k12 jk12 hk => ?_)
  · exact sx_retI dc_Mo_ring_43 rfl hk.val
  · refine hk.j (X := fun x13 => Sx l z d mc ms M_Mo_ring 42 [some (xR a0), some (xI a1), some (xI a2), some (xI a3), some (xI a4)] [] x13 Ph) (fun x13 hk => ?_) (fun k14 jk14 hk => ?_)
    · refine sx_iconst (v := (0 : Int32)) dc_Mo_ring_42 (by decide) ?_
      exact jk12 ((0 : Int32), x13) hk
    · refine sx_if_eq (tgt := 42) dc_Mo_ring_6 (by decide) (fun c15 => ?_) (fun c15 => ?_)
      · replace hk := hk.t c15
        exact jk14 q9.2 hk
      · replace hk := hk.f c15
        refine sx_aload_n dc_Mo_ring_9 rfl ?_
        refine sx_iload_n dc_Mo_ring_10 rfl ?_
        refine sx_iload_n dc_Mo_ring_11 rfl ?_
        obtain ⟨g17, hk⟩ := hk.g
        obtain ⟨q16, eq16, hk⟩ := hk.bind
        refine sx_callV (d2 := d - 1) (mc2 := 0) (ms2 := 0) (as := [xI a2, xI a3]) mk_Mo_know rfl (x_rk (ci := 11) g17 rfl rfl) wM_Mo_255 mi_Mo_know me_Mo_know rfl (Nat.le_of_ble_eq_true rfl) (Nat.le_of_ble_eq_true rfl) dc_Mo_ring_12 (by omega) (Nat.zero_le _) (Nat.zero_le _) ?_
        refine t_Mo_know (by omega) ⟨q16, eq16, ?_⟩
        refine sx_eq0 (lc2 := [some (xR a0), some (xI a1), some (xI a2), some (xI a3), some (xI a4)]) (st2 := [xI q16.1]) rfl rfl ?_
        refine sx_if_eq (tgt := 42) dc_Mo_ring_15 (by decide) (fun c18 => ?_) (fun c18 => ?_)
        · replace hk := hk.t c18
          exact jk14 q16.2 hk
        · replace hk := hk.f c18
          refine sx_aload_n dc_Mo_ring_18 rfl ?_
          refine sx_iload_n dc_Mo_ring_19 rfl ?_
          refine sx_iload dc_Mo_ring_20 rfl ?_
          obtain ⟨g20, hk⟩ := hk.g
          obtain ⟨q19, eq19, hk⟩ := hk.bind
          refine sx_callV (d2 := d - 1) (mc2 := 0) (ms2 := 0) (as := [xI a3, xI a4]) mk_Mo_know rfl (x_rk (ci := 11) g20 rfl rfl) wM_Mo_255 mi_Mo_know me_Mo_know rfl (Nat.le_of_ble_eq_true rfl) (Nat.le_of_ble_eq_true rfl) dc_Mo_ring_22 (by omega) (Nat.zero_le _) (Nat.zero_le _) ?_
          refine t_Mo_know (by omega) ⟨q19, eq19, ?_⟩
          refine sx_eq0 (lc2 := [some (xR a0), some (xI a1), some (xI a2), some (xI a3), some (xI a4)]) (st2 := [xI q19.1]) rfl rfl ?_
          refine sx_if_eq (tgt := 42) dc_Mo_ring_25 (by decide) (fun c21 => ?_) (fun c21 => ?_)
          · replace hk := hk.t c21
            exact jk14 q19.2 hk
          · replace hk := hk.f c21
            refine sx_aload_n dc_Mo_ring_28 rfl ?_
            refine sx_iload dc_Mo_ring_29 rfl ?_
            refine sx_iload_n dc_Mo_ring_31 rfl ?_
            obtain ⟨g23, hk⟩ := hk.g
            obtain ⟨q22, eq22, hk⟩ := hk.bind
            refine sx_callV (d2 := d - 1) (mc2 := 0) (ms2 := 0) (as := [xI a4, xI a1]) mk_Mo_know rfl (x_rk (ci := 11) g23 rfl rfl) wM_Mo_255 mi_Mo_know me_Mo_know rfl (Nat.le_of_ble_eq_true rfl) (Nat.le_of_ble_eq_true rfl) dc_Mo_ring_32 (by omega) (Nat.zero_le _) (Nat.zero_le _) ?_
            refine t_Mo_know (by omega) ⟨q22, eq22, ?_⟩
            refine sx_eq0 (lc2 := [some (xR a0), some (xI a1), some (xI a2), some (xI a3), some (xI a4)]) (st2 := [xI q22.1]) rfl rfl ?_
            refine sx_if_eq (tgt := 42) dc_Mo_ring_35 (by decide) (fun c24 => ?_) (fun c24 => ?_)
            · replace hk := hk.t c24
              exact jk14 q22.2 hk
            · replace hk := hk.f c24
              refine sx_iconst (v := (1 : Int32)) dc_Mo_ring_38 (by decide) ?_
              refine sx_goto (tgt := 43) dc_Mo_ring_39 (by decide) ?_
              exact jk12 ((1 : Int32), q22.2) hk
theorem dc_Mo_fours_0 : decode M_Mo_fours.2.1 0 = .ok (.iconst 0, 1) := by decide +kernel
theorem dc_Mo_fours_1 : decode M_Mo_fours.2.1 1 = .ok (.istore_n 1, 1) := by decide +kernel
theorem dc_Mo_fours_2 : decode M_Mo_fours.2.1 2 = .ok (.iconst 0, 1) := by decide +kernel
theorem dc_Mo_fours_3 : decode M_Mo_fours.2.1 3 = .ok (.istore_n 2, 1) := by decide +kernel
theorem dc_Mo_fours_4 : decode M_Mo_fours.2.1 4 = .ok (.iload_n 2, 1) := by decide +kernel
theorem dc_Mo_fours_5 : decode M_Mo_fours.2.1 5 = .ok (.aload_n 0, 1) := by decide +kernel
theorem dc_Mo_fours_6 : decode M_Mo_fours.2.1 6 = .ok (.getfield 23, 3) := by decide +kernel
theorem dc_Mo_fours_9 : decode M_Mo_fours.2.1 9 = .ok (.if_icmp .ge 103, 3) := by decide +kernel
theorem dc_Mo_fours_12 : decode M_Mo_fours.2.1 12 = .ok (.iload_n 2, 1) := by decide +kernel
theorem dc_Mo_fours_13 : decode M_Mo_fours.2.1 13 = .ok (.iconst 1, 1) := by decide +kernel
theorem dc_Mo_fours_14 : decode M_Mo_fours.2.1 14 = .ok (.iadd, 1) := by decide +kernel
theorem dc_Mo_fours_15 : decode M_Mo_fours.2.1 15 = .ok (.istore_n 3, 1) := by decide +kernel
theorem dc_Mo_fours_16 : decode M_Mo_fours.2.1 16 = .ok (.iload_n 3, 1) := by decide +kernel
theorem dc_Mo_fours_17 : decode M_Mo_fours.2.1 17 = .ok (.aload_n 0, 1) := by decide +kernel
theorem dc_Mo_fours_18 : decode M_Mo_fours.2.1 18 = .ok (.getfield 23, 3) := by decide +kernel
theorem dc_Mo_fours_21 : decode M_Mo_fours.2.1 21 = .ok (.if_icmp .ge 85, 3) := by decide +kernel
theorem dc_Mo_fours_24 : decode M_Mo_fours.2.1 24 = .ok (.iload_n 3, 1) := by decide +kernel
theorem dc_Mo_fours_25 : decode M_Mo_fours.2.1 25 = .ok (.iconst 1, 1) := by decide +kernel
theorem dc_Mo_fours_26 : decode M_Mo_fours.2.1 26 = .ok (.iadd, 1) := by decide +kernel
theorem dc_Mo_fours_27 : decode M_Mo_fours.2.1 27 = .ok (.istore 4, 2) := by decide +kernel
theorem dc_Mo_fours_29 : decode M_Mo_fours.2.1 29 = .ok (.iload 4, 2) := by decide +kernel
theorem dc_Mo_fours_31 : decode M_Mo_fours.2.1 31 = .ok (.aload_n 0, 1) := by decide +kernel
theorem dc_Mo_fours_32 : decode M_Mo_fours.2.1 32 = .ok (.getfield 23, 3) := by decide +kernel
theorem dc_Mo_fours_35 : decode M_Mo_fours.2.1 35 = .ok (.if_icmp .ge 65, 3) := by decide +kernel
theorem dc_Mo_fours_38 : decode M_Mo_fours.2.1 38 = .ok (.iload 4, 2) := by decide +kernel
theorem dc_Mo_fours_40 : decode M_Mo_fours.2.1 40 = .ok (.iconst 1, 1) := by decide +kernel
theorem dc_Mo_fours_41 : decode M_Mo_fours.2.1 41 = .ok (.iadd, 1) := by decide +kernel
theorem dc_Mo_fours_42 : decode M_Mo_fours.2.1 42 = .ok (.istore 5, 2) := by decide +kernel
theorem dc_Mo_fours_44 : decode M_Mo_fours.2.1 44 = .ok (.iload 5, 2) := by decide +kernel
theorem dc_Mo_fours_46 : decode M_Mo_fours.2.1 46 = .ok (.aload_n 0, 1) := by decide +kernel
theorem dc_Mo_fours_47 : decode M_Mo_fours.2.1 47 = .ok (.getfield 23, 3) := by decide +kernel
theorem dc_Mo_fours_50 : decode M_Mo_fours.2.1 50 = .ok (.if_icmp .ge 44, 3) := by decide +kernel
theorem dc_Mo_fours_53 : decode M_Mo_fours.2.1 53 = .ok (.iload_n 1, 1) := by decide +kernel
theorem dc_Mo_fours_54 : decode M_Mo_fours.2.1 54 = .ok (.aload_n 0, 1) := by decide +kernel
theorem dc_Mo_fours_55 : decode M_Mo_fours.2.1 55 = .ok (.iload_n 2, 1) := by decide +kernel
theorem dc_Mo_fours_56 : decode M_Mo_fours.2.1 56 = .ok (.iload_n 3, 1) := by decide +kernel
theorem dc_Mo_fours_57 : decode M_Mo_fours.2.1 57 = .ok (.iload 4, 2) := by decide +kernel
theorem dc_Mo_fours_59 : decode M_Mo_fours.2.1 59 = .ok (.iload 5, 2) := by decide +kernel
theorem dc_Mo_fours_61 : decode M_Mo_fours.2.1 61 = .ok (.invokevirtual 300, 3) := by decide +kernel
theorem dc_Mo_fours_64 : decode M_Mo_fours.2.1 64 = .ok (.aload_n 0, 1) := by decide +kernel
theorem dc_Mo_fours_65 : decode M_Mo_fours.2.1 65 = .ok (.iload_n 2, 1) := by decide +kernel
theorem dc_Mo_fours_66 : decode M_Mo_fours.2.1 66 = .ok (.iload_n 3, 1) := by decide +kernel
theorem dc_Mo_fours_67 : decode M_Mo_fours.2.1 67 = .ok (.iload 5, 2) := by decide +kernel
theorem dc_Mo_fours_69 : decode M_Mo_fours.2.1 69 = .ok (.iload 4, 2) := by decide +kernel
theorem dc_Mo_fours_71 : decode M_Mo_fours.2.1 71 = .ok (.invokevirtual 300, 3) := by decide +kernel
theorem dc_Mo_fours_74 : decode M_Mo_fours.2.1 74 = .ok (.iadd, 1) := by decide +kernel
theorem dc_Mo_fours_75 : decode M_Mo_fours.2.1 75 = .ok (.aload_n 0, 1) := by decide +kernel
theorem dc_Mo_fours_76 : decode M_Mo_fours.2.1 76 = .ok (.iload_n 2, 1) := by decide +kernel
theorem dc_Mo_fours_77 : decode M_Mo_fours.2.1 77 = .ok (.iload 4, 2) := by decide +kernel
theorem dc_Mo_fours_79 : decode M_Mo_fours.2.1 79 = .ok (.iload_n 3, 1) := by decide +kernel
theorem dc_Mo_fours_80 : decode M_Mo_fours.2.1 80 = .ok (.iload 5, 2) := by decide +kernel
theorem dc_Mo_fours_82 : decode M_Mo_fours.2.1 82 = .ok (.invokevirtual 300, 3) := by decide +kernel
theorem dc_Mo_fours_85 : decode M_Mo_fours.2.1 85 = .ok (.iadd, 1) := by decide +kernel
theorem dc_Mo_fours_86 : decode M_Mo_fours.2.1 86 = .ok (.iadd, 1) := by decide +kernel
theorem dc_Mo_fours_87 : decode M_Mo_fours.2.1 87 = .ok (.istore_n 1, 1) := by decide +kernel
theorem dc_Mo_fours_88 : decode M_Mo_fours.2.1 88 = .ok (.iinc 5 1, 3) := by decide +kernel
theorem dc_Mo_fours_91 : decode M_Mo_fours.2.1 91 = .ok (.goto (-47), 3) := by decide +kernel
theorem dc_Mo_fours_94 : decode M_Mo_fours.2.1 94 = .ok (.iinc 4 1, 3) := by decide +kernel
theorem dc_Mo_fours_97 : decode M_Mo_fours.2.1 97 = .ok (.goto (-68), 3) := by decide +kernel
theorem dc_Mo_fours_100 : decode M_Mo_fours.2.1 100 = .ok (.iinc 3 1, 3) := by decide +kernel
theorem dc_Mo_fours_103 : decode M_Mo_fours.2.1 103 = .ok (.goto (-87), 3) := by decide +kernel
theorem dc_Mo_fours_106 : decode M_Mo_fours.2.1 106 = .ok (.iinc 2 1, 3) := by decide +kernel
theorem dc_Mo_fours_109 : decode M_Mo_fours.2.1 109 = .ok (.goto (-105), 3) := by decide +kernel
theorem dc_Mo_fours_112 : decode M_Mo_fours.2.1 112 = .ok (.iload_n 1, 1) := by decide +kernel
theorem dc_Mo_fours_113 : decode M_Mo_fours.2.1 113 = .ok (.ireturn, 1) := by decide +kernel
def f_Mo_fours_L44 (a0 : Nat) (a2 : Int32) (a3 : Int32) (a4 : Int32) : Nat → Int32 → Int32 → xH → (Int32 → Int32 → xH → Option (Int32 × xH)) → Option (Int32 × xH)
  | 0, _, _, _, _ => none
  | n + 1, a1, a5, h, K => gd (hK h a0 = 11) (if (hI h a0 7) ≤ a5 then K a1 a5 h else Option.bind (f_Mo_ring a0 a2 a3 a4 a5 h) (fun q15 => gd (hK q15.2 a0 = 11) (Option.bind (f_Mo_ring a0 a2 a3 a5 a4 q15.2) (fun q16 => gd (hK q16.2 a0 = 11) (Option.bind (f_Mo_ring a0 a2 a4 a3 a5 q16.2) (fun q18 => f_Mo_fours_L44 a0 a2 a3 a4 n (a1 + ((q15.1 + q16.1) + q18.1)) (a5 + (1 : Int32)) q18.2 K))))))
def f_Mo_fours_L29 (a0 : Nat) (a2 : Int32) (a3 : Int32) : Nat → Int32 → Int32 → xH → (Int32 → Int32 → xH → Option (Int32 × xH)) → Option (Int32 × xH)
  | 0, _, _, _, _ => none
  | n + 1, a1, a4, h, K => gd (hK h a0 = 11) (if (hI h a0 7) ≤ a4 then K a1 a4 h else f_Mo_fours_L44 a0 a2 a3 a4 fu a1 (a4 + (1 : Int32)) h (fun v20 v21 h22 => f_Mo_fours_L29 a0 a2 a3 n v20 (a4 + (1 : Int32)) h22 K))
def f_Mo_fours_L16 (a0 : Nat) (a2 : Int32) : Nat → Int32 → Int32 → xH → (Int32 → Int32 → xH → Option (Int32 × xH)) → Option (Int32 × xH)
  | 0, _, _, _, _ => none
  | n + 1, a1, a3, h, K => gd (hK h a0 = 11) (if (hI h a0 7) ≤ a3 then K a1 a3 h else f_Mo_fours_L29 a0 a2 a3 fu a1 (a3 + (1 : Int32)) h (fun v23 v24 h25 => f_Mo_fours_L16 a0 a2 n v23 (a3 + (1 : Int32)) h25 K))
def f_Mo_fours_L4 (a0 : Nat) : Nat → Int32 → Int32 → xH → (Int32 → Int32 → xH → Option (Int32 × xH)) → Option (Int32 × xH)
  | 0, _, _, _, _ => none
  | n + 1, a1, a2, h, K => gd (hK h a0 = 11) (if (hI h a0 7) ≤ a2 then K a1 a2 h else f_Mo_fours_L16 a0 a2 fu a1 (a2 + (1 : Int32)) h (fun v26 v27 h28 => f_Mo_fours_L4 a0 n v26 (a2 + (1 : Int32)) h28 K))
def f_Mo_fours (a0 : Nat) (h : xH) : Option (Int32 × xH) := f_Mo_fours_L4 a0 fu (0 : Int32) (0 : Int32) h (fun v29 v30 h31 => some (v29, h31))
theorem t_Mo_fours_L44 {l : Launch} {z : xZ} {d mc ms : Nat} {Ph : Option xV → xH → Prop} {a0 : Nat} {a2 : Int32} {a3 : Int32} {a4 : Int32}  (hd : 4 ≤ d) : ∀ (n : Nat) (a1 : Int32) (a5 : Int32) (h : xH) (K : Int32 → Int32 → xH → Option (Int32 × xH)), OK (f_Mo_fours_L44 a0 a2 a3 a4 n a1 a5 h K) (fun q => Ph (some (xI q.1)) q.2) → (∀ (a1 : Int32) (a5 : Int32) (h : xH), OK (K a1 a5 h) (fun q => Ph (some (xI q.1)) q.2) → Sx l z d mc ms M_Mo_fours 94 [some (xR a0), some (xI a1), some (xI a2), some (xI a3), some (xI a4), some (xI a5)] [] h Ph) → Sx l z d mc ms M_Mo_fours 44 [some (xR a0), some (xI a1), some (xI a2), some (xI a3), some (xI a4), some (xI a5)] [] h Ph := by
  intro n
  induction n with
  | zero => intro a1 a5 h K hk hE; exact hk.no
  | succ n ih =>
    intro a1 a5 h K hk hE
    rw [f_Mo_fours_L44] at hk
    refine sx_iload dc_Mo_fours_44 rfl ?_
    refine sx_aload_n dc_Mo_fours_46 rfl ?_
    obtain ⟨g13, hk⟩ := hk.g
    refine sx_get (ci := 11) (k := 7) rfl (by decide) wF_Mo_23 g13 dc_Mo_fours_47 ?_
    refine sx_icmp_ge (tgt := 94) dc_Mo_fours_50 (by decide) (fun c14 => ?_) (fun c14 => ?_)
    · replace hk := hk.t c14
      exact hE a1 a5 h hk
    · replace hk := hk.f c14
      refine sx_iload_n dc_Mo_fours_53 rfl ?_
      refine sx_aload_n dc_Mo_fours_54 rfl ?_
      refine sx_iload_n dc_Mo_fours_55 rfl ?_
      refine sx_iload_n dc_Mo_fours_56 rfl ?_
      refine sx_iload dc_Mo_fours_57 rfl ?_
      refine sx_iload dc_Mo_fours_59 rfl ?_
      obtain ⟨q15, eq15, hk⟩ := hk.bind
      refine sx_callV (d2 := d - 1) (mc2 := 0) (ms2 := 0) (as := [xI a2, xI a3, xI a4, xI a5]) mk_Mo_ring rfl (x_rk (ci := 11) g13 rfl rfl) wM_Mo_300 mi_Mo_ring me_Mo_ring rfl (Nat.le_of_ble_eq_true rfl) (Nat.le_of_ble_eq_true rfl) dc_Mo_fours_61 (by omega) (Nat.zero_le _) (Nat.zero_le _) ?_
      refine t_Mo_ring (by omega) ⟨q15, eq15, ?_⟩
      refine sx_eq0 (lc2 := [some (xR a0), some (xI a1), some (xI a2), some (xI a3), some (xI a4), some (xI a5)]) (st2 := [xI q15.1, xI a1]) rfl rfl ?_
      refine sx_aload_n dc_Mo_fours_64 rfl ?_
      refine sx_iload_n dc_Mo_fours_65 rfl ?_
      refine sx_iload_n dc_Mo_fours_66 rfl ?_
      refine sx_iload dc_Mo_fours_67 rfl ?_
      refine sx_iload dc_Mo_fours_69 rfl ?_
      obtain ⟨g17, hk⟩ := hk.g
      obtain ⟨q16, eq16, hk⟩ := hk.bind
      refine sx_callV (d2 := d - 1) (mc2 := 0) (ms2 := 0) (as := [xI a2, xI a3, xI a5, xI a4]) mk_Mo_ring rfl (x_rk (ci := 11) g17 rfl rfl) wM_Mo_300 mi_Mo_ring me_Mo_ring rfl (Nat.le_of_ble_eq_true rfl) (Nat.le_of_ble_eq_true rfl) dc_Mo_fours_71 (by omega) (Nat.zero_le _) (Nat.zero_le _) ?_
      refine t_Mo_ring (by omega) ⟨q16, eq16, ?_⟩
      refine sx_eq0 (lc2 := [some (xR a0), some (xI a1), some (xI a2), some (xI a3), some (xI a4), some (xI a5)]) (st2 := [xI q16.1, xI q15.1, xI a1]) rfl rfl ?_
      refine sx_iadd dc_Mo_fours_74 ?_
      refine sx_aload_n dc_Mo_fours_75 rfl ?_
      refine sx_iload_n dc_Mo_fours_76 rfl ?_
      refine sx_iload dc_Mo_fours_77 rfl ?_
      refine sx_iload_n dc_Mo_fours_79 rfl ?_
      refine sx_iload dc_Mo_fours_80 rfl ?_
      obtain ⟨g19, hk⟩ := hk.g
      obtain ⟨q18, eq18, hk⟩ := hk.bind
      refine sx_callV (d2 := d - 1) (mc2 := 0) (ms2 := 0) (as := [xI a2, xI a4, xI a3, xI a5]) mk_Mo_ring rfl (x_rk (ci := 11) g19 rfl rfl) wM_Mo_300 mi_Mo_ring me_Mo_ring rfl (Nat.le_of_ble_eq_true rfl) (Nat.le_of_ble_eq_true rfl) dc_Mo_fours_82 (by omega) (Nat.zero_le _) (Nat.zero_le _) ?_
      refine t_Mo_ring (by omega) ⟨q18, eq18, ?_⟩
      refine sx_eq0 (lc2 := [some (xR a0), some (xI a1), some (xI a2), some (xI a3), some (xI a4), some (xI a5)]) (st2 := [xI q18.1, xI (q15.1 + q16.1), xI a1]) rfl rfl ?_
      refine sx_iadd dc_Mo_fours_85 ?_
      refine sx_iadd dc_Mo_fours_86 ?_
      refine sx_istore_n dc_Mo_fours_87 (by decide) (sx_eq (lc2 := [some (xR a0), some (xI (a1 + ((q15.1 + q16.1) + q18.1))), some (xI a2), some (xI a3), some (xI a4), some (xI a5)]) rfl rfl ?_)
      refine sx_iinc (v := (1 : Int32)) dc_Mo_fours_88 rfl (by decide) (by decide) (sx_eq (lc2 := [some (xR a0), some (xI (a1 + ((q15.1 + q16.1) + q18.1))), some (xI a2), some (xI a3), some (xI a4), some (xI (a5 + (1 : Int32)))]) rfl rfl ?_)
      refine sx_goto (tgt := 44) dc_Mo_fours_91 (by decide) ?_
      exact ih (a1 + ((q15.1 + q16.1) + q18.1)) (a5 + (1 : Int32)) q18.2 _ hk hE
theorem t_Mo_fours_L29 {l : Launch} {z : xZ} {d mc ms : Nat} {Ph : Option xV → xH → Prop} {a0 : Nat} {a2 : Int32} {a3 : Int32}  (hd : 4 ≤ d) : ∀ (n : Nat) (a1 : Int32) (a4 : Int32) (h : xH) (K : Int32 → Int32 → xH → Option (Int32 × xH)), OK (f_Mo_fours_L29 a0 a2 a3 n a1 a4 h K) (fun q => Ph (some (xI q.1)) q.2) → (∀ (a1 : Int32) (a4 : Int32) (h : xH), OK (K a1 a4 h) (fun q => Ph (some (xI q.1)) q.2) → Sx l z d mc ms M_Mo_fours 100 [some (xR a0), some (xI a1), some (xI a2), some (xI a3), some (xI a4), none] [] h Ph) → Sx l z d mc ms M_Mo_fours 29 [some (xR a0), some (xI a1), some (xI a2), some (xI a3), some (xI a4), none] [] h Ph := by
  intro n
  induction n with
  | zero => intro a1 a4 h K hk hE; exact hk.no
  | succ n ih =>
    intro a1 a4 h K hk hE
    rw [f_Mo_fours_L29] at hk
    refine sx_iload dc_Mo_fours_29 rfl ?_
    refine sx_aload_n dc_Mo_fours_31 rfl ?_
    obtain ⟨g11, hk⟩ := hk.g
    refine sx_get (ci := 11) (k := 7) rfl (by decide) wF_Mo_23 g11 dc_Mo_fours_32 ?_
    refine sx_icmp_ge (tgt := 100) dc_Mo_fours_35 (by decide) (fun c12 => ?_) (fun c12 => ?_)
    · replace hk := hk.t c12
      exact hE a1 a4 h hk
    · replace hk := hk.f c12
      refine sx_iload dc_Mo_fours_38 rfl ?_
      refine sx_iconst (v := (1 : Int32)) dc_Mo_fours_40 (by decide) ?_
      refine sx_iadd dc_Mo_fours_41 ?_
      refine sx_istore dc_Mo_fours_42 (by decide) (sx_eq (lc2 := [some (xR a0), some (xI a1), some (xI a2), some (xI a3), some (xI a4), some (xI (a4 + (1 : Int32)))]) rfl rfl ?_)
      refine t_Mo_fours_L44 (by omega) _ _ _ _ _ hk (fun v20 v21 h22 hk => ?_)
      refine sx_iinc (v := (1 : Int32)) dc_Mo_fours_94 rfl (by decide) (by decide) (sx_eq (lc2 := [some (xR a0), some (xI v20), some (xI a2), some (xI a3), some (xI (a4 + (1 : Int32))), some (xI v21)]) rfl rfl ?_)
      refine sx_goto (tgt := 29) dc_Mo_fours_97 (by decide) ?_
      exact sx_less (by simp [x_le]) (ih v20 (a4 + (1 : Int32)) h22 _ hk hE)
theorem t_Mo_fours_L16 {l : Launch} {z : xZ} {d mc ms : Nat} {Ph : Option xV → xH → Prop} {a0 : Nat} {a2 : Int32}  (hd : 4 ≤ d) : ∀ (n : Nat) (a1 : Int32) (a3 : Int32) (h : xH) (K : Int32 → Int32 → xH → Option (Int32 × xH)), OK (f_Mo_fours_L16 a0 a2 n a1 a3 h K) (fun q => Ph (some (xI q.1)) q.2) → (∀ (a1 : Int32) (a3 : Int32) (h : xH), OK (K a1 a3 h) (fun q => Ph (some (xI q.1)) q.2) → Sx l z d mc ms M_Mo_fours 106 [some (xR a0), some (xI a1), some (xI a2), some (xI a3), none, none] [] h Ph) → Sx l z d mc ms M_Mo_fours 16 [some (xR a0), some (xI a1), some (xI a2), some (xI a3), none, none] [] h Ph := by
  intro n
  induction n with
  | zero => intro a1 a3 h K hk hE; exact hk.no
  | succ n ih =>
    intro a1 a3 h K hk hE
    rw [f_Mo_fours_L16] at hk
    refine sx_iload_n dc_Mo_fours_16 rfl ?_
    refine sx_aload_n dc_Mo_fours_17 rfl ?_
    obtain ⟨g9, hk⟩ := hk.g
    refine sx_get (ci := 11) (k := 7) rfl (by decide) wF_Mo_23 g9 dc_Mo_fours_18 ?_
    refine sx_icmp_ge (tgt := 106) dc_Mo_fours_21 (by decide) (fun c10 => ?_) (fun c10 => ?_)
    · replace hk := hk.t c10
      exact hE a1 a3 h hk
    · replace hk := hk.f c10
      refine sx_iload_n dc_Mo_fours_24 rfl ?_
      refine sx_iconst (v := (1 : Int32)) dc_Mo_fours_25 (by decide) ?_
      refine sx_iadd dc_Mo_fours_26 ?_
      refine sx_istore dc_Mo_fours_27 (by decide) (sx_eq (lc2 := [some (xR a0), some (xI a1), some (xI a2), some (xI a3), some (xI (a3 + (1 : Int32))), none]) rfl rfl ?_)
      refine t_Mo_fours_L29 (by omega) _ _ _ _ _ hk (fun v23 v24 h25 hk => ?_)
      refine sx_iinc (v := (1 : Int32)) dc_Mo_fours_100 rfl (by decide) (by decide) (sx_eq (lc2 := [some (xR a0), some (xI v23), some (xI a2), some (xI (a3 + (1 : Int32))), some (xI v24), none]) rfl rfl ?_)
      refine sx_goto (tgt := 16) dc_Mo_fours_103 (by decide) ?_
      exact sx_less (by simp [x_le]) (ih v23 (a3 + (1 : Int32)) h25 _ hk hE)
theorem t_Mo_fours_L4 {l : Launch} {z : xZ} {d mc ms : Nat} {Ph : Option xV → xH → Prop} {a0 : Nat}  (hd : 4 ≤ d) : ∀ (n : Nat) (a1 : Int32) (a2 : Int32) (h : xH) (K : Int32 → Int32 → xH → Option (Int32 × xH)), OK (f_Mo_fours_L4 a0 n a1 a2 h K) (fun q => Ph (some (xI q.1)) q.2) → (∀ (a1 : Int32) (a2 : Int32) (h : xH), OK (K a1 a2 h) (fun q => Ph (some (xI q.1)) q.2) → Sx l z d mc ms M_Mo_fours 112 [some (xR a0), some (xI a1), some (xI a2), none, none, none] [] h Ph) → Sx l z d mc ms M_Mo_fours 4 [some (xR a0), some (xI a1), some (xI a2), none, none, none] [] h Ph := by
  intro n
  induction n with
  | zero => intro a1 a2 h K hk hE; exact hk.no
  | succ n ih =>
    intro a1 a2 h K hk hE
    rw [f_Mo_fours_L4] at hk
    refine sx_iload_n dc_Mo_fours_4 rfl ?_
    refine sx_aload_n dc_Mo_fours_5 rfl ?_
    obtain ⟨g7, hk⟩ := hk.g
    refine sx_get (ci := 11) (k := 7) rfl (by decide) wF_Mo_23 g7 dc_Mo_fours_6 ?_
    refine sx_icmp_ge (tgt := 112) dc_Mo_fours_9 (by decide) (fun c8 => ?_) (fun c8 => ?_)
    · replace hk := hk.t c8
      exact hE a1 a2 h hk
    · replace hk := hk.f c8
      refine sx_iload_n dc_Mo_fours_12 rfl ?_
      refine sx_iconst (v := (1 : Int32)) dc_Mo_fours_13 (by decide) ?_
      refine sx_iadd dc_Mo_fours_14 ?_
      refine sx_istore_n dc_Mo_fours_15 (by decide) (sx_eq (lc2 := [some (xR a0), some (xI a1), some (xI a2), some (xI (a2 + (1 : Int32))), none, none]) rfl rfl ?_)
      refine t_Mo_fours_L16 (by omega) _ _ _ _ _ hk (fun v26 v27 h28 hk => ?_)
      refine sx_iinc (v := (1 : Int32)) dc_Mo_fours_106 rfl (by decide) (by decide) (sx_eq (lc2 := [some (xR a0), some (xI v26), some (xI (a2 + (1 : Int32))), some (xI v27), none, none]) rfl rfl ?_)
      refine sx_goto (tgt := 4) dc_Mo_fours_109 (by decide) ?_
      exact sx_less (by simp [x_le]) (ih v26 (a2 + (1 : Int32)) h28 _ hk hE)
theorem t_Mo_fours {l : Launch} {z : xZ} {d mc ms : Nat} {Ph : Option xV → xH → Prop} {a0 : Nat}  {h : xH} (hd : 4 ≤ d) (hk : OK (f_Mo_fours a0 h) (fun q => Ph (some (xI q.1)) q.2)) : Sx l z d mc ms M_Mo_fours 0 (x_en [xR a0] 6) [] h Ph := by
  unfold f_Mo_fours at hk
  refine sx_eq (lc2 := [some (xR a0), none, none, none, none, none]) rfl rfl ?_
  refine sx_iconst (v := (0 : Int32)) dc_Mo_fours_0 (by decide) ?_
  refine sx_istore_n dc_Mo_fours_1 (by decide) (sx_eq (lc2 := [some (xR a0), some (xI (0 : Int32)), none, none, none, none]) rfl rfl ?_)
  refine sx_iconst (v := (0 : Int32)) dc_Mo_fours_2 (by decide) ?_
  refine sx_istore_n dc_Mo_fours_3 (by decide) (sx_eq (lc2 := [some (xR a0), some (xI (0 : Int32)), some (xI (0 : Int32)), none, none, none]) rfl rfl ?_)
  refine t_Mo_fours_L4 (by omega) _ _ _ _ _ hk (fun v29 v30 h31 hk => ?_)
  refine sx_iload_n dc_Mo_fours_112 rfl ?_
  exact sx_retI dc_Mo_fours_113 rfl hk.val
theorem dc_Mo_common_0 : decode M_Mo_common.2.1 0 = .ok (.iload_n 1, 1) := by decide +kernel
theorem dc_Mo_common_1 : decode M_Mo_common.2.1 1 = .ok (.i2l, 1) := by decide +kernel
theorem dc_Mo_common_2 : decode M_Mo_common.2.1 2 = .ok (.lconst 0, 1) := by decide +kernel
theorem dc_Mo_common_3 : decode M_Mo_common.2.1 3 = .ok (.lconst 1, 1) := by decide +kernel
theorem dc_Mo_common_4 : decode M_Mo_common.2.1 4 = .ok (.invokestatic 73, 3) := by decide +kernel
theorem dc_Mo_common_7 : decode M_Mo_common.2.1 7 = .ok (.ifCond .ne 6, 3) := by decide +kernel
theorem dc_Mo_common_10 : decode M_Mo_common.2.1 10 = .ok (.bipush (-2), 2) := by decide +kernel
theorem dc_Mo_common_12 : decode M_Mo_common.2.1 12 = .ok (.ireturn, 1) := by decide +kernel
theorem dc_Mo_common_13 : decode M_Mo_common.2.1 13 = .ok (.iload_n 1, 1) := by decide +kernel
theorem dc_Mo_common_14 : decode M_Mo_common.2.1 14 = .ok (.iconst 1, 1) := by decide +kernel
theorem dc_Mo_common_15 : decode M_Mo_common.2.1 15 = .ok (.if_icmp .ne 37, 3) := by decide +kernel
theorem dc_Mo_common_18 : decode M_Mo_common.2.1 18 = .ok (.iconst 0, 1) := by decide +kernel
theorem dc_Mo_common_19 : decode M_Mo_common.2.1 19 = .ok (.istore_n 2, 1) := by decide +kernel
theorem dc_Mo_common_20 : decode M_Mo_common.2.1 20 = .ok (.iload_n 2, 1) := by decide +kernel
theorem dc_Mo_common_21 : decode M_Mo_common.2.1 21 = .ok (.aload_n 0, 1) := by decide +kernel
theorem dc_Mo_common_22 : decode M_Mo_common.2.1 22 = .ok (.getfield 23, 3) := by decide +kernel
theorem dc_Mo_common_25 : decode M_Mo_common.2.1 25 = .ok (.if_icmp .ge 25, 3) := by decide +kernel
theorem dc_Mo_common_28 : decode M_Mo_common.2.1 28 = .ok (.aload_n 0, 1) := by decide +kernel
theorem dc_Mo_common_29 : decode M_Mo_common.2.1 29 = .ok (.iload_n 2, 1) := by decide +kernel
theorem dc_Mo_common_30 : decode M_Mo_common.2.1 30 = .ok (.invokevirtual 260, 3) := by decide +kernel
theorem dc_Mo_common_33 : decode M_Mo_common.2.1 33 = .ok (.aload_n 0, 1) := by decide +kernel
theorem dc_Mo_common_34 : decode M_Mo_common.2.1 34 = .ok (.getfield 23, 3) := by decide +kernel
theorem dc_Mo_common_37 : decode M_Mo_common.2.1 37 = .ok (.iconst 1, 1) := by decide +kernel
theorem dc_Mo_common_38 : decode M_Mo_common.2.1 38 = .ok (.isub, 1) := by decide +kernel
theorem dc_Mo_common_39 : decode M_Mo_common.2.1 39 = .ok (.if_icmp .ne 5, 3) := by decide +kernel
theorem dc_Mo_common_42 : decode M_Mo_common.2.1 42 = .ok (.iload_n 2, 1) := by decide +kernel
theorem dc_Mo_common_43 : decode M_Mo_common.2.1 43 = .ok (.ireturn, 1) := by decide +kernel
theorem dc_Mo_common_44 : decode M_Mo_common.2.1 44 = .ok (.iinc 2 1, 3) := by decide +kernel
theorem dc_Mo_common_47 : decode M_Mo_common.2.1 47 = .ok (.goto (-27), 3) := by decide +kernel
theorem dc_Mo_common_50 : decode M_Mo_common.2.1 50 = .ok (.iconst (-1), 1) := by decide +kernel
theorem dc_Mo_common_51 : decode M_Mo_common.2.1 51 = .ok (.ireturn, 1) := by decide +kernel
theorem dc_Mo_common_52 : decode M_Mo_common.2.1 52 = .ok (.iconst 1, 1) := by decide +kernel
theorem dc_Mo_common_53 : decode M_Mo_common.2.1 53 = .ok (.istore_n 2, 1) := by decide +kernel
theorem dc_Mo_common_54 : decode M_Mo_common.2.1 54 = .ok (.iload_n 2, 1) := by decide +kernel
theorem dc_Mo_common_55 : decode M_Mo_common.2.1 55 = .ok (.aload_n 0, 1) := by decide +kernel
theorem dc_Mo_common_56 : decode M_Mo_common.2.1 56 = .ok (.getfield 23, 3) := by decide +kernel
theorem dc_Mo_common_59 : decode M_Mo_common.2.1 59 = .ok (.if_icmp .ge 93, 3) := by decide +kernel
theorem dc_Mo_common_62 : decode M_Mo_common.2.1 62 = .ok (.iconst 0, 1) := by decide +kernel
theorem dc_Mo_common_63 : decode M_Mo_common.2.1 63 = .ok (.istore_n 3, 1) := by decide +kernel
theorem dc_Mo_common_64 : decode M_Mo_common.2.1 64 = .ok (.iload_n 3, 1) := by decide +kernel
theorem dc_Mo_common_65 : decode M_Mo_common.2.1 65 = .ok (.iload_n 2, 1) := by decide +kernel
theorem dc_Mo_common_66 : decode M_Mo_common.2.1 66 = .ok (.if_icmp .ge 80, 3) := by decide +kernel
theorem dc_Mo_common_69 : decode M_Mo_common.2.1 69 = .ok (.iconst 0, 1) := by decide +kernel
theorem dc_Mo_common_70 : decode M_Mo_common.2.1 70 = .ok (.istore 4, 2) := by decide +kernel
theorem dc_Mo_common_72 : decode M_Mo_common.2.1 72 = .ok (.iconst 0, 1) := by decide +kernel
theorem dc_Mo_common_73 : decode M_Mo_common.2.1 73 = .ok (.istore 5, 2) := by decide +kernel
theorem dc_Mo_common_75 : decode M_Mo_common.2.1 75 = .ok (.iload 5, 2) := by decide +kernel
theorem dc_Mo_common_77 : decode M_Mo_common.2.1 77 = .ok (.aload_n 0, 1) := by decide +kernel
theorem dc_Mo_common_78 : decode M_Mo_common.2.1 78 = .ok (.getfield 23, 3) := by decide +kernel
theorem dc_Mo_common_81 : decode M_Mo_common.2.1 81 = .ok (.if_icmp .ge 51, 3) := by decide +kernel
theorem dc_Mo_common_84 : decode M_Mo_common.2.1 84 = .ok (.iload 4, 2) := by decide +kernel
theorem dc_Mo_common_86 : decode M_Mo_common.2.1 86 = .ok (.iload 5, 2) := by decide +kernel
theorem dc_Mo_common_88 : decode M_Mo_common.2.1 88 = .ok (.iload_n 3, 1) := by decide +kernel
theorem dc_Mo_common_89 : decode M_Mo_common.2.1 89 = .ok (.if_icmp .eq 33, 3) := by decide +kernel
theorem dc_Mo_common_92 : decode M_Mo_common.2.1 92 = .ok (.iload 5, 2) := by decide +kernel
theorem dc_Mo_common_94 : decode M_Mo_common.2.1 94 = .ok (.iload_n 2, 1) := by decide +kernel
theorem dc_Mo_common_95 : decode M_Mo_common.2.1 95 = .ok (.if_icmp .eq 27, 3) := by decide +kernel
theorem dc_Mo_common_98 : decode M_Mo_common.2.1 98 = .ok (.aload_n 0, 1) := by decide +kernel
theorem dc_Mo_common_99 : decode M_Mo_common.2.1 99 = .ok (.iload_n 3, 1) := by decide +kernel
theorem dc_Mo_common_100 : decode M_Mo_common.2.1 100 = .ok (.iload 5, 2) := by decide +kernel
theorem dc_Mo_common_102 : decode M_Mo_common.2.1 102 = .ok (.invokevirtual 255, 3) := by decide +kernel
theorem dc_Mo_common_105 : decode M_Mo_common.2.1 105 = .ok (.ifCond .eq 17, 3) := by decide +kernel
theorem dc_Mo_common_108 : decode M_Mo_common.2.1 108 = .ok (.aload_n 0, 1) := by decide +kernel
theorem dc_Mo_common_109 : decode M_Mo_common.2.1 109 = .ok (.iload_n 2, 1) := by decide +kernel
theorem dc_Mo_common_110 : decode M_Mo_common.2.1 110 = .ok (.iload 5, 2) := by decide +kernel
theorem dc_Mo_common_112 : decode M_Mo_common.2.1 112 = .ok (.invokevirtual 255, 3) := by decide +kernel
theorem dc_Mo_common_115 : decode M_Mo_common.2.1 115 = .ok (.ifCond .eq 7, 3) := by decide +kernel
theorem dc_Mo_common_118 : decode M_Mo_common.2.1 118 = .ok (.iconst 1, 1) := by decide +kernel
theorem dc_Mo_common_119 : decode M_Mo_common.2.1 119 = .ok (.goto 4, 3) := by decide +kernel
theorem dc_Mo_common_122 : decode M_Mo_common.2.1 122 = .ok (.iconst 0, 1) := by decide +kernel
theorem dc_Mo_common_123 : decode M_Mo_common.2.1 123 = .ok (.iadd, 1) := by decide +kernel
theorem dc_Mo_common_124 : decode M_Mo_common.2.1 124 = .ok (.istore 4, 2) := by decide +kernel
theorem dc_Mo_common_126 : decode M_Mo_common.2.1 126 = .ok (.iinc 5 1, 3) := by decide +kernel
theorem dc_Mo_common_129 : decode M_Mo_common.2.1 129 = .ok (.goto (-54), 3) := by decide +kernel
theorem dc_Mo_common_132 : decode M_Mo_common.2.1 132 = .ok (.iload 4, 2) := by decide +kernel
theorem dc_Mo_common_134 : decode M_Mo_common.2.1 134 = .ok (.iconst 1, 1) := by decide +kernel
theorem dc_Mo_common_135 : decode M_Mo_common.2.1 135 = .ok (.if_icmp .eq 5, 3) := by decide +kernel
theorem dc_Mo_common_138 : decode M_Mo_common.2.1 138 = .ok (.iconst 0, 1) := by decide +kernel
theorem dc_Mo_common_139 : decode M_Mo_common.2.1 139 = .ok (.ireturn, 1) := by decide +kernel
theorem dc_Mo_common_140 : decode M_Mo_common.2.1 140 = .ok (.iinc 3 1, 3) := by decide +kernel
theorem dc_Mo_common_143 : decode M_Mo_common.2.1 143 = .ok (.goto (-79), 3) := by decide +kernel
theorem dc_Mo_common_146 : decode M_Mo_common.2.1 146 = .ok (.iinc 2 1, 3) := by decide +kernel
theorem dc_Mo_common_149 : decode M_Mo_common.2.1 149 = .ok (.goto (-95), 3) := by decide +kernel
theorem dc_Mo_common_152 : decode M_Mo_common.2.1 152 = .ok (.iconst 1, 1) := by decide +kernel
theorem dc_Mo_common_153 : decode M_Mo_common.2.1 153 = .ok (.ireturn, 1) := by decide +kernel
def f_Mo_common_L75 (a0 : Nat) (a1 : Int32) (a2 : Int32) (a3 : Int32) : Nat → Int32 → Int32 → xH → (Int32 → Int32 → xH → Option (Int32 × xH)) → Option (Int32 × xH)
  | 0, _, _, _, _ => none
  | n + 1, a4, a5, h, K => gd (hK h a0 = 11) (if (hI h a0 7) ≤ a5 then K a4 a5 h else jn (fun (x17 : Int32 × xH) => f_Mo_common_L75 a0 a1 a2 a3 n (a4 + x17.1) (a5 + (1 : Int32)) x17.2 K) (fun k18 => jn (fun (x19 : xH) => k18 ((0 : Int32), x19)) (fun k20 => if a5 = a3 then k20 h else if a5 = a2 then k20 h else Option.bind (f_Mo_know a0 a3 a5 h) (fun q23 => if q23.1 = 0 then k20 q23.2 else gd (hK q23.2 a0 = 11) (Option.bind (f_Mo_know a0 a2 a5 q23.2) (fun q25 => if q25.1 = 0 then k20 q25.2 else k18 ((1 : Int32), q25.2)))))))
def f_Mo_common_L64 (a0 : Nat) (a1 : Int32) (a2 : Int32) : Nat → Int32 → xH → (Int32 → xH → Option (Int32 × xH)) → Option (Int32 × xH)
  | 0, _, _, _ => none
  | n + 1, a3, h, K => if a2 ≤ a3 then K a3 h else f_Mo_common_L75 a0 a1 a2 a3 fu (0 : Int32) (0 : Int32) h (fun v28 v29 h30 => if v28 = (1 : Int32) then f_Mo_common_L64 a0 a1 a2 n (a3 + (1 : Int32)) h30 K else some ((0 : Int32), h30))
def f_Mo_common_L54 (a0 : Nat) (a1 : Int32) : Nat → Int32 → xH → (Int32 → xH → Option (Int32 × xH)) → Option (Int32 × xH)
  | 0, _, _, _ => none
  | n + 1, a2, h, K => gd (hK h a0 = 11) (if (hI h a0 7) ≤ a2 then K a2 h else f_Mo_common_L64 a0 a1 a2 fu (0 : Int32) h (fun v32 h33 => f_Mo_common_L54 a0 a1 n (a2 + (1 : Int32)) h33 K))
def f_Mo_common_L20 (a0 : Nat) (a1 : Int32) : Nat → Int32 → xH → (Int32 → xH → Option (Int32 × xH)) → Option (Int32 × xH)
  | 0, _, _, _ => none
  | n + 1, a2, h, K => gd (hK h a0 = 11) (if (hI h a0 7) ≤ a2 then K a2 h else Option.bind (f_Mo_degree a0 a2 h) (fun q38 => gd (hK q38.2 a0 = 11) (if q38.1 = ((hI q38.2 a0 7) - (1 : Int32)) then some (a2, q38.2) else f_Mo_common_L20 a0 a1 n (a2 + (1 : Int32)) q38.2 K)))
def f_Mo_common (a0 : Nat) (a1 : Int32) (h : xH) : Option (Int32 × xH) := Option.bind (f_Mo_in a1.toInt64 (0 : Int64) (1 : Int64) h) (fun q9 => if q9.1 = 0 then some ((-2 : Int32), q9.2) else if a1 = (1 : Int32) then f_Mo_common_L20 a0 a1 fu (0 : Int32) q9.2 (fun v41 h42 => some ((-1 : Int32), h42)) else f_Mo_common_L54 a0 a1 fu (1 : Int32) q9.2 (fun v34 h35 => some ((1 : Int32), h35)))
theorem t_Mo_common_L75 {l : Launch} {z : xZ} {d mc ms : Nat} {Ph : Option xV → xH → Prop} {a0 : Nat} {a1 : Int32} {a2 : Int32} {a3 : Int32}  (hd : 3 ≤ d) : ∀ (n : Nat) (a4 : Int32) (a5 : Int32) (h : xH) (K : Int32 → Int32 → xH → Option (Int32 × xH)), OK (f_Mo_common_L75 a0 a1 a2 a3 n a4 a5 h K) (fun q => Ph (some (xI q.1)) q.2) → (∀ (a4 : Int32) (a5 : Int32) (h : xH), OK (K a4 a5 h) (fun q => Ph (some (xI q.1)) q.2) → Sx l z d mc ms M_Mo_common 132 [some (xR a0), some (xI a1), some (xI a2), some (xI a3), some (xI a4), some (xI a5)] [] h Ph) → Sx l z d mc ms M_Mo_common 75 [some (xR a0), some (xI a1), some (xI a2), some (xI a3), some (xI a4), some (xI a5)] [] h Ph := by
  intro n
  induction n with
  | zero => intro a4 a5 h K hk hE; exact hk.no
  | succ n ih =>
    intro a4 a5 h K hk hE
    rw [f_Mo_common_L75] at hk
    refine sx_iload dc_Mo_common_75 rfl ?_
    refine sx_aload_n dc_Mo_common_77 rfl ?_
    obtain ⟨g15, hk⟩ := hk.g
    refine sx_get (ci := 11) (k := 7) rfl (by decide) wF_Mo_23 g15 dc_Mo_common_78 ?_
    refine sx_icmp_ge (tgt := 132) dc_Mo_common_81 (by decide) (fun c16 => ?_) (fun c16 => ?_)
    · replace hk := hk.t c16
      exact hE a4 a5 h hk
    · replace hk := hk.f c16
      refine sx_iload dc_Mo_common_84 rfl ?_
      refine sx_iload dc_Mo_common_86 rfl ?_
      refine sx_iload_n dc_Mo_common_88 rfl ?_
      refine hk.j (X := fun x17 => Sx l z d mc ms M_Mo_common 123 [some (xR a0), some (xI a1), some (xI a2), some (xI a3), some (xI a4), some (xI a5)] [xI x17.1, xI a4] x17.2 Ph) (fun x17 hk => ?_) (fun k18 jk18 hk => ?_)
      · refine sx_iadd dc_Mo_common_123 ?_
        refine sx_istore dc_Mo_common_124 (by decide) (sx_eq (lc2 := [some (xR a0), some (xI a1), some (xI a2), some (xI a3), some (xI (a4 + x17.1)), some (xI a5)]) rfl rfl ?_)
        refine sx_iinc (v := (1 : Int32)) dc_Mo_common_126 rfl (by decide) (by decide) (sx_eq (lc2 := [some (xR a0), some (xI a1), some (xI a2), some (xI a3), some (xI (a4 + x17.1)), some (xI (a5 + (1 : Int32)))]) rfl rfl ?_)
        refine sx_goto (tgt := 75) dc_Mo_common_129 (by decide) ?_
        exact ih (a4 + x17.1) (a5 + (1 : Int32)) x17.2 _ hk hE
      · refine hk.j (X := fun x19 => Sx l z d mc ms M_Mo_common 122 [some (xR a0), some (xI a1), some (xI a2), some (xI a3), some (xI a4), some (xI a5)] [xI a4] x19 Ph) (fun x19 hk => ?_) (fun k20 jk20 hk => ?_)
        · refine sx_iconst (v := (0 : Int32)) dc_Mo_common_122 (by decide) ?_
          exact jk18 ((0 : Int32), x19) hk
        · refine sx_icmp_eq (tgt := 122) dc_Mo_common_89 (by decide) (fun c21 => ?_) (fun c21 => ?_)
          · replace hk := hk.t c21
            exact jk20 h hk
          · replace hk := hk.f c21
            refine sx_iload dc_Mo_common_92 rfl ?_
            refine sx_iload_n dc_Mo_common_94 rfl ?_
            refine sx_icmp_eq (tgt := 122) dc_Mo_common_95 (by decide) (fun c22 => ?_) (fun c22 => ?_)
            · replace hk := hk.t c22
              exact jk20 h hk
            · replace hk := hk.f c22
              refine sx_aload_n dc_Mo_common_98 rfl ?_
              refine sx_iload_n dc_Mo_common_99 rfl ?_
              refine sx_iload dc_Mo_common_100 rfl ?_
              obtain ⟨q23, eq23, hk⟩ := hk.bind
              refine sx_callV (d2 := d - 1) (mc2 := 0) (ms2 := 0) (as := [xI a3, xI a5]) mk_Mo_know rfl (x_rk (ci := 11) g15 rfl rfl) wM_Mo_255 mi_Mo_know me_Mo_know rfl (Nat.le_of_ble_eq_true rfl) (Nat.le_of_ble_eq_true rfl) dc_Mo_common_102 (by omega) (Nat.zero_le _) (Nat.zero_le _) ?_
              refine t_Mo_know (by omega) ⟨q23, eq23, ?_⟩
              refine sx_eq0 (lc2 := [some (xR a0), some (xI a1), some (xI a2), some (xI a3), some (xI a4), some (xI a5)]) (st2 := [xI q23.1, xI a4]) rfl rfl ?_
              refine sx_if_eq (tgt := 122) dc_Mo_common_105 (by decide) (fun c24 => ?_) (fun c24 => ?_)
              · replace hk := hk.t c24
                exact jk20 q23.2 hk
              · replace hk := hk.f c24
                refine sx_aload_n dc_Mo_common_108 rfl ?_
                refine sx_iload_n dc_Mo_common_109 rfl ?_
                refine sx_iload dc_Mo_common_110 rfl ?_
                obtain ⟨g26, hk⟩ := hk.g
                obtain ⟨q25, eq25, hk⟩ := hk.bind
                refine sx_callV (d2 := d - 1) (mc2 := 0) (ms2 := 0) (as := [xI a2, xI a5]) mk_Mo_know rfl (x_rk (ci := 11) g26 rfl rfl) wM_Mo_255 mi_Mo_know me_Mo_know rfl (Nat.le_of_ble_eq_true rfl) (Nat.le_of_ble_eq_true rfl) dc_Mo_common_112 (by omega) (Nat.zero_le _) (Nat.zero_le _) ?_
                refine t_Mo_know (by omega) ⟨q25, eq25, ?_⟩
                refine sx_eq0 (lc2 := [some (xR a0), some (xI a1), some (xI a2), some (xI a3), some (xI a4), some (xI a5)]) (st2 := [xI q25.1, xI a4]) rfl rfl ?_
                refine sx_if_eq (tgt := 122) dc_Mo_common_115 (by decide) (fun c27 => ?_) (fun c27 => ?_)
                · replace hk := hk.t c27
                  exact jk20 q25.2 hk
                · replace hk := hk.f c27
                  refine sx_iconst (v := (1 : Int32)) dc_Mo_common_118 (by decide) ?_
                  refine sx_goto (tgt := 123) dc_Mo_common_119 (by decide) ?_
                  exact jk18 ((1 : Int32), q25.2) hk
theorem t_Mo_common_L64 {l : Launch} {z : xZ} {d mc ms : Nat} {Ph : Option xV → xH → Prop} {a0 : Nat} {a1 : Int32} {a2 : Int32}  (hd : 3 ≤ d) : ∀ (n : Nat) (a3 : Int32) (h : xH) (K : Int32 → xH → Option (Int32 × xH)), OK (f_Mo_common_L64 a0 a1 a2 n a3 h K) (fun q => Ph (some (xI q.1)) q.2) → (∀ (a3 : Int32) (h : xH), OK (K a3 h) (fun q => Ph (some (xI q.1)) q.2) → Sx l z d mc ms M_Mo_common 146 [some (xR a0), some (xI a1), some (xI a2), some (xI a3), none, none] [] h Ph) → Sx l z d mc ms M_Mo_common 64 [some (xR a0), some (xI a1), some (xI a2), some (xI a3), none, none] [] h Ph := by
  intro n
  induction n with
  | zero => intro a3 h K hk hE; exact hk.no
  | succ n ih =>
    intro a3 h K hk hE
    rw [f_Mo_common_L64] at hk
    refine sx_iload_n dc_Mo_common_64 rfl ?_
    refine sx_iload_n dc_Mo_common_65 rfl ?_
    refine sx_icmp_ge (tgt := 146) dc_Mo_common_66 (by decide) (fun c14 => ?_) (fun c14 => ?_)
    · replace hk := hk.t c14
      exact hE a3 h hk
    · replace hk := hk.f c14
      refine sx_iconst (v := (0 : Int32)) dc_Mo_common_69 (by decide) ?_
      refine sx_istore dc_Mo_common_70 (by decide) (sx_eq (lc2 := [some (xR a0), some (xI a1), some (xI a2), some (xI a3), some (xI (0 : Int32)), none]) rfl rfl ?_)
      refine sx_iconst (v := (0 : Int32)) dc_Mo_common_72 (by decide) ?_
      refine sx_istore dc_Mo_common_73 (by decide) (sx_eq (lc2 := [some (xR a0), some (xI a1), some (xI a2), some (xI a3), some (xI (0 : Int32)), some (xI (0 : Int32))]) rfl rfl ?_)
      refine t_Mo_common_L75 (by omega) _ _ _ _ _ hk (fun v28 v29 h30 hk => ?_)
      refine sx_iload dc_Mo_common_132 rfl ?_
      refine sx_iconst (v := (1 : Int32)) dc_Mo_common_134 (by decide) ?_
      refine sx_icmp_eq (tgt := 140) dc_Mo_common_135 (by decide) (fun c31 => ?_) (fun c31 => ?_)
      · replace hk := hk.t c31
        refine sx_iinc (v := (1 : Int32)) dc_Mo_common_140 rfl (by decide) (by decide) (sx_eq (lc2 := [some (xR a0), some (xI a1), some (xI a2), some (xI (a3 + (1 : Int32))), some (xI v28), some (xI v29)]) rfl rfl ?_)
        refine sx_goto (tgt := 64) dc_Mo_common_143 (by decide) ?_
        exact sx_less (by simp [x_le]) (ih (a3 + (1 : Int32)) h30 _ hk hE)
      · replace hk := hk.f c31
        refine sx_iconst (v := (0 : Int32)) dc_Mo_common_138 (by decide) ?_
        exact sx_retI dc_Mo_common_139 rfl hk.val
theorem t_Mo_common_L54 {l : Launch} {z : xZ} {d mc ms : Nat} {Ph : Option xV → xH → Prop} {a0 : Nat} {a1 : Int32}  (hd : 3 ≤ d) : ∀ (n : Nat) (a2 : Int32) (h : xH) (K : Int32 → xH → Option (Int32 × xH)), OK (f_Mo_common_L54 a0 a1 n a2 h K) (fun q => Ph (some (xI q.1)) q.2) → (∀ (a2 : Int32) (h : xH), OK (K a2 h) (fun q => Ph (some (xI q.1)) q.2) → Sx l z d mc ms M_Mo_common 152 [some (xR a0), some (xI a1), some (xI a2), none, none, none] [] h Ph) → Sx l z d mc ms M_Mo_common 54 [some (xR a0), some (xI a1), some (xI a2), none, none, none] [] h Ph := by
  intro n
  induction n with
  | zero => intro a2 h K hk hE; exact hk.no
  | succ n ih =>
    intro a2 h K hk hE
    rw [f_Mo_common_L54] at hk
    refine sx_iload_n dc_Mo_common_54 rfl ?_
    refine sx_aload_n dc_Mo_common_55 rfl ?_
    obtain ⟨g12, hk⟩ := hk.g
    refine sx_get (ci := 11) (k := 7) rfl (by decide) wF_Mo_23 g12 dc_Mo_common_56 ?_
    refine sx_icmp_ge (tgt := 152) dc_Mo_common_59 (by decide) (fun c13 => ?_) (fun c13 => ?_)
    · replace hk := hk.t c13
      exact hE a2 h hk
    · replace hk := hk.f c13
      refine sx_iconst (v := (0 : Int32)) dc_Mo_common_62 (by decide) ?_
      refine sx_istore_n dc_Mo_common_63 (by decide) (sx_eq (lc2 := [some (xR a0), some (xI a1), some (xI a2), some (xI (0 : Int32)), none, none]) rfl rfl ?_)
      refine t_Mo_common_L64 (by omega) _ _ _ _ hk (fun v32 h33 hk => ?_)
      refine sx_iinc (v := (1 : Int32)) dc_Mo_common_146 rfl (by decide) (by decide) (sx_eq (lc2 := [some (xR a0), some (xI a1), some (xI (a2 + (1 : Int32))), some (xI v32), none, none]) rfl rfl ?_)
      refine sx_goto (tgt := 54) dc_Mo_common_149 (by decide) ?_
      exact sx_less (by simp [x_le]) (ih (a2 + (1 : Int32)) h33 _ hk hE)
theorem t_Mo_common_L20 {l : Launch} {z : xZ} {d mc ms : Nat} {Ph : Option xV → xH → Prop} {a0 : Nat} {a1 : Int32}  (hd : 4 ≤ d) : ∀ (n : Nat) (a2 : Int32) (h : xH) (K : Int32 → xH → Option (Int32 × xH)), OK (f_Mo_common_L20 a0 a1 n a2 h K) (fun q => Ph (some (xI q.1)) q.2) → (∀ (a2 : Int32) (h : xH), OK (K a2 h) (fun q => Ph (some (xI q.1)) q.2) → Sx l z d mc ms M_Mo_common 50 [some (xR a0), some (xI a1), some (xI a2), none, none, none] [] h Ph) → Sx l z d mc ms M_Mo_common 20 [some (xR a0), some (xI a1), some (xI a2), none, none, none] [] h Ph := by
  intro n
  induction n with
  | zero => intro a2 h K hk hE; exact hk.no
  | succ n ih =>
    intro a2 h K hk hE
    rw [f_Mo_common_L20] at hk
    refine sx_iload_n dc_Mo_common_20 rfl ?_
    refine sx_aload_n dc_Mo_common_21 rfl ?_
    obtain ⟨g36, hk⟩ := hk.g
    refine sx_get (ci := 11) (k := 7) rfl (by decide) wF_Mo_23 g36 dc_Mo_common_22 ?_
    refine sx_icmp_ge (tgt := 50) dc_Mo_common_25 (by decide) (fun c37 => ?_) (fun c37 => ?_)
    · replace hk := hk.t c37
      exact hE a2 h hk
    · replace hk := hk.f c37
      refine sx_aload_n dc_Mo_common_28 rfl ?_
      refine sx_iload_n dc_Mo_common_29 rfl ?_
      obtain ⟨q38, eq38, hk⟩ := hk.bind
      refine sx_callV (d2 := d - 1) (mc2 := 0) (ms2 := 0) (as := [xI a2]) mk_Mo_degree rfl (x_rk (ci := 11) g36 rfl rfl) wM_Mo_260 mi_Mo_degree me_Mo_degree rfl (Nat.le_of_ble_eq_true rfl) (Nat.le_of_ble_eq_true rfl) dc_Mo_common_30 (by omega) (Nat.zero_le _) (Nat.zero_le _) ?_
      refine t_Mo_degree (by omega) ⟨q38, eq38, ?_⟩
      refine sx_eq0 (lc2 := [some (xR a0), some (xI a1), some (xI a2), none, none, none]) (st2 := [xI q38.1]) rfl rfl ?_
      refine sx_aload_n dc_Mo_common_33 rfl ?_
      obtain ⟨g39, hk⟩ := hk.g
      refine sx_get (ci := 11) (k := 7) rfl (by decide) wF_Mo_23 g39 dc_Mo_common_34 ?_
      refine sx_iconst (v := (1 : Int32)) dc_Mo_common_37 (by decide) ?_
      refine sx_isub dc_Mo_common_38 ?_
      refine sx_icmp_ne (tgt := 44) dc_Mo_common_39 (by decide) (fun c40 => ?_) (fun c40 => ?_)
      · replace hk := hk.f c40
        refine sx_iinc (v := (1 : Int32)) dc_Mo_common_44 rfl (by decide) (by decide) (sx_eq (lc2 := [some (xR a0), some (xI a1), some (xI (a2 + (1 : Int32))), none, none, none]) rfl rfl ?_)
        refine sx_goto (tgt := 20) dc_Mo_common_47 (by decide) ?_
        exact ih (a2 + (1 : Int32)) q38.2 _ hk hE
      · replace hk := hk.t c40
        refine sx_iload_n dc_Mo_common_42 rfl ?_
        exact sx_retI dc_Mo_common_43 rfl hk.val
theorem t_Mo_common {l : Launch} {z : xZ} {d mc ms : Nat} {Ph : Option xV → xH → Prop} {a0 : Nat} {a1 : Int32}  {h : xH} (hd : 4 ≤ d) (hk : OK (f_Mo_common a0 a1 h) (fun q => Ph (some (xI q.1)) q.2)) : Sx l z d mc ms M_Mo_common 0 (x_en [xR a0, xI a1] 6) [] h Ph := by
  unfold f_Mo_common at hk
  refine sx_eq (lc2 := [some (xR a0), some (xI a1), none, none, none, none]) rfl rfl ?_
  refine sx_iload_n dc_Mo_common_0 rfl ?_
  refine sx_i2l dc_Mo_common_1 ?_
  refine sx_lconst (v := 0) dc_Mo_common_2 (by decide) ?_
  refine sx_lconst (v := 1) dc_Mo_common_3 (by decide) ?_
  obtain ⟨q9, eq9, hk⟩ := hk.bind
  refine sx_callS (d2 := d - 1) (mc2 := 0) (ms2 := 0) (as := [xJ a1.toInt64, xJ (0 : Int64), xJ (1 : Int64)]) mk_Mo_in rfl wM_Mo_73 mt_Mo_in rfl (Nat.le_of_ble_eq_true rfl) (Nat.le_of_ble_eq_true rfl) dc_Mo_common_4 (by omega) (Nat.zero_le _) (Nat.zero_le _) ?_
  refine t_Mo_in (by omega) ⟨q9, eq9, ?_⟩
  refine sx_eq0 (lc2 := [some (xR a0), some (xI a1), none, none, none, none]) (st2 := [xI q9.1]) rfl rfl ?_
  refine sx_if_ne (tgt := 13) dc_Mo_common_7 (by decide) (fun c10 => ?_) (fun c10 => ?_)
  · replace hk := hk.f c10
    refine sx_iload_n dc_Mo_common_13 rfl ?_
    refine sx_iconst (v := (1 : Int32)) dc_Mo_common_14 (by decide) ?_
    refine sx_icmp_ne (tgt := 52) dc_Mo_common_15 (by decide) (fun c11 => ?_) (fun c11 => ?_)
    · replace hk := hk.f c11
      refine sx_iconst (v := (1 : Int32)) dc_Mo_common_52 (by decide) ?_
      refine sx_istore_n dc_Mo_common_53 (by decide) (sx_eq (lc2 := [some (xR a0), some (xI a1), some (xI (1 : Int32)), none, none, none]) rfl rfl ?_)
      refine t_Mo_common_L54 (by omega) _ _ _ _ hk (fun v34 h35 hk => ?_)
      refine sx_iconst (v := (1 : Int32)) dc_Mo_common_152 (by decide) ?_
      exact sx_retI dc_Mo_common_153 rfl hk.val
    · replace hk := hk.t c11
      refine sx_iconst (v := (0 : Int32)) dc_Mo_common_18 (by decide) ?_
      refine sx_istore_n dc_Mo_common_19 (by decide) (sx_eq (lc2 := [some (xR a0), some (xI a1), some (xI (0 : Int32)), none, none, none]) rfl rfl ?_)
      refine t_Mo_common_L20 (by omega) _ _ _ _ hk (fun v41 h42 hk => ?_)
      refine sx_iconst (v := (-1 : Int32)) dc_Mo_common_50 (by decide) ?_
      exact sx_retI dc_Mo_common_51 rfl hk.val
  · replace hk := hk.t c10
    refine sx_bipush (v := (-2 : Int32)) dc_Mo_common_10 (by decide) ?_
    exact sx_retI dc_Mo_common_12 rfl hk.val
theorem dc_Mo_without_0 : decode M_Mo_without.2.1 0 = .ok (.iload_n 1, 1) := by decide +kernel
theorem dc_Mo_without_1 : decode M_Mo_without.2.1 1 = .ok (.i2l, 1) := by decide +kernel
theorem dc_Mo_without_2 : decode M_Mo_without.2.1 2 = .ok (.lconst 1, 1) := by decide +kernel
theorem dc_Mo_without_3 : decode M_Mo_without.2.1 3 = .ok (.ldc2_w 106, 3) := by decide +kernel
theorem dc_Mo_without_6 : decode M_Mo_without.2.1 6 = .ok (.invokestatic 73, 3) := by decide +kernel
theorem dc_Mo_without_9 : decode M_Mo_without.2.1 9 = .ok (.ifCond .eq 13, 3) := by decide +kernel
theorem dc_Mo_without_12 : decode M_Mo_without.2.1 12 = .ok (.iload_n 2, 1) := by decide +kernel
theorem dc_Mo_without_13 : decode M_Mo_without.2.1 13 = .ok (.i2l, 1) := by decide +kernel
theorem dc_Mo_without_14 : decode M_Mo_without.2.1 14 = .ok (.lconst 0, 1) := by decide +kernel
theorem dc_Mo_without_15 : decode M_Mo_without.2.1 15 = .ok (.lconst 1, 1) := by decide +kernel
theorem dc_Mo_without_16 : decode M_Mo_without.2.1 16 = .ok (.invokestatic 73, 3) := by decide +kernel
theorem dc_Mo_without_19 : decode M_Mo_without.2.1 19 = .ok (.ifCond .ne 6, 3) := by decide +kernel
theorem dc_Mo_without_22 : decode M_Mo_without.2.1 22 = .ok (.bipush (-2), 2) := by decide +kernel
theorem dc_Mo_without_24 : decode M_Mo_without.2.1 24 = .ok (.ireturn, 1) := by decide +kernel
theorem dc_Mo_without_25 : decode M_Mo_without.2.1 25 = .ok (.iconst 0, 1) := by decide +kernel
theorem dc_Mo_without_26 : decode M_Mo_without.2.1 26 = .ok (.istore_n 3, 1) := by decide +kernel
theorem dc_Mo_without_27 : decode M_Mo_without.2.1 27 = .ok (.iconst (-1), 1) := by decide +kernel
theorem dc_Mo_without_28 : decode M_Mo_without.2.1 28 = .ok (.istore 4, 2) := by decide +kernel
theorem dc_Mo_without_30 : decode M_Mo_without.2.1 30 = .ok (.iconst 0, 1) := by decide +kernel
theorem dc_Mo_without_31 : decode M_Mo_without.2.1 31 = .ok (.istore 5, 2) := by decide +kernel
theorem dc_Mo_without_33 : decode M_Mo_without.2.1 33 = .ok (.iload 5, 2) := by decide +kernel
theorem dc_Mo_without_35 : decode M_Mo_without.2.1 35 = .ok (.iload_n 1, 1) := by decide +kernel
theorem dc_Mo_without_36 : decode M_Mo_without.2.1 36 = .ok (.invokestatic 90, 3) := by decide +kernel
theorem dc_Mo_without_39 : decode M_Mo_without.2.1 39 = .ok (.if_icmp .gt 157, 3) := by decide +kernel
theorem dc_Mo_without_42 : decode M_Mo_without.2.1 42 = .ok (.iconst 1, 1) := by decide +kernel
theorem dc_Mo_without_43 : decode M_Mo_without.2.1 43 = .ok (.istore 6, 2) := by decide +kernel
theorem dc_Mo_without_45 : decode M_Mo_without.2.1 45 = .ok (.iconst 0, 1) := by decide +kernel
theorem dc_Mo_without_46 : decode M_Mo_without.2.1 46 = .ok (.istore 7, 2) := by decide +kernel
theorem dc_Mo_without_48 : decode M_Mo_without.2.1 48 = .ok (.iload 7, 2) := by decide +kernel
theorem dc_Mo_without_50 : decode M_Mo_without.2.1 50 = .ok (.iload_n 1, 1) := by decide +kernel
theorem dc_Mo_without_51 : decode M_Mo_without.2.1 51 = .ok (.if_icmp .ge 116, 3) := by decide +kernel
theorem dc_Mo_without_54 : decode M_Mo_without.2.1 54 = .ok (.iload 6, 2) := by decide +kernel
theorem dc_Mo_without_56 : decode M_Mo_without.2.1 56 = .ok (.ifCond .eq 111, 3) := by decide +kernel
theorem dc_Mo_without_59 : decode M_Mo_without.2.1 59 = .ok (.iload 7, 2) := by decide +kernel
theorem dc_Mo_without_61 : decode M_Mo_without.2.1 61 = .ok (.iconst 1, 1) := by decide +kernel
theorem dc_Mo_without_62 : decode M_Mo_without.2.1 62 = .ok (.iadd, 1) := by decide +kernel
theorem dc_Mo_without_63 : decode M_Mo_without.2.1 63 = .ok (.istore 8, 2) := by decide +kernel
theorem dc_Mo_without_65 : decode M_Mo_without.2.1 65 = .ok (.iload 8, 2) := by decide +kernel
theorem dc_Mo_without_67 : decode M_Mo_without.2.1 67 = .ok (.iload_n 1, 1) := by decide +kernel
theorem dc_Mo_without_68 : decode M_Mo_without.2.1 68 = .ok (.if_icmp .ge 93, 3) := by decide +kernel
theorem dc_Mo_without_71 : decode M_Mo_without.2.1 71 = .ok (.iload 6, 2) := by decide +kernel
theorem dc_Mo_without_73 : decode M_Mo_without.2.1 73 = .ok (.ifCond .eq 88, 3) := by decide +kernel
theorem dc_Mo_without_76 : decode M_Mo_without.2.1 76 = .ok (.iload 8, 2) := by decide +kernel
theorem dc_Mo_without_78 : decode M_Mo_without.2.1 78 = .ok (.iconst 1, 1) := by decide +kernel
theorem dc_Mo_without_79 : decode M_Mo_without.2.1 79 = .ok (.iadd, 1) := by decide +kernel
theorem dc_Mo_without_80 : decode M_Mo_without.2.1 80 = .ok (.istore 9, 2) := by decide +kernel
theorem dc_Mo_without_82 : decode M_Mo_without.2.1 82 = .ok (.iload 9, 2) := by decide +kernel
theorem dc_Mo_without_84 : decode M_Mo_without.2.1 84 = .ok (.iload_n 1, 1) := by decide +kernel
theorem dc_Mo_without_85 : decode M_Mo_without.2.1 85 = .ok (.if_icmp .ge 70, 3) := by decide +kernel
theorem dc_Mo_without_88 : decode M_Mo_without.2.1 88 = .ok (.iload 6, 2) := by decide +kernel
theorem dc_Mo_without_90 : decode M_Mo_without.2.1 90 = .ok (.ifCond .eq 65, 3) := by decide +kernel
theorem dc_Mo_without_93 : decode M_Mo_without.2.1 93 = .ok (.iconst 1, 1) := by decide +kernel
theorem dc_Mo_without_94 : decode M_Mo_without.2.1 94 = .ok (.iload 7, 2) := by decide +kernel
theorem dc_Mo_without_96 : decode M_Mo_without.2.1 96 = .ok (.iload 8, 2) := by decide +kernel
theorem dc_Mo_without_98 : decode M_Mo_without.2.1 98 = .ok (.invokestatic 80, 3) := by decide +kernel
theorem dc_Mo_without_101 : decode M_Mo_without.2.1 101 = .ok (.ishl, 1) := by decide +kernel
theorem dc_Mo_without_102 : decode M_Mo_without.2.1 102 = .ok (.iconst 1, 1) := by decide +kernel
theorem dc_Mo_without_103 : decode M_Mo_without.2.1 103 = .ok (.iload 7, 2) := by decide +kernel
theorem dc_Mo_without_105 : decode M_Mo_without.2.1 105 = .ok (.iload 9, 2) := by decide +kernel
theorem dc_Mo_without_107 : decode M_Mo_without.2.1 107 = .ok (.invokestatic 80, 3) := by decide +kernel
theorem dc_Mo_without_110 : decode M_Mo_without.2.1 110 = .ok (.ishl, 1) := by decide +kernel
theorem dc_Mo_without_111 : decode M_Mo_without.2.1 111 = .ok (.ior, 1) := by decide +kernel
theorem dc_Mo_without_112 : decode M_Mo_without.2.1 112 = .ok (.iconst 1, 1) := by decide +kernel
theorem dc_Mo_without_113 : decode M_Mo_without.2.1 113 = .ok (.iload 8, 2) := by decide +kernel
theorem dc_Mo_without_115 : decode M_Mo_without.2.1 115 = .ok (.iload 9, 2) := by decide +kernel
theorem dc_Mo_without_117 : decode M_Mo_without.2.1 117 = .ok (.invokestatic 80, 3) := by decide +kernel
theorem dc_Mo_without_120 : decode M_Mo_without.2.1 120 = .ok (.ishl, 1) := by decide +kernel
theorem dc_Mo_without_121 : decode M_Mo_without.2.1 121 = .ok (.ior, 1) := by decide +kernel
theorem dc_Mo_without_122 : decode M_Mo_without.2.1 122 = .ok (.istore 10, 2) := by decide +kernel
theorem dc_Mo_without_124 : decode M_Mo_without.2.1 124 = .ok (.iload 5, 2) := by decide +kernel
theorem dc_Mo_without_126 : decode M_Mo_without.2.1 126 = .ok (.iload 10, 2) := by decide +kernel
theorem dc_Mo_without_128 : decode M_Mo_without.2.1 128 = .ok (.iand, 1) := by decide +kernel
theorem dc_Mo_without_129 : decode M_Mo_without.2.1 129 = .ok (.iload 10, 2) := by decide +kernel
theorem dc_Mo_without_131 : decode M_Mo_without.2.1 131 = .ok (.if_icmp .eq 15, 3) := by decide +kernel
theorem dc_Mo_without_134 : decode M_Mo_without.2.1 134 = .ok (.iload 5, 2) := by decide +kernel
theorem dc_Mo_without_136 : decode M_Mo_without.2.1 136 = .ok (.iload 10, 2) := by decide +kernel
theorem dc_Mo_without_138 : decode M_Mo_without.2.1 138 = .ok (.iand, 1) := by decide +kernel
theorem dc_Mo_without_139 : decode M_Mo_without.2.1 139 = .ok (.ifCond .eq 7, 3) := by decide +kernel
theorem dc_Mo_without_142 : decode M_Mo_without.2.1 142 = .ok (.iconst 1, 1) := by decide +kernel
theorem dc_Mo_without_143 : decode M_Mo_without.2.1 143 = .ok (.goto 4, 3) := by decide +kernel
theorem dc_Mo_without_146 : decode M_Mo_without.2.1 146 = .ok (.iconst 0, 1) := by decide +kernel
theorem dc_Mo_without_147 : decode M_Mo_without.2.1 147 = .ok (.istore 6, 2) := by decide +kernel
theorem dc_Mo_without_149 : decode M_Mo_without.2.1 149 = .ok (.iinc 9 1, 3) := by decide +kernel
theorem dc_Mo_without_152 : decode M_Mo_without.2.1 152 = .ok (.goto (-70), 3) := by decide +kernel
theorem dc_Mo_without_155 : decode M_Mo_without.2.1 155 = .ok (.iinc 8 1, 3) := by decide +kernel
theorem dc_Mo_without_158 : decode M_Mo_without.2.1 158 = .ok (.goto (-93), 3) := by decide +kernel
theorem dc_Mo_without_161 : decode M_Mo_without.2.1 161 = .ok (.iinc 7 1, 3) := by decide +kernel
theorem dc_Mo_without_164 : decode M_Mo_without.2.1 164 = .ok (.goto (-116), 3) := by decide +kernel
theorem dc_Mo_without_167 : decode M_Mo_without.2.1 167 = .ok (.iload 6, 2) := by decide +kernel
theorem dc_Mo_without_169 : decode M_Mo_without.2.1 169 = .ok (.ifCond .eq 21, 3) := by decide +kernel
theorem dc_Mo_without_172 : decode M_Mo_without.2.1 172 = .ok (.iinc 3 1, 3) := by decide +kernel
theorem dc_Mo_without_175 : decode M_Mo_without.2.1 175 = .ok (.iload 4, 2) := by decide +kernel
theorem dc_Mo_without_177 : decode M_Mo_without.2.1 177 = .ok (.iconst (-1), 1) := by decide +kernel
theorem dc_Mo_without_178 : decode M_Mo_without.2.1 178 = .ok (.if_icmp .ne 8, 3) := by decide +kernel
theorem dc_Mo_without_181 : decode M_Mo_without.2.1 181 = .ok (.iload 5, 2) := by decide +kernel
theorem dc_Mo_without_183 : decode M_Mo_without.2.1 183 = .ok (.goto 5, 3) := by decide +kernel
theorem dc_Mo_without_186 : decode M_Mo_without.2.1 186 = .ok (.iload 4, 2) := by decide +kernel
theorem dc_Mo_without_188 : decode M_Mo_without.2.1 188 = .ok (.istore 4, 2) := by decide +kernel
theorem dc_Mo_without_190 : decode M_Mo_without.2.1 190 = .ok (.iinc 5 1, 3) := by decide +kernel
theorem dc_Mo_without_193 : decode M_Mo_without.2.1 193 = .ok (.goto (-160), 3) := by decide +kernel
theorem dc_Mo_without_196 : decode M_Mo_without.2.1 196 = .ok (.iload_n 2, 1) := by decide +kernel
theorem dc_Mo_without_197 : decode M_Mo_without.2.1 197 = .ok (.ifCond .ne 7, 3) := by decide +kernel
theorem dc_Mo_without_200 : decode M_Mo_without.2.1 200 = .ok (.iload_n 3, 1) := by decide +kernel
theorem dc_Mo_without_201 : decode M_Mo_without.2.1 201 = .ok (.goto 5, 3) := by decide +kernel
theorem dc_Mo_without_204 : decode M_Mo_without.2.1 204 = .ok (.iload 4, 2) := by decide +kernel
theorem dc_Mo_without_206 : decode M_Mo_without.2.1 206 = .ok (.ireturn, 1) := by decide +kernel
def f_Mo_without_L82 (a0 : Nat) (a1 : Int32) (a2 : Int32) (a3 : Int32) (a4 : Int32) (a5 : Int32) (a7 : Int32) (a8 : Int32) : Nat → Int32 → Int32 → xH → (Int32 → Int32 → xH → Option (Int32 × xH)) → Option (Int32 × xH)
  | 0, _, _, _, _ => none
  | n + 1, a6, a9, h, K => if a1 ≤ a9 then K a6 a9 h else if a6 = 0 then K a6 a9 h else Option.bind (f_Mo_seat a7 a8 h) (fun q21 => Option.bind (f_Mo_seat a7 a9 q21.2) (fun q22 => Option.bind (f_Mo_seat a8 a9 q22.2) (fun q23 => jn (fun (x24 : Int32) => f_Mo_without_L82 a0 a1 a2 a3 a4 a5 a7 a8 n x24 (a9 + (1 : Int32)) q23.2 K) (fun k25 => jn (fun (x26 : Unit) => k25 (0 : Int32)) (fun k27 => if (a5 &&& (((jShl (1 : Int32) q21.1) ||| (jShl (1 : Int32) q22.1)) ||| (jShl (1 : Int32) q23.1))) = (((jShl (1 : Int32) q21.1) ||| (jShl (1 : Int32) q22.1)) ||| (jShl (1 : Int32) q23.1)) then k27 () else if (a5 &&& (((jShl (1 : Int32) q21.1) ||| (jShl (1 : Int32) q22.1)) ||| (jShl (1 : Int32) q23.1))) = 0 then k27 () else k25 (1 : Int32))))))
def f_Mo_without_L65 (a0 : Nat) (a1 : Int32) (a2 : Int32) (a3 : Int32) (a4 : Int32) (a5 : Int32) (a7 : Int32) : Nat → Int32 → Int32 → xH → (Int32 → Int32 → xH → Option (Int32 × xH)) → Option (Int32 × xH)
  | 0, _, _, _, _ => none
  | n + 1, a6, a8, h, K => if a1 ≤ a8 then K a6 a8 h else if a6 = 0 then K a6 a8 h else f_Mo_without_L82 a0 a1 a2 a3 a4 a5 a7 a8 fu a6 (a8 + (1 : Int32)) h (fun v30 v31 h32 => f_Mo_without_L65 a0 a1 a2 a3 a4 a5 a7 n v30 (a8 + (1 : Int32)) h32 K)
def f_Mo_without_L48 (a0 : Nat) (a1 : Int32) (a2 : Int32) (a3 : Int32) (a4 : Int32) (a5 : Int32) : Nat → Int32 → Int32 → xH → (Int32 → Int32 → xH → Option (Int32 × xH)) → Option (Int32 × xH)
  | 0, _, _, _, _ => none
  | n + 1, a6, a7, h, K => if a1 ≤ a7 then K a6 a7 h else if a6 = 0 then K a6 a7 h else f_Mo_without_L65 a0 a1 a2 a3 a4 a5 a7 fu a6 (a7 + (1 : Int32)) h (fun v33 v34 h35 => f_Mo_without_L48 a0 a1 a2 a3 a4 a5 n v33 (a7 + (1 : Int32)) h35 K)
def f_Mo_without_L33 (a0 : Nat) (a1 : Int32) (a2 : Int32) : Nat → Int32 → Int32 → Int32 → xH → (Int32 → Int32 → Int32 → xH → Option (Int32 × xH)) → Option (Int32 × xH)
  | 0, _, _, _, _, _ => none
  | n + 1, a3, a4, a5, h, K => Option.bind (f_Mo_allOf a1 h) (fun q13 => if q13.1 < a5 then K a3 a4 a5 q13.2 else f_Mo_without_L48 a0 a1 a2 a3 a4 a5 fu (1 : Int32) (0 : Int32) q13.2 (fun v36 v37 h38 => f_Mo_without_L33 a0 a1 a2 n (if v36 = 0 then a3 else a3 + (1 : Int32)) (if v36 = 0 then a4 else if a4 = (-1 : Int32) then a5 else a4) (a5 + (1 : Int32)) h38 K))
def f_Mo_without (a0 : Nat) (a1 : Int32) (a2 : Int32) (h : xH) : Option (Int32 × xH) := Option.bind (f_Mo_in a1.toInt64 (1 : Int64) (5 : Int64) h) (fun q7 => jn (fun (x8 : xH) => some ((-2 : Int32), x8)) (fun k9 => if q7.1 = 0 then k9 q7.2 else Option.bind (f_Mo_in a2.toInt64 (0 : Int64) (1 : Int64) q7.2) (fun q11 => if q11.1 = 0 then k9 q11.2 else f_Mo_without_L33 a0 a1 a2 fu (0 : Int32) (-1 : Int32) (0 : Int32) q11.2 (fun v42 v43 v44 h45 => some ((if a2 = 0 then v42 else v43), h45)))))
theorem t_Mo_without_L82 {l : Launch} {z : xZ} {d mc ms : Nat} {Ph : Option xV → xH → Prop} {a0 : Nat} {a1 : Int32} {a2 : Int32} {a3 : Int32} {a4 : Int32} {a5 : Int32} {a7 : Int32} {a8 : Int32}  (hd : 2 ≤ d) : ∀ (n : Nat) (a6 : Int32) (a9 : Int32) (h : xH) (K : Int32 → Int32 → xH → Option (Int32 × xH)), OK (f_Mo_without_L82 a0 a1 a2 a3 a4 a5 a7 a8 n a6 a9 h K) (fun q => Ph (some (xI q.1)) q.2) → (∀ (a6 : Int32) (a9 : Int32) (h : xH), OK (K a6 a9 h) (fun q => Ph (some (xI q.1)) q.2) → Sx l z d mc ms M_Mo_without 155 [some (xR a0), some (xI a1), some (xI a2), some (xI a3), some (xI a4), some (xI a5), some (xI a6), some (xI a7), some (xI a8), some (xI a9), none] [] h Ph) → Sx l z d mc ms M_Mo_without 82 [some (xR a0), some (xI a1), some (xI a2), some (xI a3), some (xI a4), some (xI a5), some (xI a6), some (xI a7), some (xI a8), some (xI a9), none] [] h Ph := by
  intro n
  induction n with
  | zero => intro a6 a9 h K hk hE; exact hk.no
  | succ n ih =>
    intro a6 a9 h K hk hE
    rw [f_Mo_without_L82] at hk
    refine sx_iload dc_Mo_without_82 rfl ?_
    refine sx_iload_n dc_Mo_without_84 rfl ?_
    refine sx_icmp_ge (tgt := 155) dc_Mo_without_85 (by decide) (fun c19 => ?_) (fun c19 => ?_)
    · replace hk := hk.t c19
      exact hE a6 a9 h hk
    · replace hk := hk.f c19
      refine sx_iload dc_Mo_without_88 rfl ?_
      refine sx_if_eq (tgt := 155) dc_Mo_without_90 (by decide) (fun c20 => ?_) (fun c20 => ?_)
      · replace hk := hk.t c20
        exact hE a6 a9 h hk
      · replace hk := hk.f c20
        refine sx_iconst (v := (1 : Int32)) dc_Mo_without_93 (by decide) ?_
        refine sx_iload dc_Mo_without_94 rfl ?_
        refine sx_iload dc_Mo_without_96 rfl ?_
        obtain ⟨q21, eq21, hk⟩ := hk.bind
        refine sx_callS (d2 := d - 1) (mc2 := 0) (ms2 := 0) (as := [xI a7, xI a8]) mk_Mo_seat rfl wM_Mo_80 mt_Mo_seat rfl (Nat.le_of_ble_eq_true rfl) (Nat.le_of_ble_eq_true rfl) dc_Mo_without_98 (by omega) (Nat.zero_le _) (Nat.zero_le _) ?_
        refine t_Mo_seat (by omega) ⟨q21, eq21, ?_⟩
        refine sx_eq0 (lc2 := [some (xR a0), some (xI a1), some (xI a2), some (xI a3), some (xI a4), some (xI a5), some (xI a6), some (xI a7), some (xI a8), some (xI a9), none]) (st2 := [xI q21.1, xI (1 : Int32)]) rfl rfl ?_
        refine sx_ishl dc_Mo_without_101 ?_
        refine sx_iconst (v := (1 : Int32)) dc_Mo_without_102 (by decide) ?_
        refine sx_iload dc_Mo_without_103 rfl ?_
        refine sx_iload dc_Mo_without_105 rfl ?_
        obtain ⟨q22, eq22, hk⟩ := hk.bind
        refine sx_callS (d2 := d - 1) (mc2 := 0) (ms2 := 0) (as := [xI a7, xI a9]) mk_Mo_seat rfl wM_Mo_80 mt_Mo_seat rfl (Nat.le_of_ble_eq_true rfl) (Nat.le_of_ble_eq_true rfl) dc_Mo_without_107 (by omega) (Nat.zero_le _) (Nat.zero_le _) ?_
        refine t_Mo_seat (by omega) ⟨q22, eq22, ?_⟩
        refine sx_eq0 (lc2 := [some (xR a0), some (xI a1), some (xI a2), some (xI a3), some (xI a4), some (xI a5), some (xI a6), some (xI a7), some (xI a8), some (xI a9), none]) (st2 := [xI q22.1, xI (1 : Int32), xI (jShl (1 : Int32) q21.1)]) rfl rfl ?_
        refine sx_ishl dc_Mo_without_110 ?_
        refine sx_ior dc_Mo_without_111 ?_
        refine sx_iconst (v := (1 : Int32)) dc_Mo_without_112 (by decide) ?_
        refine sx_iload dc_Mo_without_113 rfl ?_
        refine sx_iload dc_Mo_without_115 rfl ?_
        obtain ⟨q23, eq23, hk⟩ := hk.bind
        refine sx_callS (d2 := d - 1) (mc2 := 0) (ms2 := 0) (as := [xI a8, xI a9]) mk_Mo_seat rfl wM_Mo_80 mt_Mo_seat rfl (Nat.le_of_ble_eq_true rfl) (Nat.le_of_ble_eq_true rfl) dc_Mo_without_117 (by omega) (Nat.zero_le _) (Nat.zero_le _) ?_
        refine t_Mo_seat (by omega) ⟨q23, eq23, ?_⟩
        refine sx_eq0 (lc2 := [some (xR a0), some (xI a1), some (xI a2), some (xI a3), some (xI a4), some (xI a5), some (xI a6), some (xI a7), some (xI a8), some (xI a9), none]) (st2 := [xI q23.1, xI (1 : Int32), xI ((jShl (1 : Int32) q21.1) ||| (jShl (1 : Int32) q22.1))]) rfl rfl ?_
        refine sx_ishl dc_Mo_without_120 ?_
        refine sx_ior dc_Mo_without_121 ?_
        refine sx_istore dc_Mo_without_122 (by decide) (sx_eq (lc2 := [some (xR a0), some (xI a1), some (xI a2), some (xI a3), some (xI a4), some (xI a5), some (xI a6), some (xI a7), some (xI a8), some (xI a9), some (xI (((jShl (1 : Int32) q21.1) ||| (jShl (1 : Int32) q22.1)) ||| (jShl (1 : Int32) q23.1)))]) rfl rfl ?_)
        refine sx_iload dc_Mo_without_124 rfl ?_
        refine sx_iload dc_Mo_without_126 rfl ?_
        refine sx_iand dc_Mo_without_128 ?_
        refine sx_iload dc_Mo_without_129 rfl ?_
        refine hk.j (X := fun x24 => Sx l z d mc ms M_Mo_without 147 [some (xR a0), some (xI a1), some (xI a2), some (xI a3), some (xI a4), some (xI a5), some (xI a6), some (xI a7), some (xI a8), some (xI a9), some (xI (((jShl (1 : Int32) q21.1) ||| (jShl (1 : Int32) q22.1)) ||| (jShl (1 : Int32) q23.1)))] [xI x24] q23.2 Ph) (fun x24 hk => ?_) (fun k25 jk25 hk => ?_)
        · refine sx_istore dc_Mo_without_147 (by decide) (sx_eq (lc2 := [some (xR a0), some (xI a1), some (xI a2), some (xI a3), some (xI a4), some (xI a5), some (xI x24), some (xI a7), some (xI a8), some (xI a9), some (xI (((jShl (1 : Int32) q21.1) ||| (jShl (1 : Int32) q22.1)) ||| (jShl (1 : Int32) q23.1)))]) rfl rfl ?_)
          refine sx_iinc (v := (1 : Int32)) dc_Mo_without_149 rfl (by decide) (by decide) (sx_eq (lc2 := [some (xR a0), some (xI a1), some (xI a2), some (xI a3), some (xI a4), some (xI a5), some (xI x24), some (xI a7), some (xI a8), some (xI (a9 + (1 : Int32))), some (xI (((jShl (1 : Int32) q21.1) ||| (jShl (1 : Int32) q22.1)) ||| (jShl (1 : Int32) q23.1)))]) rfl rfl ?_)
          refine sx_goto (tgt := 82) dc_Mo_without_152 (by decide) ?_
          exact sx_less (by simp [x_le]) (ih x24 (a9 + (1 : Int32)) q23.2 _ hk hE)
        · refine hk.j (X := fun x26 => Sx l z d mc ms M_Mo_without 146 [some (xR a0), some (xI a1), some (xI a2), some (xI a3), some (xI a4), some (xI a5), some (xI a6), some (xI a7), some (xI a8), some (xI a9), some (xI (((jShl (1 : Int32) q21.1) ||| (jShl (1 : Int32) q22.1)) ||| (jShl (1 : Int32) q23.1)))] [] q23.2 Ph) (fun x26 hk => ?_) (fun k27 jk27 hk => ?_)
          · refine sx_iconst (v := (0 : Int32)) dc_Mo_without_146 (by decide) ?_
            exact jk25 (0 : Int32) hk
          · refine sx_icmp_eq (tgt := 146) dc_Mo_without_131 (by decide) (fun c28 => ?_) (fun c28 => ?_)
            · replace hk := hk.t c28
              exact jk27 () hk
            · replace hk := hk.f c28
              refine sx_iload dc_Mo_without_134 rfl ?_
              refine sx_iload dc_Mo_without_136 rfl ?_
              refine sx_iand dc_Mo_without_138 ?_
              refine sx_if_eq (tgt := 146) dc_Mo_without_139 (by decide) (fun c29 => ?_) (fun c29 => ?_)
              · replace hk := hk.t c29
                exact jk27 () hk
              · replace hk := hk.f c29
                refine sx_iconst (v := (1 : Int32)) dc_Mo_without_142 (by decide) ?_
                refine sx_goto (tgt := 147) dc_Mo_without_143 (by decide) ?_
                exact jk25 (1 : Int32) hk
theorem t_Mo_without_L65 {l : Launch} {z : xZ} {d mc ms : Nat} {Ph : Option xV → xH → Prop} {a0 : Nat} {a1 : Int32} {a2 : Int32} {a3 : Int32} {a4 : Int32} {a5 : Int32} {a7 : Int32}  (hd : 2 ≤ d) : ∀ (n : Nat) (a6 : Int32) (a8 : Int32) (h : xH) (K : Int32 → Int32 → xH → Option (Int32 × xH)), OK (f_Mo_without_L65 a0 a1 a2 a3 a4 a5 a7 n a6 a8 h K) (fun q => Ph (some (xI q.1)) q.2) → (∀ (a6 : Int32) (a8 : Int32) (h : xH), OK (K a6 a8 h) (fun q => Ph (some (xI q.1)) q.2) → Sx l z d mc ms M_Mo_without 161 [some (xR a0), some (xI a1), some (xI a2), some (xI a3), some (xI a4), some (xI a5), some (xI a6), some (xI a7), some (xI a8), none, none] [] h Ph) → Sx l z d mc ms M_Mo_without 65 [some (xR a0), some (xI a1), some (xI a2), some (xI a3), some (xI a4), some (xI a5), some (xI a6), some (xI a7), some (xI a8), none, none] [] h Ph := by
  intro n
  induction n with
  | zero => intro a6 a8 h K hk hE; exact hk.no
  | succ n ih =>
    intro a6 a8 h K hk hE
    rw [f_Mo_without_L65] at hk
    refine sx_iload dc_Mo_without_65 rfl ?_
    refine sx_iload_n dc_Mo_without_67 rfl ?_
    refine sx_icmp_ge (tgt := 161) dc_Mo_without_68 (by decide) (fun c17 => ?_) (fun c17 => ?_)
    · replace hk := hk.t c17
      exact hE a6 a8 h hk
    · replace hk := hk.f c17
      refine sx_iload dc_Mo_without_71 rfl ?_
      refine sx_if_eq (tgt := 161) dc_Mo_without_73 (by decide) (fun c18 => ?_) (fun c18 => ?_)
      · replace hk := hk.t c18
        exact hE a6 a8 h hk
      · replace hk := hk.f c18
        refine sx_iload dc_Mo_without_76 rfl ?_
        refine sx_iconst (v := (1 : Int32)) dc_Mo_without_78 (by decide) ?_
        refine sx_iadd dc_Mo_without_79 ?_
        refine sx_istore dc_Mo_without_80 (by decide) (sx_eq (lc2 := [some (xR a0), some (xI a1), some (xI a2), some (xI a3), some (xI a4), some (xI a5), some (xI a6), some (xI a7), some (xI a8), some (xI (a8 + (1 : Int32))), none]) rfl rfl ?_)
        refine t_Mo_without_L82 (by omega) _ _ _ _ _ hk (fun v30 v31 h32 hk => ?_)
        refine sx_iinc (v := (1 : Int32)) dc_Mo_without_155 rfl (by decide) (by decide) (sx_eq (lc2 := [some (xR a0), some (xI a1), some (xI a2), some (xI a3), some (xI a4), some (xI a5), some (xI v30), some (xI a7), some (xI (a8 + (1 : Int32))), some (xI v31), none]) rfl rfl ?_)
        refine sx_goto (tgt := 65) dc_Mo_without_158 (by decide) ?_
        exact sx_less (by simp [x_le]) (ih v30 (a8 + (1 : Int32)) h32 _ hk hE)
theorem t_Mo_without_L48 {l : Launch} {z : xZ} {d mc ms : Nat} {Ph : Option xV → xH → Prop} {a0 : Nat} {a1 : Int32} {a2 : Int32} {a3 : Int32} {a4 : Int32} {a5 : Int32}  (hd : 2 ≤ d) : ∀ (n : Nat) (a6 : Int32) (a7 : Int32) (h : xH) (K : Int32 → Int32 → xH → Option (Int32 × xH)), OK (f_Mo_without_L48 a0 a1 a2 a3 a4 a5 n a6 a7 h K) (fun q => Ph (some (xI q.1)) q.2) → (∀ (a6 : Int32) (a7 : Int32) (h : xH), OK (K a6 a7 h) (fun q => Ph (some (xI q.1)) q.2) → Sx l z d mc ms M_Mo_without 167 [some (xR a0), some (xI a1), some (xI a2), some (xI a3), some (xI a4), some (xI a5), some (xI a6), some (xI a7), none, none, none] [] h Ph) → Sx l z d mc ms M_Mo_without 48 [some (xR a0), some (xI a1), some (xI a2), some (xI a3), some (xI a4), some (xI a5), some (xI a6), some (xI a7), none, none, none] [] h Ph := by
  intro n
  induction n with
  | zero => intro a6 a7 h K hk hE; exact hk.no
  | succ n ih =>
    intro a6 a7 h K hk hE
    rw [f_Mo_without_L48] at hk
    refine sx_iload dc_Mo_without_48 rfl ?_
    refine sx_iload_n dc_Mo_without_50 rfl ?_
    refine sx_icmp_ge (tgt := 167) dc_Mo_without_51 (by decide) (fun c15 => ?_) (fun c15 => ?_)
    · replace hk := hk.t c15
      exact hE a6 a7 h hk
    · replace hk := hk.f c15
      refine sx_iload dc_Mo_without_54 rfl ?_
      refine sx_if_eq (tgt := 167) dc_Mo_without_56 (by decide) (fun c16 => ?_) (fun c16 => ?_)
      · replace hk := hk.t c16
        exact hE a6 a7 h hk
      · replace hk := hk.f c16
        refine sx_iload dc_Mo_without_59 rfl ?_
        refine sx_iconst (v := (1 : Int32)) dc_Mo_without_61 (by decide) ?_
        refine sx_iadd dc_Mo_without_62 ?_
        refine sx_istore dc_Mo_without_63 (by decide) (sx_eq (lc2 := [some (xR a0), some (xI a1), some (xI a2), some (xI a3), some (xI a4), some (xI a5), some (xI a6), some (xI a7), some (xI (a7 + (1 : Int32))), none, none]) rfl rfl ?_)
        refine t_Mo_without_L65 (by omega) _ _ _ _ _ hk (fun v33 v34 h35 hk => ?_)
        refine sx_iinc (v := (1 : Int32)) dc_Mo_without_161 rfl (by decide) (by decide) (sx_eq (lc2 := [some (xR a0), some (xI a1), some (xI a2), some (xI a3), some (xI a4), some (xI a5), some (xI v33), some (xI (a7 + (1 : Int32))), some (xI v34), none, none]) rfl rfl ?_)
        refine sx_goto (tgt := 48) dc_Mo_without_164 (by decide) ?_
        exact sx_less (by simp [x_le]) (ih v33 (a7 + (1 : Int32)) h35 _ hk hE)
theorem t_Mo_without_L33 {l : Launch} {z : xZ} {d mc ms : Nat} {Ph : Option xV → xH → Prop} {a0 : Nat} {a1 : Int32} {a2 : Int32}  (hd : 2 ≤ d) : ∀ (n : Nat) (a3 : Int32) (a4 : Int32) (a5 : Int32) (h : xH) (K : Int32 → Int32 → Int32 → xH → Option (Int32 × xH)), OK (f_Mo_without_L33 a0 a1 a2 n a3 a4 a5 h K) (fun q => Ph (some (xI q.1)) q.2) → (∀ (a3 : Int32) (a4 : Int32) (a5 : Int32) (h : xH), OK (K a3 a4 a5 h) (fun q => Ph (some (xI q.1)) q.2) → Sx l z d mc ms M_Mo_without 196 [some (xR a0), some (xI a1), some (xI a2), some (xI a3), some (xI a4), some (xI a5), none, none, none, none, none] [] h Ph) → Sx l z d mc ms M_Mo_without 33 [some (xR a0), some (xI a1), some (xI a2), some (xI a3), some (xI a4), some (xI a5), none, none, none, none, none] [] h Ph := by
  intro n
  induction n with
  | zero => intro a3 a4 a5 h K hk hE; exact hk.no
  | succ n ih =>
    intro a3 a4 a5 h K hk hE
    rw [f_Mo_without_L33] at hk
    refine sx_iload dc_Mo_without_33 rfl ?_
    refine sx_iload_n dc_Mo_without_35 rfl ?_
    obtain ⟨q13, eq13, hk⟩ := hk.bind
    refine sx_callS (d2 := d - 1) (mc2 := 0) (ms2 := 0) (as := [xI a1]) mk_Mo_allOf rfl wM_Mo_90 mt_Mo_allOf rfl (Nat.le_of_ble_eq_true rfl) (Nat.le_of_ble_eq_true rfl) dc_Mo_without_36 (by omega) (Nat.zero_le _) (Nat.zero_le _) ?_
    refine t_Mo_allOf (by omega) ⟨q13, eq13, ?_⟩
    refine sx_eq0 (lc2 := [some (xR a0), some (xI a1), some (xI a2), some (xI a3), some (xI a4), some (xI a5), none, none, none, none, none]) (st2 := [xI q13.1, xI a5]) rfl rfl ?_
    refine sx_icmp_gt (tgt := 196) dc_Mo_without_39 (by decide) (fun c14 => ?_) (fun c14 => ?_)
    · replace hk := hk.t c14
      exact hE a3 a4 a5 q13.2 hk
    · replace hk := hk.f c14
      refine sx_iconst (v := (1 : Int32)) dc_Mo_without_42 (by decide) ?_
      refine sx_istore dc_Mo_without_43 (by decide) (sx_eq (lc2 := [some (xR a0), some (xI a1), some (xI a2), some (xI a3), some (xI a4), some (xI a5), some (xI (1 : Int32)), none, none, none, none]) rfl rfl ?_)
      refine sx_iconst (v := (0 : Int32)) dc_Mo_without_45 (by decide) ?_
      refine sx_istore dc_Mo_without_46 (by decide) (sx_eq (lc2 := [some (xR a0), some (xI a1), some (xI a2), some (xI a3), some (xI a4), some (xI a5), some (xI (1 : Int32)), some (xI (0 : Int32)), none, none, none]) rfl rfl ?_)
      refine t_Mo_without_L48 (by omega) _ _ _ _ _ hk (fun v36 v37 h38 hk => ?_)
      refine sx_iload dc_Mo_without_167 rfl ?_
      refine sx_mg (pc2 := 190) (lc2 := [some (xR a0), some (xI a1), some (xI a2), some (xI (if v36 = 0 then a3 else a3 + (1 : Int32))), some (xI (if v36 = 0 then a4 else if a4 = (-1 : Int32) then a5 else a4)), some (xI a5), some (xI v36), some (xI v37), none, none, none]) (st2 := []) (h2 := h38) ?_ (fun J39 => ?_)
      · refine sx_iinc (v := (1 : Int32)) dc_Mo_without_190 rfl (by decide) (by decide) (sx_eq (lc2 := [some (xR a0), some (xI a1), some (xI a2), some (xI (if v36 = 0 then a3 else a3 + (1 : Int32))), some (xI (if v36 = 0 then a4 else if a4 = (-1 : Int32) then a5 else a4)), some (xI (a5 + (1 : Int32))), some (xI v36), some (xI v37), none, none, none]) rfl rfl ?_)
        refine sx_goto (tgt := 33) dc_Mo_without_193 (by decide) ?_
        exact sx_less (by simp [x_le]) (ih (if v36 = 0 then a3 else a3 + (1 : Int32)) (if v36 = 0 then a4 else if a4 = (-1 : Int32) then a5 else a4) (a5 + (1 : Int32)) h38 _ hk hE)
      · refine sx_if_eq (tgt := 190) dc_Mo_without_169 (by decide) (fun c40 => ?_) (fun c40 => ?_)
        · try simp only [if_pos c40] at J39
          exact J39
        · try simp only [if_neg c40] at J39
          refine sx_iinc (v := (1 : Int32)) dc_Mo_without_172 rfl (by decide) (by decide) (sx_eq (lc2 := [some (xR a0), some (xI a1), some (xI a2), some (xI (a3 + (1 : Int32))), some (xI a4), some (xI a5), some (xI v36), some (xI v37), none, none, none]) rfl rfl ?_)
          refine sx_iload dc_Mo_without_175 rfl ?_
          refine sx_iconst (v := (-1 : Int32)) dc_Mo_without_177 (by decide) ?_
          refine sx_icmp_ne (tgt := 186) dc_Mo_without_178 (by decide) (fun c41 => ?_) (fun c41 => ?_)
          · try simp only [if_neg c41] at J39
            refine sx_iload dc_Mo_without_186 rfl ?_
            refine sx_istore dc_Mo_without_188 (by decide) (sx_eq (lc2 := [some (xR a0), some (xI a1), some (xI a2), some (xI (a3 + (1 : Int32))), some (xI a4), some (xI a5), some (xI v36), some (xI v37), none, none, none]) rfl rfl ?_)
            exact J39
          · try simp only [if_pos c41] at J39
            refine sx_iload dc_Mo_without_181 rfl ?_
            refine sx_goto (tgt := 188) dc_Mo_without_183 (by decide) ?_
            refine sx_istore dc_Mo_without_188 (by decide) (sx_eq (lc2 := [some (xR a0), some (xI a1), some (xI a2), some (xI (a3 + (1 : Int32))), some (xI a5), some (xI a5), some (xI v36), some (xI v37), none, none, none]) rfl rfl ?_)
            exact J39
theorem t_Mo_without {l : Launch} {z : xZ} {d mc ms : Nat} {Ph : Option xV → xH → Prop} {a0 : Nat} {a1 : Int32} {a2 : Int32}  {h : xH} (hd : 2 ≤ d) (hk : OK (f_Mo_without a0 a1 a2 h) (fun q => Ph (some (xI q.1)) q.2)) : Sx l z d mc ms M_Mo_without 0 (x_en [xR a0, xI a1, xI a2] 11) [] h Ph := by
  unfold f_Mo_without at hk
  refine sx_eq (lc2 := [some (xR a0), some (xI a1), some (xI a2), none, none, none, none, none, none, none, none]) rfl rfl ?_
  refine sx_iload_n dc_Mo_without_0 rfl ?_
  refine sx_i2l dc_Mo_without_1 ?_
  refine sx_lconst (v := 1) dc_Mo_without_2 (by decide) ?_
  refine sx_ldc2 (v := 5) wJ_Mo_106 dc_Mo_without_3 ?_
  obtain ⟨q7, eq7, hk⟩ := hk.bind
  refine sx_callS (d2 := d - 1) (mc2 := 0) (ms2 := 0) (as := [xJ a1.toInt64, xJ (1 : Int64), xJ (5 : Int64)]) mk_Mo_in rfl wM_Mo_73 mt_Mo_in rfl (Nat.le_of_ble_eq_true rfl) (Nat.le_of_ble_eq_true rfl) dc_Mo_without_6 (by omega) (Nat.zero_le _) (Nat.zero_le _) ?_
  refine t_Mo_in (by omega) ⟨q7, eq7, ?_⟩
  refine sx_eq0 (lc2 := [some (xR a0), some (xI a1), some (xI a2), none, none, none, none, none, none, none, none]) (st2 := [xI q7.1]) rfl rfl ?_
  refine hk.j (X := fun x8 => Sx l z d mc ms M_Mo_without 22 [some (xR a0), some (xI a1), some (xI a2), none, none, none, none, none, none, none, none] [] x8 Ph) (fun x8 hk => ?_) (fun k9 jk9 hk => ?_)
  · refine sx_bipush (v := (-2 : Int32)) dc_Mo_without_22 (by decide) ?_
    exact sx_retI dc_Mo_without_24 rfl hk.val
  · refine sx_if_eq (tgt := 22) dc_Mo_without_9 (by decide) (fun c10 => ?_) (fun c10 => ?_)
    · replace hk := hk.t c10
      exact jk9 q7.2 hk
    · replace hk := hk.f c10
      refine sx_iload_n dc_Mo_without_12 rfl ?_
      refine sx_i2l dc_Mo_without_13 ?_
      refine sx_lconst (v := 0) dc_Mo_without_14 (by decide) ?_
      refine sx_lconst (v := 1) dc_Mo_without_15 (by decide) ?_
      obtain ⟨q11, eq11, hk⟩ := hk.bind
      refine sx_callS (d2 := d - 1) (mc2 := 0) (ms2 := 0) (as := [xJ a2.toInt64, xJ (0 : Int64), xJ (1 : Int64)]) mk_Mo_in rfl wM_Mo_73 mt_Mo_in rfl (Nat.le_of_ble_eq_true rfl) (Nat.le_of_ble_eq_true rfl) dc_Mo_without_16 (by omega) (Nat.zero_le _) (Nat.zero_le _) ?_
      refine t_Mo_in (by omega) ⟨q11, eq11, ?_⟩
      refine sx_eq0 (lc2 := [some (xR a0), some (xI a1), some (xI a2), none, none, none, none, none, none, none, none]) (st2 := [xI q11.1]) rfl rfl ?_
      refine sx_if_ne (tgt := 25) dc_Mo_without_19 (by decide) (fun c12 => ?_) (fun c12 => ?_)
      · replace hk := hk.f c12
        refine sx_iconst (v := (0 : Int32)) dc_Mo_without_25 (by decide) ?_
        refine sx_istore_n dc_Mo_without_26 (by decide) (sx_eq (lc2 := [some (xR a0), some (xI a1), some (xI a2), some (xI (0 : Int32)), none, none, none, none, none, none, none]) rfl rfl ?_)
        refine sx_iconst (v := (-1 : Int32)) dc_Mo_without_27 (by decide) ?_
        refine sx_istore dc_Mo_without_28 (by decide) (sx_eq (lc2 := [some (xR a0), some (xI a1), some (xI a2), some (xI (0 : Int32)), some (xI (-1 : Int32)), none, none, none, none, none, none]) rfl rfl ?_)
        refine sx_iconst (v := (0 : Int32)) dc_Mo_without_30 (by decide) ?_
        refine sx_istore dc_Mo_without_31 (by decide) (sx_eq (lc2 := [some (xR a0), some (xI a1), some (xI a2), some (xI (0 : Int32)), some (xI (-1 : Int32)), some (xI (0 : Int32)), none, none, none, none, none]) rfl rfl ?_)
        refine t_Mo_without_L33 (by omega) _ _ _ _ _ _ hk (fun v42 v43 v44 h45 hk => ?_)
        refine sx_iload_n dc_Mo_without_196 rfl ?_
        refine sx_mg (pc2 := 206) (lc2 := [some (xR a0), some (xI a1), some (xI a2), some (xI v42), some (xI v43), some (xI v44), none, none, none, none, none]) (st2 := [xI (if a2 = 0 then v42 else v43)]) (h2 := h45) ?_ (fun J46 => ?_)
        · exact sx_retI dc_Mo_without_206 rfl hk.val
        · refine sx_if_ne (tgt := 204) dc_Mo_without_197 (by decide) (fun c47 => ?_) (fun c47 => ?_)
          · try simp only [if_neg c47] at J46
            refine sx_iload dc_Mo_without_204 rfl ?_
            exact J46
          · try simp only [if_pos c47] at J46
            refine sx_iload_n dc_Mo_without_200 rfl ?_
            refine sx_goto (tgt := 206) dc_Mo_without_201 (by decide) ?_
            exact J46
      · replace hk := hk.t c12
        exact jk9 q11.2 hk
theorem dc_Mo_unseen_0 : decode M_Mo_unseen.2.1 0 = .ok (.aload_n 0, 1) := by decide +kernel
theorem dc_Mo_unseen_1 : decode M_Mo_unseen.2.1 1 = .ok (.getfield 23, 3) := by decide +kernel
theorem dc_Mo_unseen_4 : decode M_Mo_unseen.2.1 4 = .ok (.invokestatic 90, 3) := by decide +kernel
theorem dc_Mo_unseen_7 : decode M_Mo_unseen.2.1 7 = .ok (.aload_n 0, 1) := by decide +kernel
theorem dc_Mo_unseen_8 : decode M_Mo_unseen.2.1 8 = .ok (.getfield 26, 3) := by decide +kernel
theorem dc_Mo_unseen_11 : decode M_Mo_unseen.2.1 11 = .ok (.iconst (-1), 1) := by decide +kernel
theorem dc_Mo_unseen_12 : decode M_Mo_unseen.2.1 12 = .ok (.ixor, 1) := by decide +kernel
theorem dc_Mo_unseen_13 : decode M_Mo_unseen.2.1 13 = .ok (.iand, 1) := by decide +kernel
theorem dc_Mo_unseen_14 : decode M_Mo_unseen.2.1 14 = .ok (.ireturn, 1) := by decide +kernel
def f_Mo_unseen (a0 : Nat) (h : xH) : Option (Int32 × xH) := gd (hK h a0 = 11) (Option.bind (f_Mo_allOf (hI h a0 7) h) (fun q5 => gd (hK q5.2 a0 = 11) (some (q5.1 &&& ((hI q5.2 a0 9) ^^^ (-1 : Int32)), q5.2))))
theorem t_Mo_unseen {l : Launch} {z : xZ} {d mc ms : Nat} {Ph : Option xV → xH → Prop} {a0 : Nat}  {h : xH} (hd : 2 ≤ d) (hk : OK (f_Mo_unseen a0 h) (fun q => Ph (some (xI q.1)) q.2)) : Sx l z d mc ms M_Mo_unseen 0 (x_en [xR a0] 1) [] h Ph := by
  unfold f_Mo_unseen at hk
  refine sx_eq (lc2 := [some (xR a0)]) rfl rfl ?_
  refine sx_aload_n dc_Mo_unseen_0 rfl ?_
  obtain ⟨g4, hk⟩ := hk.g
  refine sx_get (ci := 11) (k := 7) rfl (by decide) wF_Mo_23 g4 dc_Mo_unseen_1 ?_
  obtain ⟨q5, eq5, hk⟩ := hk.bind
  refine sx_callS (d2 := d - 1) (mc2 := 0) (ms2 := 0) (as := [xI (hI h a0 7)]) mk_Mo_allOf rfl wM_Mo_90 mt_Mo_allOf rfl (Nat.le_of_ble_eq_true rfl) (Nat.le_of_ble_eq_true rfl) dc_Mo_unseen_4 (by omega) (Nat.zero_le _) (Nat.zero_le _) ?_
  refine t_Mo_allOf (by omega) ⟨q5, eq5, ?_⟩
  refine sx_eq0 (lc2 := [some (xR a0)]) (st2 := [xI q5.1]) rfl rfl ?_
  refine sx_aload_n dc_Mo_unseen_7 rfl ?_
  obtain ⟨g6, hk⟩ := hk.g
  refine sx_get (ci := 11) (k := 9) rfl (by decide) wF_Mo_26 g6 dc_Mo_unseen_8 ?_
  refine sx_iconst (v := (-1 : Int32)) dc_Mo_unseen_11 (by decide) ?_
  refine sx_ixor dc_Mo_unseen_12 ?_
  refine sx_iand dc_Mo_unseen_13 ?_
  exact sx_retI dc_Mo_unseen_14 rfl hk.val
theorem dc_Mo_waysWithout_0 : decode M_Mo_waysWithout.2.1 0 = .ok (.aload_n 0, 1) := by decide +kernel
theorem dc_Mo_waysWithout_1 : decode M_Mo_waysWithout.2.1 1 = .ok (.invokevirtual 263, 3) := by decide +kernel
theorem dc_Mo_waysWithout_4 : decode M_Mo_waysWithout.2.1 4 = .ok (.aload_n 0, 1) := by decide +kernel
theorem dc_Mo_waysWithout_5 : decode M_Mo_waysWithout.2.1 5 = .ok (.invokevirtual 304, 3) := by decide +kernel
theorem dc_Mo_waysWithout_8 : decode M_Mo_waysWithout.2.1 8 = .ok (.istore_n 1, 1) := by decide +kernel
theorem dc_Mo_waysWithout_9 : decode M_Mo_waysWithout.2.1 9 = .ok (.iconst 0, 1) := by decide +kernel
theorem dc_Mo_waysWithout_10 : decode M_Mo_waysWithout.2.1 10 = .ok (.istore_n 2, 1) := by decide +kernel
theorem dc_Mo_waysWithout_11 : decode M_Mo_waysWithout.2.1 11 = .ok (.aload_n 0, 1) := by decide +kernel
theorem dc_Mo_waysWithout_12 : decode M_Mo_waysWithout.2.1 12 = .ok (.iconst 0, 1) := by decide +kernel
theorem dc_Mo_waysWithout_13 : decode M_Mo_waysWithout.2.1 13 = .ok (.putfield 307, 3) := by decide +kernel
theorem dc_Mo_waysWithout_16 : decode M_Mo_waysWithout.2.1 16 = .ok (.iload_n 1, 1) := by decide +kernel
theorem dc_Mo_waysWithout_17 : decode M_Mo_waysWithout.2.1 17 = .ok (.istore_n 3, 1) := by decide +kernel
theorem dc_Mo_waysWithout_18 : decode M_Mo_waysWithout.2.1 18 = .ok (.iconst 1, 1) := by decide +kernel
theorem dc_Mo_waysWithout_19 : decode M_Mo_waysWithout.2.1 19 = .ok (.istore 4, 2) := by decide +kernel
theorem dc_Mo_waysWithout_21 : decode M_Mo_waysWithout.2.1 21 = .ok (.iload 4, 2) := by decide +kernel
theorem dc_Mo_waysWithout_23 : decode M_Mo_waysWithout.2.1 23 = .ok (.ifCond .eq 77, 3) := by decide +kernel
theorem dc_Mo_waysWithout_26 : decode M_Mo_waysWithout.2.1 26 = .ok (.aload_n 0, 1) := by decide +kernel
theorem dc_Mo_waysWithout_27 : decode M_Mo_waysWithout.2.1 27 = .ok (.aload_n 0, 1) := by decide +kernel
theorem dc_Mo_waysWithout_28 : decode M_Mo_waysWithout.2.1 28 = .ok (.getfield 77, 3) := by decide +kernel
theorem dc_Mo_waysWithout_31 : decode M_Mo_waysWithout.2.1 31 = .ok (.iload_n 3, 1) := by decide +kernel
theorem dc_Mo_waysWithout_32 : decode M_Mo_waysWithout.2.1 32 = .ok (.ior, 1) := by decide +kernel
theorem dc_Mo_waysWithout_33 : decode M_Mo_waysWithout.2.1 33 = .ok (.aload_n 0, 1) := by decide +kernel
theorem dc_Mo_waysWithout_34 : decode M_Mo_waysWithout.2.1 34 = .ok (.getfield 23, 3) := by decide +kernel
theorem dc_Mo_waysWithout_37 : decode M_Mo_waysWithout.2.1 37 = .ok (.invokestatic 90, 3) := by decide +kernel
theorem dc_Mo_waysWithout_40 : decode M_Mo_waysWithout.2.1 40 = .ok (.invokevirtual 284, 3) := by decide +kernel
theorem dc_Mo_waysWithout_43 : decode M_Mo_waysWithout.2.1 43 = .ok (.istore 5, 2) := by decide +kernel
theorem dc_Mo_waysWithout_45 : decode M_Mo_waysWithout.2.1 45 = .ok (.iload_n 2, 1) := by decide +kernel
theorem dc_Mo_waysWithout_46 : decode M_Mo_waysWithout.2.1 46 = .ok (.iload 5, 2) := by decide +kernel
theorem dc_Mo_waysWithout_48 : decode M_Mo_waysWithout.2.1 48 = .ok (.ifCond .ne 7, 3) := by decide +kernel
theorem dc_Mo_waysWithout_51 : decode M_Mo_waysWithout.2.1 51 = .ok (.iconst 1, 1) := by decide +kernel
theorem dc_Mo_waysWithout_52 : decode M_Mo_waysWithout.2.1 52 = .ok (.goto 4, 3) := by decide +kernel
theorem dc_Mo_waysWithout_55 : decode M_Mo_waysWithout.2.1 55 = .ok (.iconst 0, 1) := by decide +kernel
theorem dc_Mo_waysWithout_56 : decode M_Mo_waysWithout.2.1 56 = .ok (.iadd, 1) := by decide +kernel
theorem dc_Mo_waysWithout_57 : decode M_Mo_waysWithout.2.1 57 = .ok (.istore_n 2, 1) := by decide +kernel
theorem dc_Mo_waysWithout_58 : decode M_Mo_waysWithout.2.1 58 = .ok (.aload_n 0, 1) := by decide +kernel
theorem dc_Mo_waysWithout_59 : decode M_Mo_waysWithout.2.1 59 = .ok (.iload 5, 2) := by decide +kernel
theorem dc_Mo_waysWithout_61 : decode M_Mo_waysWithout.2.1 61 = .ok (.aload_n 0, 1) := by decide +kernel
theorem dc_Mo_waysWithout_62 : decode M_Mo_waysWithout.2.1 62 = .ok (.getfield 307, 3) := by decide +kernel
theorem dc_Mo_waysWithout_65 : decode M_Mo_waysWithout.2.1 65 = .ok (.if_icmp .le 8, 3) := by decide +kernel
theorem dc_Mo_waysWithout_68 : decode M_Mo_waysWithout.2.1 68 = .ok (.iload 5, 2) := by decide +kernel
theorem dc_Mo_waysWithout_70 : decode M_Mo_waysWithout.2.1 70 = .ok (.goto 7, 3) := by decide +kernel
theorem dc_Mo_waysWithout_73 : decode M_Mo_waysWithout.2.1 73 = .ok (.aload_n 0, 1) := by decide +kernel
theorem dc_Mo_waysWithout_74 : decode M_Mo_waysWithout.2.1 74 = .ok (.getfield 307, 3) := by decide +kernel
theorem dc_Mo_waysWithout_77 : decode M_Mo_waysWithout.2.1 77 = .ok (.putfield 307, 3) := by decide +kernel
theorem dc_Mo_waysWithout_80 : decode M_Mo_waysWithout.2.1 80 = .ok (.iload_n 3, 1) := by decide +kernel
theorem dc_Mo_waysWithout_81 : decode M_Mo_waysWithout.2.1 81 = .ok (.ifCond .eq 7, 3) := by decide +kernel
theorem dc_Mo_waysWithout_84 : decode M_Mo_waysWithout.2.1 84 = .ok (.iconst 1, 1) := by decide +kernel
theorem dc_Mo_waysWithout_85 : decode M_Mo_waysWithout.2.1 85 = .ok (.goto 4, 3) := by decide +kernel
theorem dc_Mo_waysWithout_88 : decode M_Mo_waysWithout.2.1 88 = .ok (.iconst 0, 1) := by decide +kernel
theorem dc_Mo_waysWithout_89 : decode M_Mo_waysWithout.2.1 89 = .ok (.istore 4, 2) := by decide +kernel
theorem dc_Mo_waysWithout_91 : decode M_Mo_waysWithout.2.1 91 = .ok (.iload_n 3, 1) := by decide +kernel
theorem dc_Mo_waysWithout_92 : decode M_Mo_waysWithout.2.1 92 = .ok (.iconst 1, 1) := by decide +kernel
theorem dc_Mo_waysWithout_93 : decode M_Mo_waysWithout.2.1 93 = .ok (.isub, 1) := by decide +kernel
theorem dc_Mo_waysWithout_94 : decode M_Mo_waysWithout.2.1 94 = .ok (.iload_n 1, 1) := by decide +kernel
theorem dc_Mo_waysWithout_95 : decode M_Mo_waysWithout.2.1 95 = .ok (.iand, 1) := by decide +kernel
theorem dc_Mo_waysWithout_96 : decode M_Mo_waysWithout.2.1 96 = .ok (.istore_n 3, 1) := by decide +kernel
theorem dc_Mo_waysWithout_97 : decode M_Mo_waysWithout.2.1 97 = .ok (.goto (-76), 3) := by decide +kernel
theorem dc_Mo_waysWithout_100 : decode M_Mo_waysWithout.2.1 100 = .ok (.iload_n 2, 1) := by decide +kernel
theorem dc_Mo_waysWithout_101 : decode M_Mo_waysWithout.2.1 101 = .ok (.ireturn, 1) := by decide +kernel
def f_Mo_waysWithout_L21 (a0 : Nat) (a1 : Int32) : Nat → Int32 → Int32 → Int32 → xH → (Int32 → Int32 → Int32 → xH → Option (Int32 × xH)) → Option (Int32 × xH)
  | 0, _, _, _, _, _ => none
  | n + 1, a2, a3, a4, h, K => if a4 = 0 then K a2 a3 a4 h else gd (hK h a0 = 11) (Option.bind (f_Mo_allOf (hI h a0 7) h) (fun q17 => gd (hK q17.2 a0 = 11) (Option.bind (f_Mo_allThrees a0 ((hI h a0 8) ||| a3) q17.1 q17.2) (fun q18 => gd (hK q18.2 a0 = 11) (jn (fun (x23 : Int32) => f_Mo_waysWithout_L21 a0 a1 n (a2 + (if q18.1 = 0 then (1 : Int32) else (0 : Int32))) ((a3 - (1 : Int32)) &&& a1) (if a3 = 0 then (0 : Int32) else (1 : Int32)) (hIu q18.2 a0 36 x23) K) (fun k24 => if q18.1 ≤ (hI q18.2 a0 36) then k24 (hI q18.2 a0 36) else k24 q18.1))))))
def f_Mo_waysWithout (a0 : Nat) (h : xH) : Option (Int32 × xH) := gd (hK h a0 = 11) (Option.bind (f_Mo_gathers a0 h) (fun q10 => gd (hK q10.2 a0 = 11) (Option.bind (f_Mo_unseen a0 q10.2) (fun q12 => gd (hK q12.2 a0 = 11) (f_Mo_waysWithout_L21 a0 q12.1 fu (0 : Int32) q12.1 (1 : Int32) (hIu q12.2 a0 36 (0 : Int32)) (fun v28 v29 v30 h31 => some (v28, h31)))))))
theorem t_Mo_waysWithout_L21 {l : Launch} {z : xZ} {d mc ms : Nat} {Ph : Option xV → xH → Prop} {a0 : Nat} {a1 : Int32}  (hd : 3 ≤ d) : ∀ (n : Nat) (a2 : Int32) (a3 : Int32) (a4 : Int32) (h : xH) (K : Int32 → Int32 → Int32 → xH → Option (Int32 × xH)), OK (f_Mo_waysWithout_L21 a0 a1 n a2 a3 a4 h K) (fun q => Ph (some (xI q.1)) q.2) → (∀ (a2 : Int32) (a3 : Int32) (a4 : Int32) (h : xH), OK (K a2 a3 a4 h) (fun q => Ph (some (xI q.1)) q.2) → Sx l z d mc ms M_Mo_waysWithout 100 [some (xR a0), some (xI a1), some (xI a2), some (xI a3), some (xI a4), none] [] h Ph) → Sx l z d mc ms M_Mo_waysWithout 21 [some (xR a0), some (xI a1), some (xI a2), some (xI a3), some (xI a4), none] [] h Ph := by
  intro n
  induction n with
  | zero => intro a2 a3 a4 h K hk hE; exact hk.no
  | succ n ih =>
    intro a2 a3 a4 h K hk hE
    rw [f_Mo_waysWithout_L21] at hk
    refine sx_iload dc_Mo_waysWithout_21 rfl ?_
    refine sx_if_eq (tgt := 100) dc_Mo_waysWithout_23 (by decide) (fun c15 => ?_) (fun c15 => ?_)
    · replace hk := hk.t c15
      exact hE a2 a3 a4 h hk
    · replace hk := hk.f c15
      refine sx_aload_n dc_Mo_waysWithout_26 rfl ?_
      refine sx_aload_n dc_Mo_waysWithout_27 rfl ?_
      obtain ⟨g16, hk⟩ := hk.g
      refine sx_get (ci := 11) (k := 8) rfl (by decide) wF_Mo_77 g16 dc_Mo_waysWithout_28 ?_
      refine sx_iload_n dc_Mo_waysWithout_31 rfl ?_
      refine sx_ior dc_Mo_waysWithout_32 ?_
      refine sx_aload_n dc_Mo_waysWithout_33 rfl ?_
      refine sx_get (ci := 11) (k := 7) rfl (by decide) wF_Mo_23 g16 dc_Mo_waysWithout_34 ?_
      obtain ⟨q17, eq17, hk⟩ := hk.bind
      refine sx_callS (d2 := d - 1) (mc2 := 0) (ms2 := 0) (as := [xI (hI h a0 7)]) mk_Mo_allOf rfl wM_Mo_90 mt_Mo_allOf rfl (Nat.le_of_ble_eq_true rfl) (Nat.le_of_ble_eq_true rfl) dc_Mo_waysWithout_37 (by omega) (Nat.zero_le _) (Nat.zero_le _) ?_
      refine t_Mo_allOf (by omega) ⟨q17, eq17, ?_⟩
      refine sx_eq0 (lc2 := [some (xR a0), some (xI a1), some (xI a2), some (xI a3), some (xI a4), none]) (st2 := [xI q17.1, xI ((hI h a0 8) ||| a3), xR a0]) rfl rfl ?_
      obtain ⟨g19, hk⟩ := hk.g
      obtain ⟨q18, eq18, hk⟩ := hk.bind
      refine sx_callV (d2 := d - 1) (mc2 := 0) (ms2 := 0) (as := [xI ((hI h a0 8) ||| a3), xI q17.1]) mk_Mo_allThrees rfl (x_rk (ci := 11) g19 rfl rfl) wM_Mo_284 mi_Mo_allThrees me_Mo_allThrees rfl (Nat.le_of_ble_eq_true rfl) (Nat.le_of_ble_eq_true rfl) dc_Mo_waysWithout_40 (by omega) (Nat.zero_le _) (Nat.zero_le _) ?_
      refine t_Mo_allThrees (by omega) ⟨q18, eq18, ?_⟩
      refine sx_eq0 (lc2 := [some (xR a0), some (xI a1), some (xI a2), some (xI a3), some (xI a4), none]) (st2 := [xI q18.1]) rfl rfl ?_
      refine sx_istore dc_Mo_waysWithout_43 (by decide) (sx_eq (lc2 := [some (xR a0), some (xI a1), some (xI a2), some (xI a3), some (xI a4), some (xI q18.1)]) rfl rfl ?_)
      refine sx_iload_n dc_Mo_waysWithout_45 rfl ?_
      refine sx_iload dc_Mo_waysWithout_46 rfl ?_
      refine sx_mg (pc2 := 56) (lc2 := [some (xR a0), some (xI a1), some (xI a2), some (xI a3), some (xI a4), some (xI q18.1)]) (st2 := [xI (if q18.1 = 0 then (1 : Int32) else (0 : Int32)), xI a2]) (h2 := q18.2) ?_ (fun J20 => ?_)
      · refine sx_iadd dc_Mo_waysWithout_56 ?_
        refine sx_istore_n dc_Mo_waysWithout_57 (by decide) (sx_eq (lc2 := [some (xR a0), some (xI a1), some (xI (a2 + (if q18.1 = 0 then (1 : Int32) else (0 : Int32)))), some (xI a3), some (xI a4), some (xI q18.1)]) rfl rfl ?_)
        refine sx_aload_n dc_Mo_waysWithout_58 rfl ?_
        refine sx_iload dc_Mo_waysWithout_59 rfl ?_
        refine sx_aload_n dc_Mo_waysWithout_61 rfl ?_
        obtain ⟨g22, hk⟩ := hk.g
        refine sx_get (ci := 11) (k := 36) rfl (by decide) wF_Mo_307 g22 dc_Mo_waysWithout_62 ?_
        refine hk.j (X := fun x23 => Sx l z d mc ms M_Mo_waysWithout 77 [some (xR a0), some (xI a1), some (xI (a2 + (if q18.1 = 0 then (1 : Int32) else (0 : Int32)))), some (xI a3), some (xI a4), some (xI q18.1)] [xI x23, xR a0] q18.2 Ph) (fun x23 hk => ?_) (fun k24 jk24 hk => ?_)
        · refine sx_putI (ci := 11) (k := 36) rfl (by decide) wF_Mo_307 rfl g22 (Or.inl rfl) dc_Mo_waysWithout_77 ?_
          refine sx_iload_n dc_Mo_waysWithout_80 rfl ?_
          refine sx_mg (pc2 := 89) (lc2 := [some (xR a0), some (xI a1), some (xI (a2 + (if q18.1 = 0 then (1 : Int32) else (0 : Int32)))), some (xI a3), some (xI a4), some (xI q18.1)]) (st2 := [xI (if a3 = 0 then (0 : Int32) else (1 : Int32))]) (h2 := (hIu q18.2 a0 36 x23)) ?_ (fun J25 => ?_)
          · refine sx_istore dc_Mo_waysWithout_89 (by decide) (sx_eq (lc2 := [some (xR a0), some (xI a1), some (xI (a2 + (if q18.1 = 0 then (1 : Int32) else (0 : Int32)))), some (xI a3), some (xI (if a3 = 0 then (0 : Int32) else (1 : Int32))), some (xI q18.1)]) rfl rfl ?_)
            refine sx_iload_n dc_Mo_waysWithout_91 rfl ?_
            refine sx_iconst (v := (1 : Int32)) dc_Mo_waysWithout_92 (by decide) ?_
            refine sx_isub dc_Mo_waysWithout_93 ?_
            refine sx_iload_n dc_Mo_waysWithout_94 rfl ?_
            refine sx_iand dc_Mo_waysWithout_95 ?_
            refine sx_istore_n dc_Mo_waysWithout_96 (by decide) (sx_eq (lc2 := [some (xR a0), some (xI a1), some (xI (a2 + (if q18.1 = 0 then (1 : Int32) else (0 : Int32)))), some (xI ((a3 - (1 : Int32)) &&& a1)), some (xI (if a3 = 0 then (0 : Int32) else (1 : Int32))), some (xI q18.1)]) rfl rfl ?_)
            refine sx_goto (tgt := 21) dc_Mo_waysWithout_97 (by decide) ?_
            exact sx_less (by simp [x_le]) (ih (a2 + (if q18.1 = 0 then (1 : Int32) else (0 : Int32))) ((a3 - (1 : Int32)) &&& a1) (if a3 = 0 then (0 : Int32) else (1 : Int32)) (hIu q18.2 a0 36 x23) _ hk hE)
          · refine sx_if_eq (tgt := 88) dc_Mo_waysWithout_81 (by decide) (fun c26 => ?_) (fun c26 => ?_)
            · try simp only [if_pos c26] at J25
              refine sx_iconst (v := (0 : Int32)) dc_Mo_waysWithout_88 (by decide) ?_
              exact J25
            · try simp only [if_neg c26] at J25
              refine sx_iconst (v := (1 : Int32)) dc_Mo_waysWithout_84 (by decide) ?_
              refine sx_goto (tgt := 89) dc_Mo_waysWithout_85 (by decide) ?_
              exact J25
        · refine sx_icmp_le (tgt := 73) dc_Mo_waysWithout_65 (by decide) (fun c27 => ?_) (fun c27 => ?_)
          · replace hk := hk.t c27
            refine sx_aload_n dc_Mo_waysWithout_73 rfl ?_
            refine sx_get (ci := 11) (k := 36) rfl (by decide) wF_Mo_307 g22 dc_Mo_waysWithout_74 ?_
            exact jk24 (hI q18.2 a0 36) hk
          · replace hk := hk.f c27
            refine sx_iload dc_Mo_waysWithout_68 rfl ?_
            refine sx_goto (tgt := 77) dc_Mo_waysWithout_70 (by decide) ?_
            exact jk24 q18.1 hk
      · refine sx_if_ne (tgt := 55) dc_Mo_waysWithout_48 (by decide) (fun c21 => ?_) (fun c21 => ?_)
        · try simp only [if_neg c21] at J20
          refine sx_iconst (v := (0 : Int32)) dc_Mo_waysWithout_55 (by decide) ?_
          exact J20
        · try simp only [if_pos c21] at J20
          refine sx_iconst (v := (1 : Int32)) dc_Mo_waysWithout_51 (by decide) ?_
          refine sx_goto (tgt := 56) dc_Mo_waysWithout_52 (by decide) ?_
          exact J20
theorem t_Mo_waysWithout {l : Launch} {z : xZ} {d mc ms : Nat} {Ph : Option xV → xH → Prop} {a0 : Nat}  {h : xH} (hd : 154 ≤ d) (hk : OK (f_Mo_waysWithout a0 h) (fun q => Ph (some (xI q.1)) q.2)) : Sx l z d mc ms M_Mo_waysWithout 0 (x_en [xR a0] 6) [] h Ph := by
  unfold f_Mo_waysWithout at hk
  refine sx_eq (lc2 := [some (xR a0), none, none, none, none, none]) rfl rfl ?_
  refine sx_aload_n dc_Mo_waysWithout_0 rfl ?_
  obtain ⟨g11, hk⟩ := hk.g
  obtain ⟨q10, eq10, hk⟩ := hk.bind
  refine sx_callV (d2 := d - 1) (mc2 := 0) (ms2 := 0) (as := []) mk_Mo_gathers rfl (x_rk (ci := 11) g11 rfl rfl) wM_Mo_263 mi_Mo_gathers me_Mo_gathers rfl (Nat.le_of_ble_eq_true rfl) (Nat.le_of_ble_eq_true rfl) dc_Mo_waysWithout_1 (by omega) (Nat.zero_le _) (Nat.zero_le _) ?_
  refine t_Mo_gathers (by omega) ⟨q10, eq10, ?_⟩
  refine sx_eq0 (lc2 := [some (xR a0), none, none, none, none, none]) (st2 := []) rfl rfl ?_
  refine sx_aload_n dc_Mo_waysWithout_4 rfl ?_
  obtain ⟨g13, hk⟩ := hk.g
  obtain ⟨q12, eq12, hk⟩ := hk.bind
  refine sx_callV (d2 := d - 1) (mc2 := 0) (ms2 := 0) (as := []) mk_Mo_unseen rfl (x_rk (ci := 11) g13 rfl rfl) wM_Mo_304 mi_Mo_unseen me_Mo_unseen rfl (Nat.le_of_ble_eq_true rfl) (Nat.le_of_ble_eq_true rfl) dc_Mo_waysWithout_5 (by omega) (Nat.zero_le _) (Nat.zero_le _) ?_
  refine t_Mo_unseen (by omega) ⟨q12, eq12, ?_⟩
  refine sx_eq0 (lc2 := [some (xR a0), none, none, none, none, none]) (st2 := [xI q12.1]) rfl rfl ?_
  refine sx_istore_n dc_Mo_waysWithout_8 (by decide) (sx_eq (lc2 := [some (xR a0), some (xI q12.1), none, none, none, none]) rfl rfl ?_)
  refine sx_iconst (v := (0 : Int32)) dc_Mo_waysWithout_9 (by decide) ?_
  refine sx_istore_n dc_Mo_waysWithout_10 (by decide) (sx_eq (lc2 := [some (xR a0), some (xI q12.1), some (xI (0 : Int32)), none, none, none]) rfl rfl ?_)
  refine sx_aload_n dc_Mo_waysWithout_11 rfl ?_
  refine sx_iconst (v := (0 : Int32)) dc_Mo_waysWithout_12 (by decide) ?_
  obtain ⟨g14, hk⟩ := hk.g
  refine sx_putI (ci := 11) (k := 36) rfl (by decide) wF_Mo_307 rfl g14 (Or.inl rfl) dc_Mo_waysWithout_13 ?_
  refine sx_iload_n dc_Mo_waysWithout_16 rfl ?_
  refine sx_istore_n dc_Mo_waysWithout_17 (by decide) (sx_eq (lc2 := [some (xR a0), some (xI q12.1), some (xI (0 : Int32)), some (xI q12.1), none, none]) rfl rfl ?_)
  refine sx_iconst (v := (1 : Int32)) dc_Mo_waysWithout_18 (by decide) ?_
  refine sx_istore dc_Mo_waysWithout_19 (by decide) (sx_eq (lc2 := [some (xR a0), some (xI q12.1), some (xI (0 : Int32)), some (xI q12.1), some (xI (1 : Int32)), none]) rfl rfl ?_)
  refine t_Mo_waysWithout_L21 (by omega) _ _ _ _ _ _ hk (fun v28 v29 v30 h31 hk => ?_)
  refine sx_iload_n dc_Mo_waysWithout_100 rfl ?_
  exact sx_retI dc_Mo_waysWithout_101 rfl hk.val

theorem dc_Mo_pairs_0 : decode M_Mo_pairs.2.1 0 = .ok (.iload_n 1, 1) := by decide +kernel
theorem dc_Mo_pairs_1 : decode M_Mo_pairs.2.1 1 = .ok (.invokestatic 325, 3) := by decide +kernel
theorem dc_Mo_pairs_4 : decode M_Mo_pairs.2.1 4 = .ok (.ifCond .eq 28, 3) := by decide +kernel
theorem dc_Mo_pairs_7 : decode M_Mo_pairs.2.1 7 = .ok (.iload_n 2, 1) := by decide +kernel
theorem dc_Mo_pairs_8 : decode M_Mo_pairs.2.1 8 = .ok (.i2l, 1) := by decide +kernel
theorem dc_Mo_pairs_9 : decode M_Mo_pairs.2.1 9 = .ok (.lconst 0, 1) := by decide +kernel
theorem dc_Mo_pairs_10 : decode M_Mo_pairs.2.1 10 = .ok (.ldc2_w 98, 3) := by decide +kernel
theorem dc_Mo_pairs_13 : decode M_Mo_pairs.2.1 13 = .ok (.invokestatic 73, 3) := by decide +kernel
theorem dc_Mo_pairs_16 : decode M_Mo_pairs.2.1 16 = .ok (.ifCond .eq 16, 3) := by decide +kernel
theorem dc_Mo_pairs_19 : decode M_Mo_pairs.2.1 19 = .ok (.iload 4, 2) := by decide +kernel
theorem dc_Mo_pairs_21 : decode M_Mo_pairs.2.1 21 = .ok (.i2l, 1) := by decide +kernel
theorem dc_Mo_pairs_22 : decode M_Mo_pairs.2.1 22 = .ok (.lconst 0, 1) := by decide +kernel
theorem dc_Mo_pairs_23 : decode M_Mo_pairs.2.1 23 = .ok (.ldc2_w 344, 3) := by decide +kernel
theorem dc_Mo_pairs_26 : decode M_Mo_pairs.2.1 26 = .ok (.invokestatic 73, 3) := by decide +kernel
theorem dc_Mo_pairs_29 : decode M_Mo_pairs.2.1 29 = .ok (.ifCond .ne 6, 3) := by decide +kernel
theorem dc_Mo_pairs_32 : decode M_Mo_pairs.2.1 32 = .ok (.bipush (-2), 2) := by decide +kernel
theorem dc_Mo_pairs_34 : decode M_Mo_pairs.2.1 34 = .ok (.ireturn, 1) := by decide +kernel
theorem dc_Mo_pairs_35 : decode M_Mo_pairs.2.1 35 = .ok (.aload_n 0, 1) := by decide +kernel
theorem dc_Mo_pairs_36 : decode M_Mo_pairs.2.1 36 = .ok (.getfield 54, 3) := by decide +kernel
theorem dc_Mo_pairs_39 : decode M_Mo_pairs.2.1 39 = .ok (.iload_n 1, 1) := by decide +kernel
theorem dc_Mo_pairs_40 : decode M_Mo_pairs.2.1 40 = .ok (.baload, 1) := by decide +kernel
theorem dc_Mo_pairs_41 : decode M_Mo_pairs.2.1 41 = .ok (.ifCond .eq 16, 3) := by decide +kernel
theorem dc_Mo_pairs_44 : decode M_Mo_pairs.2.1 44 = .ok (.aload_n 0, 1) := by decide +kernel
theorem dc_Mo_pairs_45 : decode M_Mo_pairs.2.1 45 = .ok (.getfield 57, 3) := by decide +kernel
theorem dc_Mo_pairs_48 : decode M_Mo_pairs.2.1 48 = .ok (.iload_n 1, 1) := by decide +kernel
theorem dc_Mo_pairs_49 : decode M_Mo_pairs.2.1 49 = .ok (.iaload, 1) := by decide +kernel
theorem dc_Mo_pairs_50 : decode M_Mo_pairs.2.1 50 = .ok (.iload_n 2, 1) := by decide +kernel
theorem dc_Mo_pairs_51 : decode M_Mo_pairs.2.1 51 = .ok (.if_icmp .eq 6, 3) := by decide +kernel
theorem dc_Mo_pairs_54 : decode M_Mo_pairs.2.1 54 = .ok (.bipush (-13), 2) := by decide +kernel
theorem dc_Mo_pairs_56 : decode M_Mo_pairs.2.1 56 = .ok (.ireturn, 1) := by decide +kernel
theorem dc_Mo_pairs_57 : decode M_Mo_pairs.2.1 57 = .ok (.aload_n 0, 1) := by decide +kernel
theorem dc_Mo_pairs_58 : decode M_Mo_pairs.2.1 58 = .ok (.getfield 54, 3) := by decide +kernel
theorem dc_Mo_pairs_61 : decode M_Mo_pairs.2.1 61 = .ok (.iload_n 1, 1) := by decide +kernel
theorem dc_Mo_pairs_62 : decode M_Mo_pairs.2.1 62 = .ok (.baload, 1) := by decide +kernel
theorem dc_Mo_pairs_63 : decode M_Mo_pairs.2.1 63 = .ok (.ifCond .ne 6, 3) := by decide +kernel
theorem dc_Mo_pairs_66 : decode M_Mo_pairs.2.1 66 = .ok (.bipush (-11), 2) := by decide +kernel
theorem dc_Mo_pairs_68 : decode M_Mo_pairs.2.1 68 = .ok (.ireturn, 1) := by decide +kernel
theorem dc_Mo_pairs_69 : decode M_Mo_pairs.2.1 69 = .ok (.iconst 0, 1) := by decide +kernel
theorem dc_Mo_pairs_70 : decode M_Mo_pairs.2.1 70 = .ok (.istore 5, 2) := by decide +kernel
theorem dc_Mo_pairs_72 : decode M_Mo_pairs.2.1 72 = .ok (.iconst 0, 1) := by decide +kernel
theorem dc_Mo_pairs_73 : decode M_Mo_pairs.2.1 73 = .ok (.istore 6, 2) := by decide +kernel
theorem dc_Mo_pairs_75 : decode M_Mo_pairs.2.1 75 = .ok (.iload 6, 2) := by decide +kernel
theorem dc_Mo_pairs_77 : decode M_Mo_pairs.2.1 77 = .ok (.iload 4, 2) := by decide +kernel
theorem dc_Mo_pairs_79 : decode M_Mo_pairs.2.1 79 = .ok (.if_icmp .ge 88, 3) := by decide +kernel
theorem dc_Mo_pairs_82 : decode M_Mo_pairs.2.1 82 = .ok (.iload_n 3, 1) := by decide +kernel
theorem dc_Mo_pairs_83 : decode M_Mo_pairs.2.1 83 = .ok (.ifCond .lt 20, 3) := by decide +kernel
theorem dc_Mo_pairs_86 : decode M_Mo_pairs.2.1 86 = .ok (.iload_n 3, 1) := by decide +kernel
theorem dc_Mo_pairs_87 : decode M_Mo_pairs.2.1 87 = .ok (.aload_n 0, 1) := by decide +kernel
theorem dc_Mo_pairs_88 : decode M_Mo_pairs.2.1 88 = .ok (.getfield 60, 3) := by decide +kernel
theorem dc_Mo_pairs_91 : decode M_Mo_pairs.2.1 91 = .ok (.iload_n 1, 1) := by decide +kernel
theorem dc_Mo_pairs_92 : decode M_Mo_pairs.2.1 92 = .ok (.iaload, 1) := by decide +kernel
theorem dc_Mo_pairs_93 : decode M_Mo_pairs.2.1 93 = .ok (.iconst 3, 1) := by decide +kernel
theorem dc_Mo_pairs_94 : decode M_Mo_pairs.2.1 94 = .ok (.iload 6, 2) := by decide +kernel
theorem dc_Mo_pairs_96 : decode M_Mo_pairs.2.1 96 = .ok (.imul, 1) := by decide +kernel
theorem dc_Mo_pairs_97 : decode M_Mo_pairs.2.1 97 = .ok (.isub, 1) := by decide +kernel
theorem dc_Mo_pairs_98 : decode M_Mo_pairs.2.1 98 = .ok (.iconst 3, 1) := by decide +kernel
theorem dc_Mo_pairs_99 : decode M_Mo_pairs.2.1 99 = .ok (.isub, 1) := by decide +kernel
theorem dc_Mo_pairs_100 : decode M_Mo_pairs.2.1 100 = .ok (.if_icmp .le 6, 3) := by decide +kernel
theorem dc_Mo_pairs_103 : decode M_Mo_pairs.2.1 103 = .ok (.bipush (-12), 2) := by decide +kernel
theorem dc_Mo_pairs_105 : decode M_Mo_pairs.2.1 105 = .ok (.ireturn, 1) := by decide +kernel
theorem dc_Mo_pairs_106 : decode M_Mo_pairs.2.1 106 = .ok (.bipush 40, 2) := by decide +kernel
theorem dc_Mo_pairs_108 : decode M_Mo_pairs.2.1 108 = .ok (.iload_n 1, 1) := by decide +kernel
theorem dc_Mo_pairs_109 : decode M_Mo_pairs.2.1 109 = .ok (.imul, 1) := by decide +kernel
theorem dc_Mo_pairs_110 : decode M_Mo_pairs.2.1 110 = .ok (.iload_n 3, 1) := by decide +kernel
theorem dc_Mo_pairs_111 : decode M_Mo_pairs.2.1 111 = .ok (.iadd, 1) := by decide +kernel
theorem dc_Mo_pairs_112 : decode M_Mo_pairs.2.1 112 = .ok (.iconst 3, 1) := by decide +kernel
theorem dc_Mo_pairs_113 : decode M_Mo_pairs.2.1 113 = .ok (.iload 6, 2) := by decide +kernel
theorem dc_Mo_pairs_115 : decode M_Mo_pairs.2.1 115 = .ok (.imul, 1) := by decide +kernel
theorem dc_Mo_pairs_116 : decode M_Mo_pairs.2.1 116 = .ok (.iadd, 1) := by decide +kernel
theorem dc_Mo_pairs_117 : decode M_Mo_pairs.2.1 117 = .ok (.istore 7, 2) := by decide +kernel
theorem dc_Mo_pairs_119 : decode M_Mo_pairs.2.1 119 = .ok (.iload 5, 2) := by decide +kernel
theorem dc_Mo_pairs_121 : decode M_Mo_pairs.2.1 121 = .ok (.aload_n 0, 1) := by decide +kernel
theorem dc_Mo_pairs_122 : decode M_Mo_pairs.2.1 122 = .ok (.aload_n 0, 1) := by decide +kernel
theorem dc_Mo_pairs_123 : decode M_Mo_pairs.2.1 123 = .ok (.getfield 63, 3) := by decide +kernel
theorem dc_Mo_pairs_126 : decode M_Mo_pairs.2.1 126 = .ok (.iload 7, 2) := by decide +kernel
theorem dc_Mo_pairs_128 : decode M_Mo_pairs.2.1 128 = .ok (.iaload, 1) := by decide +kernel
theorem dc_Mo_pairs_129 : decode M_Mo_pairs.2.1 129 = .ok (.aload_n 0, 1) := by decide +kernel
theorem dc_Mo_pairs_130 : decode M_Mo_pairs.2.1 130 = .ok (.getfield 63, 3) := by decide +kernel
theorem dc_Mo_pairs_133 : decode M_Mo_pairs.2.1 133 = .ok (.iload 7, 2) := by decide +kernel
theorem dc_Mo_pairs_135 : decode M_Mo_pairs.2.1 135 = .ok (.iconst 1, 1) := by decide +kernel
theorem dc_Mo_pairs_136 : decode M_Mo_pairs.2.1 136 = .ok (.iadd, 1) := by decide +kernel
theorem dc_Mo_pairs_137 : decode M_Mo_pairs.2.1 137 = .ok (.iaload, 1) := by decide +kernel
theorem dc_Mo_pairs_138 : decode M_Mo_pairs.2.1 138 = .ok (.aload_n 0, 1) := by decide +kernel
theorem dc_Mo_pairs_139 : decode M_Mo_pairs.2.1 139 = .ok (.getfield 63, 3) := by decide +kernel
theorem dc_Mo_pairs_142 : decode M_Mo_pairs.2.1 142 = .ok (.iload 7, 2) := by decide +kernel
theorem dc_Mo_pairs_144 : decode M_Mo_pairs.2.1 144 = .ok (.iconst 2, 1) := by decide +kernel
theorem dc_Mo_pairs_145 : decode M_Mo_pairs.2.1 145 = .ok (.iadd, 1) := by decide +kernel
theorem dc_Mo_pairs_146 : decode M_Mo_pairs.2.1 146 = .ok (.iaload, 1) := by decide +kernel
theorem dc_Mo_pairs_147 : decode M_Mo_pairs.2.1 147 = .ok (.invokevirtual 346, 3) := by decide +kernel
theorem dc_Mo_pairs_150 : decode M_Mo_pairs.2.1 150 = .ok (.ifCond .lt 7, 3) := by decide +kernel
theorem dc_Mo_pairs_153 : decode M_Mo_pairs.2.1 153 = .ok (.iconst 1, 1) := by decide +kernel
theorem dc_Mo_pairs_154 : decode M_Mo_pairs.2.1 154 = .ok (.goto 4, 3) := by decide +kernel
theorem dc_Mo_pairs_157 : decode M_Mo_pairs.2.1 157 = .ok (.iconst 0, 1) := by decide +kernel
theorem dc_Mo_pairs_158 : decode M_Mo_pairs.2.1 158 = .ok (.iadd, 1) := by decide +kernel
theorem dc_Mo_pairs_159 : decode M_Mo_pairs.2.1 159 = .ok (.istore 5, 2) := by decide +kernel
theorem dc_Mo_pairs_161 : decode M_Mo_pairs.2.1 161 = .ok (.iinc 6 1, 3) := by decide +kernel
theorem dc_Mo_pairs_164 : decode M_Mo_pairs.2.1 164 = .ok (.goto (-89), 3) := by decide +kernel
theorem dc_Mo_pairs_167 : decode M_Mo_pairs.2.1 167 = .ok (.iload 5, 2) := by decide +kernel
theorem dc_Mo_pairs_169 : decode M_Mo_pairs.2.1 169 = .ok (.ireturn, 1) := by decide +kernel
def f_Mo_pairs_L75 (a0 : Nat) (a1 : Int32) (a2 : Int32) (a3 : Int32) (a4 : Int32) : Nat → Int32 → Int32 → xH → (Int32 → Int32 → xH → Option (Int32 × xH)) → Option (Int32 × xH)
  | 0, _, _, _, _ => none
  | n + 1, a5, a6, h, K => if a4 ≤ a6 then K a5 a6 h else jn (fun (x33 : Unit) => some ((-12 : Int32), h)) (fun k34 => if a3 < 0 then k34 () else gd (hK h a0 = 11) (gd (hK h (hR h a0 43) = 12) (gd (¬ (a1 < 0 ∨ hL h (hR h a0 43) ≤ a1.toNatClampNeg)) (if a3 ≤ (((hI h (hR h a0 43) a1.toNatClampNeg) - ((3 : Int32) * a6)) - (3 : Int32)) then gd (hK h (hR h a0 44) = 12) (gd (¬ (((((40 : Int32) * a1) + a3) + ((3 : Int32) * a6)) < 0 ∨ hL h (hR h a0 44) ≤ ((((40 : Int32) * a1) + a3) + ((3 : Int32) * a6)).toNatClampNeg)) (gd (¬ ((((((40 : Int32) * a1) + a3) + ((3 : Int32) * a6)) + (1 : Int32)) < 0 ∨ hL h (hR h a0 44) ≤ (((((40 : Int32) * a1) + a3) + ((3 : Int32) * a6)) + (1 : Int32)).toNatClampNeg)) (gd (¬ ((((((40 : Int32) * a1) + a3) + ((3 : Int32) * a6)) + (2 : Int32)) < 0 ∨ hL h (hR h a0 44) ≤ (((((40 : Int32) * a1) + a3) + ((3 : Int32) * a6)) + (2 : Int32)).toNatClampNeg)) (Option.bind (f_Mo_meet a0 (hI h (hR h a0 44) ((((40 : Int32) * a1) + a3) + ((3 : Int32) * a6)).toNatClampNeg) (hI h (hR h a0 44) (((((40 : Int32) * a1) + a3) + ((3 : Int32) * a6)) + (1 : Int32)).toNatClampNeg) (hI h (hR h a0 44) (((((40 : Int32) * a1) + a3) + ((3 : Int32) * a6)) + (2 : Int32)).toNatClampNeg) h) (fun q44 => f_Mo_pairs_L75 a0 a1 a2 a3 a4 n (a5 + (if q44.1 < 0 then (0 : Int32) else (1 : Int32))) (a6 + (1 : Int32)) q44.2 K))))) else k34 ()))))
def f_Mo_pairs (a0 : Nat) (a1 : Int32) (a2 : Int32) (a3 : Int32) (a4 : Int32) (h : xH) : Option (Int32 × xH) := Option.bind (f_Mo_isSheet a1 h) (fun q17 => jn (fun (x18 : xH) => some ((-2 : Int32), x18)) (fun k19 => if q17.1 = 0 then k19 q17.2 else Option.bind (f_Mo_in a2.toInt64 (0 : Int64) (2 : Int64) q17.2) (fun q21 => if q21.1 = 0 then k19 q21.2 else Option.bind (f_Mo_in a4.toInt64 (0 : Int64) (13 : Int64) q21.2) (fun q23 => if q23.1 = 0 then k19 q23.2 else gd (hK q23.2 a0 = 11) (gd (hK q23.2 (hR q23.2 a0 41) = 13) (gd (¬ (a1 < 0 ∨ hL q23.2 (hR q23.2 a0 41) ≤ a1.toNatClampNeg)) (jn (fun (x28 : Unit) => gd (¬ (a1 < 0 ∨ hL q23.2 (hR q23.2 a0 41) ≤ a1.toNatClampNeg)) (if (hI q23.2 (hR q23.2 a0 41) a1.toNatClampNeg) = 0 then some ((-11 : Int32), q23.2) else f_Mo_pairs_L75 a0 a1 a2 a3 a4 fu (0 : Int32) (0 : Int32) q23.2 (fun v47 v48 h49 => some (v47, h49)))) (fun k29 => if (hI q23.2 (hR q23.2 a0 41) a1.toNatClampNeg) = 0 then k29 () else gd (hK q23.2 (hR q23.2 a0 42) = 12) (gd (¬ (a1 < 0 ∨ hL q23.2 (hR q23.2 a0 42) ≤ a1.toNatClampNeg)) (if (hI q23.2 (hR q23.2 a0 42) a1.toNatClampNeg) = a2 then k29 () else some ((-13 : Int32), q23.2)))))))))))
theorem t_Mo_pairs_L75 {l : Launch} {z : xZ} {d mc ms : Nat} {Ph : Option xV → xH → Prop} {a0 : Nat} {a1 : Int32} {a2 : Int32} {a3 : Int32} {a4 : Int32}  (hd : 5 ≤ d) : ∀ (n : Nat) (a5 : Int32) (a6 : Int32) (h : xH) (K : Int32 → Int32 → xH → Option (Int32 × xH)), OK (f_Mo_pairs_L75 a0 a1 a2 a3 a4 n a5 a6 h K) (fun q => Ph (some (xI q.1)) q.2) → (∀ (a5 : Int32) (a6 : Int32) (h : xH), OK (K a5 a6 h) (fun q => Ph (some (xI q.1)) q.2) → Sx l z d mc ms M_Mo_pairs 167 [some (xR a0), some (xI a1), some (xI a2), some (xI a3), some (xI a4), some (xI a5), some (xI a6), none] [] h Ph) → Sx l z d mc ms M_Mo_pairs 75 [some (xR a0), some (xI a1), some (xI a2), some (xI a3), some (xI a4), some (xI a5), some (xI a6), none] [] h Ph := by
  intro n
  induction n with
  | zero => intro a5 a6 h K hk hE; exact hk.no
  | succ n ih =>
    intro a5 a6 h K hk hE
    rw [f_Mo_pairs_L75] at hk
    refine sx_iload dc_Mo_pairs_75 rfl ?_
    refine sx_iload dc_Mo_pairs_77 rfl ?_
    refine sx_icmp_ge (tgt := 167) dc_Mo_pairs_79 (by decide) (fun c32 => ?_) (fun c32 => ?_)
    · replace hk := hk.t c32
      exact hE a5 a6 h hk
    · replace hk := hk.f c32
      refine sx_iload_n dc_Mo_pairs_82 rfl ?_
      refine hk.j (X := fun x33 => Sx l z d mc ms M_Mo_pairs 103 [some (xR a0), some (xI a1), some (xI a2), some (xI a3), some (xI a4), some (xI a5), some (xI a6), none] [] h Ph) (fun x33 hk => ?_) (fun k34 jk34 hk => ?_)
      · refine sx_bipush (v := (-12 : Int32)) dc_Mo_pairs_103 (by decide) ?_
        exact sx_retI dc_Mo_pairs_105 rfl hk.val
      · refine sx_if_lt (tgt := 103) dc_Mo_pairs_83 (by decide) (fun c35 => ?_) (fun c35 => ?_)
        · replace hk := hk.t c35
          exact jk34 () hk
        · replace hk := hk.f c35
          refine sx_iload_n dc_Mo_pairs_86 rfl ?_
          refine sx_aload_n dc_Mo_pairs_87 rfl ?_
          obtain ⟨g36, hk⟩ := hk.g
          refine sx_get (ci := 11) (k := 43) rfl (by decide) wF_Mo_60 g36 dc_Mo_pairs_88 ?_
          refine sx_iload_n dc_Mo_pairs_91 rfl ?_
          obtain ⟨g37, hk⟩ := hk.g
          obtain ⟨g38, hk⟩ := hk.g
          refine sx_iald g37 g38 dc_Mo_pairs_92 ?_
          refine sx_iconst (v := (3 : Int32)) dc_Mo_pairs_93 (by decide) ?_
          refine sx_iload dc_Mo_pairs_94 rfl ?_
          refine sx_imul dc_Mo_pairs_96 ?_
          refine sx_isub dc_Mo_pairs_97 ?_
          refine sx_iconst (v := (3 : Int32)) dc_Mo_pairs_98 (by decide) ?_
          refine sx_isub dc_Mo_pairs_99 ?_
          refine sx_icmp_le (tgt := 106) dc_Mo_pairs_100 (by decide) (fun c39 => ?_) (fun c39 => ?_)
          · replace hk := hk.t c39
            refine sx_bipush (v := (40 : Int32)) dc_Mo_pairs_106 (by decide) ?_
            refine sx_iload_n dc_Mo_pairs_108 rfl ?_
            refine sx_imul dc_Mo_pairs_109 ?_
            refine sx_iload_n dc_Mo_pairs_110 rfl ?_
            refine sx_iadd dc_Mo_pairs_111 ?_
            refine sx_iconst (v := (3 : Int32)) dc_Mo_pairs_112 (by decide) ?_
            refine sx_iload dc_Mo_pairs_113 rfl ?_
            refine sx_imul dc_Mo_pairs_115 ?_
            refine sx_iadd dc_Mo_pairs_116 ?_
            refine sx_istore dc_Mo_pairs_117 (by decide) (sx_eq (lc2 := [some (xR a0), some (xI a1), some (xI a2), some (xI a3), some (xI a4), some (xI a5), some (xI a6), some (xI ((((40 : Int32) * a1) + a3) + ((3 : Int32) * a6)))]) rfl rfl ?_)
            refine sx_iload dc_Mo_pairs_119 rfl ?_
            refine sx_aload_n dc_Mo_pairs_121 rfl ?_
            refine sx_aload_n dc_Mo_pairs_122 rfl ?_
            refine sx_get (ci := 11) (k := 44) rfl (by decide) wF_Mo_63 g36 dc_Mo_pairs_123 ?_
            refine sx_iload dc_Mo_pairs_126 rfl ?_
            obtain ⟨g40, hk⟩ := hk.g
            obtain ⟨g41, hk⟩ := hk.g
            refine sx_iald g40 g41 dc_Mo_pairs_128 ?_
            refine sx_aload_n dc_Mo_pairs_129 rfl ?_
            refine sx_get (ci := 11) (k := 44) rfl (by decide) wF_Mo_63 g36 dc_Mo_pairs_130 ?_
            refine sx_iload dc_Mo_pairs_133 rfl ?_
            refine sx_iconst (v := (1 : Int32)) dc_Mo_pairs_135 (by decide) ?_
            refine sx_iadd dc_Mo_pairs_136 ?_
            obtain ⟨g42, hk⟩ := hk.g
            refine sx_iald g40 g42 dc_Mo_pairs_137 ?_
            refine sx_aload_n dc_Mo_pairs_138 rfl ?_
            refine sx_get (ci := 11) (k := 44) rfl (by decide) wF_Mo_63 g36 dc_Mo_pairs_139 ?_
            refine sx_iload dc_Mo_pairs_142 rfl ?_
            refine sx_iconst (v := (2 : Int32)) dc_Mo_pairs_144 (by decide) ?_
            refine sx_iadd dc_Mo_pairs_145 ?_
            obtain ⟨g43, hk⟩ := hk.g
            refine sx_iald g40 g43 dc_Mo_pairs_146 ?_
            obtain ⟨q44, eq44, hk⟩ := hk.bind
            refine sx_callV (d2 := d - 1) (mc2 := 0) (ms2 := 0) (as := [xI (hI h (hR h a0 44) ((((40 : Int32) * a1) + a3) + ((3 : Int32) * a6)).toNatClampNeg), xI (hI h (hR h a0 44) (((((40 : Int32) * a1) + a3) + ((3 : Int32) * a6)) + (1 : Int32)).toNatClampNeg), xI (hI h (hR h a0 44) (((((40 : Int32) * a1) + a3) + ((3 : Int32) * a6)) + (2 : Int32)).toNatClampNeg)]) mk_Mo_meet rfl (x_rk (ci := 11) g36 rfl rfl) wM_Mo_346 mi_Mo_meet me_Mo_meet rfl (Nat.le_of_ble_eq_true rfl) (Nat.le_of_ble_eq_true rfl) dc_Mo_pairs_147 (by omega) (Nat.zero_le _) (Nat.zero_le _) ?_
            refine t_Mo_meet (by omega) ⟨q44, eq44, ?_⟩
            refine sx_eq0 (lc2 := [some (xR a0), some (xI a1), some (xI a2), some (xI a3), some (xI a4), some (xI a5), some (xI a6), some (xI ((((40 : Int32) * a1) + a3) + ((3 : Int32) * a6)))]) (st2 := [xI q44.1, xI a5]) rfl rfl ?_
            refine sx_mg (pc2 := 158) (lc2 := [some (xR a0), some (xI a1), some (xI a2), some (xI a3), some (xI a4), some (xI a5), some (xI a6), some (xI ((((40 : Int32) * a1) + a3) + ((3 : Int32) * a6)))]) (st2 := [xI (if q44.1 < 0 then (0 : Int32) else (1 : Int32)), xI a5]) (h2 := q44.2) ?_ (fun J45 => ?_)
            · refine sx_iadd dc_Mo_pairs_158 ?_
              refine sx_istore dc_Mo_pairs_159 (by decide) (sx_eq (lc2 := [some (xR a0), some (xI a1), some (xI a2), some (xI a3), some (xI a4), some (xI (a5 + (if q44.1 < 0 then (0 : Int32) else (1 : Int32)))), some (xI a6), some (xI ((((40 : Int32) * a1) + a3) + ((3 : Int32) * a6)))]) rfl rfl ?_)
              refine sx_iinc (v := (1 : Int32)) dc_Mo_pairs_161 rfl (by decide) (by decide) (sx_eq (lc2 := [some (xR a0), some (xI a1), some (xI a2), some (xI a3), some (xI a4), some (xI (a5 + (if q44.1 < 0 then (0 : Int32) else (1 : Int32)))), some (xI (a6 + (1 : Int32))), some (xI ((((40 : Int32) * a1) + a3) + ((3 : Int32) * a6)))]) rfl rfl ?_)
              refine sx_goto (tgt := 75) dc_Mo_pairs_164 (by decide) ?_
              exact sx_less (by simp [x_le]) (ih (a5 + (if q44.1 < 0 then (0 : Int32) else (1 : Int32))) (a6 + (1 : Int32)) q44.2 _ hk hE)
            · refine sx_if_lt (tgt := 157) dc_Mo_pairs_150 (by decide) (fun c46 => ?_) (fun c46 => ?_)
              · try simp only [if_pos c46] at J45
                refine sx_iconst (v := (0 : Int32)) dc_Mo_pairs_157 (by decide) ?_
                exact J45
              · try simp only [if_neg c46] at J45
                refine sx_iconst (v := (1 : Int32)) dc_Mo_pairs_153 (by decide) ?_
                refine sx_goto (tgt := 158) dc_Mo_pairs_154 (by decide) ?_
                exact J45
          · replace hk := hk.f c39
            exact jk34 () hk
theorem t_Mo_pairs {l : Launch} {z : xZ} {d mc ms : Nat} {Ph : Option xV → xH → Prop} {a0 : Nat} {a1 : Int32} {a2 : Int32} {a3 : Int32} {a4 : Int32}  {h : xH} (hd : 5 ≤ d) (hk : OK (f_Mo_pairs a0 a1 a2 a3 a4 h) (fun q => Ph (some (xI q.1)) q.2)) : Sx l z d mc ms M_Mo_pairs 0 (x_en [xR a0, xI a1, xI a2, xI a3, xI a4] 8) [] h Ph := by
  unfold f_Mo_pairs at hk
  refine sx_eq (lc2 := [some (xR a0), some (xI a1), some (xI a2), some (xI a3), some (xI a4), none, none, none]) rfl rfl ?_
  refine sx_iload_n dc_Mo_pairs_0 rfl ?_
  obtain ⟨q17, eq17, hk⟩ := hk.bind
  refine sx_callS (d2 := d - 1) (mc2 := 0) (ms2 := 0) (as := [xI a1]) mk_Mo_isSheet rfl wM_Mo_325 mt_Mo_isSheet rfl (Nat.le_of_ble_eq_true rfl) (Nat.le_of_ble_eq_true rfl) dc_Mo_pairs_1 (by omega) (Nat.zero_le _) (Nat.zero_le _) ?_
  refine t_Mo_isSheet (by omega) ⟨q17, eq17, ?_⟩
  refine sx_eq0 (lc2 := [some (xR a0), some (xI a1), some (xI a2), some (xI a3), some (xI a4), none, none, none]) (st2 := [xI q17.1]) rfl rfl ?_
  refine hk.j (X := fun x18 => Sx l z d mc ms M_Mo_pairs 32 [some (xR a0), some (xI a1), some (xI a2), some (xI a3), some (xI a4), none, none, none] [] x18 Ph) (fun x18 hk => ?_) (fun k19 jk19 hk => ?_)
  · refine sx_bipush (v := (-2 : Int32)) dc_Mo_pairs_32 (by decide) ?_
    exact sx_retI dc_Mo_pairs_34 rfl hk.val
  · refine sx_if_eq (tgt := 32) dc_Mo_pairs_4 (by decide) (fun c20 => ?_) (fun c20 => ?_)
    · replace hk := hk.t c20
      exact jk19 q17.2 hk
    · replace hk := hk.f c20
      refine sx_iload_n dc_Mo_pairs_7 rfl ?_
      refine sx_i2l dc_Mo_pairs_8 ?_
      refine sx_lconst (v := 0) dc_Mo_pairs_9 (by decide) ?_
      refine sx_ldc2 (v := 2) wJ_Mo_98 dc_Mo_pairs_10 ?_
      obtain ⟨q21, eq21, hk⟩ := hk.bind
      refine sx_callS (d2 := d - 1) (mc2 := 0) (ms2 := 0) (as := [xJ a2.toInt64, xJ (0 : Int64), xJ (2 : Int64)]) mk_Mo_in rfl wM_Mo_73 mt_Mo_in rfl (Nat.le_of_ble_eq_true rfl) (Nat.le_of_ble_eq_true rfl) dc_Mo_pairs_13 (by omega) (Nat.zero_le _) (Nat.zero_le _) ?_
      refine t_Mo_in (by omega) ⟨q21, eq21, ?_⟩
      refine sx_eq0 (lc2 := [some (xR a0), some (xI a1), some (xI a2), some (xI a3), some (xI a4), none, none, none]) (st2 := [xI q21.1]) rfl rfl ?_
      refine sx_if_eq (tgt := 32) dc_Mo_pairs_16 (by decide) (fun c22 => ?_) (fun c22 => ?_)
      · replace hk := hk.t c22
        exact jk19 q21.2 hk
      · replace hk := hk.f c22
        refine sx_iload dc_Mo_pairs_19 rfl ?_
        refine sx_i2l dc_Mo_pairs_21 ?_
        refine sx_lconst (v := 0) dc_Mo_pairs_22 (by decide) ?_
        refine sx_ldc2 (v := 13) wJ_Mo_344 dc_Mo_pairs_23 ?_
        obtain ⟨q23, eq23, hk⟩ := hk.bind
        refine sx_callS (d2 := d - 1) (mc2 := 0) (ms2 := 0) (as := [xJ a4.toInt64, xJ (0 : Int64), xJ (13 : Int64)]) mk_Mo_in rfl wM_Mo_73 mt_Mo_in rfl (Nat.le_of_ble_eq_true rfl) (Nat.le_of_ble_eq_true rfl) dc_Mo_pairs_26 (by omega) (Nat.zero_le _) (Nat.zero_le _) ?_
        refine t_Mo_in (by omega) ⟨q23, eq23, ?_⟩
        refine sx_eq0 (lc2 := [some (xR a0), some (xI a1), some (xI a2), some (xI a3), some (xI a4), none, none, none]) (st2 := [xI q23.1]) rfl rfl ?_
        refine sx_if_ne (tgt := 35) dc_Mo_pairs_29 (by decide) (fun c24 => ?_) (fun c24 => ?_)
        · replace hk := hk.f c24
          refine sx_aload_n dc_Mo_pairs_35 rfl ?_
          obtain ⟨g25, hk⟩ := hk.g
          refine sx_get (ci := 11) (k := 41) rfl (by decide) wF_Mo_54 g25 dc_Mo_pairs_36 ?_
          refine sx_iload_n dc_Mo_pairs_39 rfl ?_
          obtain ⟨g26, hk⟩ := hk.g
          obtain ⟨g27, hk⟩ := hk.g
          refine sx_zald g26 g27 dc_Mo_pairs_40 ?_
          refine hk.j (X := fun x28 => Sx l z d mc ms M_Mo_pairs 57 [some (xR a0), some (xI a1), some (xI a2), some (xI a3), some (xI a4), none, none, none] [] q23.2 Ph) (fun x28 hk => ?_) (fun k29 jk29 hk => ?_)
          · refine sx_aload_n dc_Mo_pairs_57 rfl ?_
            refine sx_get (ci := 11) (k := 41) rfl (by decide) wF_Mo_54 g25 dc_Mo_pairs_58 ?_
            refine sx_iload_n dc_Mo_pairs_61 rfl ?_
            obtain ⟨g30, hk⟩ := hk.g
            refine sx_zald g26 g30 dc_Mo_pairs_62 ?_
            refine sx_if_ne (tgt := 69) dc_Mo_pairs_63 (by decide) (fun c31 => ?_) (fun c31 => ?_)
            · replace hk := hk.f c31
              refine sx_iconst (v := (0 : Int32)) dc_Mo_pairs_69 (by decide) ?_
              refine sx_istore dc_Mo_pairs_70 (by decide) (sx_eq (lc2 := [some (xR a0), some (xI a1), some (xI a2), some (xI a3), some (xI a4), some (xI (0 : Int32)), none, none]) rfl rfl ?_)
              refine sx_iconst (v := (0 : Int32)) dc_Mo_pairs_72 (by decide) ?_
              refine sx_istore dc_Mo_pairs_73 (by decide) (sx_eq (lc2 := [some (xR a0), some (xI a1), some (xI a2), some (xI a3), some (xI a4), some (xI (0 : Int32)), some (xI (0 : Int32)), none]) rfl rfl ?_)
              refine t_Mo_pairs_L75 (by omega) _ _ _ _ _ hk (fun v47 v48 h49 hk => ?_)
              refine sx_iload dc_Mo_pairs_167 rfl ?_
              exact sx_retI dc_Mo_pairs_169 rfl hk.val
            · replace hk := hk.t c31
              refine sx_bipush (v := (-11 : Int32)) dc_Mo_pairs_66 (by decide) ?_
              exact sx_retI dc_Mo_pairs_68 rfl hk.val
          · refine sx_if_eq (tgt := 57) dc_Mo_pairs_41 (by decide) (fun c50 => ?_) (fun c50 => ?_)
            · replace hk := hk.t c50
              exact jk29 () hk
            · replace hk := hk.f c50
              refine sx_aload_n dc_Mo_pairs_44 rfl ?_
              refine sx_get (ci := 11) (k := 42) rfl (by decide) wF_Mo_57 g25 dc_Mo_pairs_45 ?_
              refine sx_iload_n dc_Mo_pairs_48 rfl ?_
              obtain ⟨g51, hk⟩ := hk.g
              obtain ⟨g52, hk⟩ := hk.g
              refine sx_iald g51 g52 dc_Mo_pairs_49 ?_
              refine sx_iload_n dc_Mo_pairs_50 rfl ?_
              refine sx_icmp_eq (tgt := 57) dc_Mo_pairs_51 (by decide) (fun c53 => ?_) (fun c53 => ?_)
              · replace hk := hk.t c53
                exact jk29 () hk
              · replace hk := hk.f c53
                refine sx_bipush (v := (-13 : Int32)) dc_Mo_pairs_54 (by decide) ?_
                exact sx_retI dc_Mo_pairs_56 rfl hk.val
        · replace hk := hk.t c24
          exact jk19 q23.2 hk
theorem dc_Mo_over_0 : decode M_Mo_over.2.1 0 = .ok (.iload_n 0, 1) := by decide +kernel
theorem dc_Mo_over_1 : decode M_Mo_over.2.1 1 = .ok (.ifCond .ne 7, 3) := by decide +kernel
theorem dc_Mo_over_4 : decode M_Mo_over.2.1 4 = .ok (.iconst (-1), 1) := by decide +kernel
theorem dc_Mo_over_5 : decode M_Mo_over.2.1 5 = .ok (.goto 27, 3) := by decide +kernel
theorem dc_Mo_over_8 : decode M_Mo_over.2.1 8 = .ok (.iload_n 0, 1) := by decide +kernel
theorem dc_Mo_over_9 : decode M_Mo_over.2.1 9 = .ok (.iconst 1, 1) := by decide +kernel
theorem dc_Mo_over_10 : decode M_Mo_over.2.1 10 = .ok (.if_icmp .eq 8, 3) := by decide +kernel
theorem dc_Mo_over_13 : decode M_Mo_over.2.1 13 = .ok (.iload_n 0, 1) := by decide +kernel
theorem dc_Mo_over_14 : decode M_Mo_over.2.1 14 = .ok (.iconst 2, 1) := by decide +kernel
theorem dc_Mo_over_15 : decode M_Mo_over.2.1 15 = .ok (.if_icmp .ne 7, 3) := by decide +kernel
theorem dc_Mo_over_18 : decode M_Mo_over.2.1 18 = .ok (.iconst 0, 1) := by decide +kernel
theorem dc_Mo_over_19 : decode M_Mo_over.2.1 19 = .ok (.goto 13, 3) := by decide +kernel
theorem dc_Mo_over_22 : decode M_Mo_over.2.1 22 = .ok (.iload_n 0, 1) := by decide +kernel
theorem dc_Mo_over_23 : decode M_Mo_over.2.1 23 = .ok (.iconst 3, 1) := by decide +kernel
theorem dc_Mo_over_24 : decode M_Mo_over.2.1 24 = .ok (.if_icmp .ne 7, 3) := by decide +kernel
theorem dc_Mo_over_27 : decode M_Mo_over.2.1 27 = .ok (.iconst 1, 1) := by decide +kernel
theorem dc_Mo_over_28 : decode M_Mo_over.2.1 28 = .ok (.goto 4, 3) := by decide +kernel
theorem dc_Mo_over_31 : decode M_Mo_over.2.1 31 = .ok (.iconst 2, 1) := by decide +kernel
theorem dc_Mo_over_32 : decode M_Mo_over.2.1 32 = .ok (.ireturn, 1) := by decide +kernel
def f_Mo_over (a0 : Int32) (h : xH) : Option (Int32 × xH) := some ((if a0 = 0 then (-1 : Int32) else if a0 = (1 : Int32) then (0 : Int32) else if a0 = (2 : Int32) then (0 : Int32) else if a0 = (3 : Int32) then (1 : Int32) else (2 : Int32)), h)
theorem t_Mo_over {l : Launch} {z : xZ} {d mc ms : Nat} {Ph : Option xV → xH → Prop} {a0 : Int32}  {h : xH} (hd : 1 ≤ d) (hk : OK (f_Mo_over a0 h) (fun q => Ph (some (xI q.1)) q.2)) : Sx l z d mc ms M_Mo_over 0 (x_en [xI a0] 1) [] h Ph := by
  unfold f_Mo_over at hk
  refine sx_eq (lc2 := [some (xI a0)]) rfl rfl ?_
  refine sx_iload_n dc_Mo_over_0 rfl ?_
  refine sx_mg (pc2 := 32) (lc2 := [some (xI a0)]) (st2 := [xI (if a0 = 0 then (-1 : Int32) else if a0 = (1 : Int32) then (0 : Int32) else if a0 = (2 : Int32) then (0 : Int32) else if a0 = (3 : Int32) then (1 : Int32) else (2 : Int32))]) (h2 := h) ?_ (fun J1 => ?_)
  · exact sx_retI dc_Mo_over_32 rfl hk.val
  · refine sx_if_ne (tgt := 8) dc_Mo_over_1 (by decide) (fun c2 => ?_) (fun c2 => ?_)
    · try simp only [if_neg c2] at J1
      refine sx_iload_n dc_Mo_over_8 rfl ?_
      refine sx_iconst (v := (1 : Int32)) dc_Mo_over_9 (by decide) ?_
      refine sx_icmp_eq (tgt := 18) dc_Mo_over_10 (by decide) (fun c3 => ?_) (fun c3 => ?_)
      · try simp only [if_pos c3] at J1
        refine sx_iconst (v := (0 : Int32)) dc_Mo_over_18 (by decide) ?_
        refine sx_goto (tgt := 32) dc_Mo_over_19 (by decide) ?_
        exact J1
      · try simp only [if_neg c3] at J1
        refine sx_iload_n dc_Mo_over_13 rfl ?_
        refine sx_iconst (v := (2 : Int32)) dc_Mo_over_14 (by decide) ?_
        refine sx_icmp_ne (tgt := 22) dc_Mo_over_15 (by decide) (fun c4 => ?_) (fun c4 => ?_)
        · try simp only [if_neg c4] at J1
          refine sx_iload_n dc_Mo_over_22 rfl ?_
          refine sx_iconst (v := (3 : Int32)) dc_Mo_over_23 (by decide) ?_
          refine sx_icmp_ne (tgt := 31) dc_Mo_over_24 (by decide) (fun c5 => ?_) (fun c5 => ?_)
          · try simp only [if_neg c5] at J1
            refine sx_iconst (v := (2 : Int32)) dc_Mo_over_31 (by decide) ?_
            exact J1
          · try simp only [if_pos c5] at J1
            refine sx_iconst (v := (1 : Int32)) dc_Mo_over_27 (by decide) ?_
            refine sx_goto (tgt := 32) dc_Mo_over_28 (by decide) ?_
            exact J1
        · try simp only [if_pos c4] at J1
          refine sx_iconst (v := (0 : Int32)) dc_Mo_over_18 (by decide) ?_
          refine sx_goto (tgt := 32) dc_Mo_over_19 (by decide) ?_
          exact J1
    · try simp only [if_pos c2] at J1
      refine sx_iconst (v := (-1 : Int32)) dc_Mo_over_4 (by decide) ?_
      refine sx_goto (tgt := 32) dc_Mo_over_5 (by decide) ?_
      exact J1
theorem dc_Mo_taken_0 : decode M_Mo_taken.2.1 0 = .ok (.iload_n 2, 1) := by decide +kernel
theorem dc_Mo_taken_1 : decode M_Mo_taken.2.1 1 = .ok (.i2l, 1) := by decide +kernel
theorem dc_Mo_taken_2 : decode M_Mo_taken.2.1 2 = .ok (.lconst 0, 1) := by decide +kernel
theorem dc_Mo_taken_3 : decode M_Mo_taken.2.1 3 = .ok (.ldc2_w 106, 3) := by decide +kernel
theorem dc_Mo_taken_6 : decode M_Mo_taken.2.1 6 = .ok (.invokestatic 73, 3) := by decide +kernel
theorem dc_Mo_taken_9 : decode M_Mo_taken.2.1 9 = .ok (.ifCond .ne 6, 3) := by decide +kernel
theorem dc_Mo_taken_12 : decode M_Mo_taken.2.1 12 = .ok (.bipush (-2), 2) := by decide +kernel
theorem dc_Mo_taken_14 : decode M_Mo_taken.2.1 14 = .ok (.ireturn, 1) := by decide +kernel
theorem dc_Mo_taken_15 : decode M_Mo_taken.2.1 15 = .ok (.aload_n 0, 1) := by decide +kernel
theorem dc_Mo_taken_16 : decode M_Mo_taken.2.1 16 = .ok (.iload_n 1, 1) := by decide +kernel
theorem dc_Mo_taken_17 : decode M_Mo_taken.2.1 17 = .ok (.invokevirtual 110, 3) := by decide +kernel
theorem dc_Mo_taken_20 : decode M_Mo_taken.2.1 20 = .ok (.ifCond .ne 6, 3) := by decide +kernel
theorem dc_Mo_taken_23 : decode M_Mo_taken.2.1 23 = .ok (.bipush (-11), 2) := by decide +kernel
theorem dc_Mo_taken_25 : decode M_Mo_taken.2.1 25 = .ok (.ireturn, 1) := by decide +kernel
theorem dc_Mo_taken_26 : decode M_Mo_taken.2.1 26 = .ok (.aload_n 0, 1) := by decide +kernel
theorem dc_Mo_taken_27 : decode M_Mo_taken.2.1 27 = .ok (.getfield 29, 3) := by decide +kernel
theorem dc_Mo_taken_30 : decode M_Mo_taken.2.1 30 = .ok (.iload_n 1, 1) := by decide +kernel
theorem dc_Mo_taken_31 : decode M_Mo_taken.2.1 31 = .ok (.iaload, 1) := by decide +kernel
theorem dc_Mo_taken_32 : decode M_Mo_taken.2.1 32 = .ok (.istore_n 3, 1) := by decide +kernel
theorem dc_Mo_taken_33 : decode M_Mo_taken.2.1 33 = .ok (.iload_n 3, 1) := by decide +kernel
theorem dc_Mo_taken_34 : decode M_Mo_taken.2.1 34 = .ok (.iconst (-1), 1) := by decide +kernel
theorem dc_Mo_taken_35 : decode M_Mo_taken.2.1 35 = .ok (.if_icmp .eq 16, 3) := by decide +kernel
theorem dc_Mo_taken_38 : decode M_Mo_taken.2.1 38 = .ok (.iload_n 3, 1) := by decide +kernel
theorem dc_Mo_taken_39 : decode M_Mo_taken.2.1 39 = .ok (.iload_n 2, 1) := by decide +kernel
theorem dc_Mo_taken_40 : decode M_Mo_taken.2.1 40 = .ok (.if_icmp .eq 11, 3) := by decide +kernel
theorem dc_Mo_taken_43 : decode M_Mo_taken.2.1 43 = .ok (.iload_n 3, 1) := by decide +kernel
theorem dc_Mo_taken_44 : decode M_Mo_taken.2.1 44 = .ok (.invokestatic 349, 3) := by decide +kernel
theorem dc_Mo_taken_47 : decode M_Mo_taken.2.1 47 = .ok (.istore_n 3, 1) := by decide +kernel
theorem dc_Mo_taken_48 : decode M_Mo_taken.2.1 48 = .ok (.goto (-15), 3) := by decide +kernel
theorem dc_Mo_taken_51 : decode M_Mo_taken.2.1 51 = .ok (.iload_n 3, 1) := by decide +kernel
theorem dc_Mo_taken_52 : decode M_Mo_taken.2.1 52 = .ok (.iload_n 2, 1) := by decide +kernel
theorem dc_Mo_taken_53 : decode M_Mo_taken.2.1 53 = .ok (.if_icmp .ne 12, 3) := by decide +kernel
theorem dc_Mo_taken_56 : decode M_Mo_taken.2.1 56 = .ok (.aload_n 0, 1) := by decide +kernel
theorem dc_Mo_taken_57 : decode M_Mo_taken.2.1 57 = .ok (.getfield 32, 3) := by decide +kernel
theorem dc_Mo_taken_60 : decode M_Mo_taken.2.1 60 = .ok (.iload_n 1, 1) := by decide +kernel
theorem dc_Mo_taken_61 : decode M_Mo_taken.2.1 61 = .ok (.iaload, 1) := by decide +kernel
theorem dc_Mo_taken_62 : decode M_Mo_taken.2.1 62 = .ok (.goto 5, 3) := by decide +kernel
theorem dc_Mo_taken_65 : decode M_Mo_taken.2.1 65 = .ok (.bipush (-13), 2) := by decide +kernel
theorem dc_Mo_taken_67 : decode M_Mo_taken.2.1 67 = .ok (.ireturn, 1) := by decide +kernel
def f_Mo_taken_L33 (a0 : Nat) (a1 : Int32) (a2 : Int32) : Nat → Int32 → xH → (Int32 → xH → Option (Int32 × xH)) → Option (Int32 × xH)
  | 0, _, _, _ => none
  | n + 1, a3, h, K => if a3 = (-1 : Int32) then K a3 h else if a3 = a2 then K a3 h else Option.bind (f_Mo_over a3 h) (fun q20 => f_Mo_taken_L33 a0 a1 a2 n q20.1 q20.2 K)
def f_Mo_taken (a0 : Nat) (a1 : Int32) (a2 : Int32) (h : xH) : Option (Int32 × xH) := Option.bind (f_Mo_in a2.toInt64 (0 : Int64) (5 : Int64) h) (fun q10 => if q10.1 = 0 then some ((-2 : Int32), q10.2) else gd (hK q10.2 a0 = 11) (Option.bind (f_Mo_isTown a0 a1 q10.2) (fun q12 => if q12.1 = 0 then some ((-11 : Int32), q12.2) else gd (hK q12.2 a0 = 11) (gd (hK q12.2 (hR q12.2 a0 10) = 12) (gd (¬ (a1 < 0 ∨ hL q12.2 (hR q12.2 a0 10) ≤ a1.toNatClampNeg)) (f_Mo_taken_L33 a0 a1 a2 fu (hI q12.2 (hR q12.2 a0 10) a1.toNatClampNeg) q12.2 (fun v21 h22 => jn (fun (x23 : Int32) => some (x23, h22)) (fun k24 => if v21 = a2 then gd (hK h22 a0 = 11) (gd (hK h22 (hR h22 a0 11) = 12) (gd (¬ (a1 < 0 ∨ hL h22 (hR h22 a0 11) ≤ a1.toNatClampNeg)) (k24 (hI h22 (hR h22 a0 11) a1.toNatClampNeg)))) else k24 (-13 : Int32)))))))))
theorem t_Mo_taken_L33 {l : Launch} {z : xZ} {d mc ms : Nat} {Ph : Option xV → xH → Prop} {a0 : Nat} {a1 : Int32} {a2 : Int32}  (hd : 2 ≤ d) : ∀ (n : Nat) (a3 : Int32) (h : xH) (K : Int32 → xH → Option (Int32 × xH)), OK (f_Mo_taken_L33 a0 a1 a2 n a3 h K) (fun q => Ph (some (xI q.1)) q.2) → (∀ (a3 : Int32) (h : xH), OK (K a3 h) (fun q => Ph (some (xI q.1)) q.2) → Sx l z d mc ms M_Mo_taken 51 [some (xR a0), some (xI a1), some (xI a2), some (xI a3)] [] h Ph) → Sx l z d mc ms M_Mo_taken 33 [some (xR a0), some (xI a1), some (xI a2), some (xI a3)] [] h Ph := by
  intro n
  induction n with
  | zero => intro a3 h K hk hE; exact hk.no
  | succ n ih =>
    intro a3 h K hk hE
    rw [f_Mo_taken_L33] at hk
    refine sx_iload_n dc_Mo_taken_33 rfl ?_
    refine sx_iconst (v := (-1 : Int32)) dc_Mo_taken_34 (by decide) ?_
    refine sx_icmp_eq (tgt := 51) dc_Mo_taken_35 (by decide) (fun c18 => ?_) (fun c18 => ?_)
    · replace hk := hk.t c18
      exact hE a3 h hk
    · replace hk := hk.f c18
      refine sx_iload_n dc_Mo_taken_38 rfl ?_
      refine sx_iload_n dc_Mo_taken_39 rfl ?_
      refine sx_icmp_eq (tgt := 51) dc_Mo_taken_40 (by decide) (fun c19 => ?_) (fun c19 => ?_)
      · replace hk := hk.t c19
        exact hE a3 h hk
      · replace hk := hk.f c19
        refine sx_iload_n dc_Mo_taken_43 rfl ?_
        obtain ⟨q20, eq20, hk⟩ := hk.bind
        refine sx_callS (d2 := d - 1) (mc2 := 0) (ms2 := 0) (as := [xI a3]) mk_Mo_over rfl wM_Mo_349 mt_Mo_over rfl (Nat.le_of_ble_eq_true rfl) (Nat.le_of_ble_eq_true rfl) dc_Mo_taken_44 (by omega) (Nat.zero_le _) (Nat.zero_le _) ?_
        refine t_Mo_over (by omega) ⟨q20, eq20, ?_⟩
        refine sx_eq0 (lc2 := [some (xR a0), some (xI a1), some (xI a2), some (xI a3)]) (st2 := [xI q20.1]) rfl rfl ?_
        refine sx_istore_n dc_Mo_taken_47 (by decide) (sx_eq (lc2 := [some (xR a0), some (xI a1), some (xI a2), some (xI q20.1)]) rfl rfl ?_)
        refine sx_goto (tgt := 33) dc_Mo_taken_48 (by decide) ?_
        exact ih q20.1 q20.2 _ hk hE
theorem t_Mo_taken {l : Launch} {z : xZ} {d mc ms : Nat} {Ph : Option xV → xH → Prop} {a0 : Nat} {a1 : Int32} {a2 : Int32}  {h : xH} (hd : 3 ≤ d) (hk : OK (f_Mo_taken a0 a1 a2 h) (fun q => Ph (some (xI q.1)) q.2)) : Sx l z d mc ms M_Mo_taken 0 (x_en [xR a0, xI a1, xI a2] 4) [] h Ph := by
  unfold f_Mo_taken at hk
  refine sx_eq (lc2 := [some (xR a0), some (xI a1), some (xI a2), none]) rfl rfl ?_
  refine sx_iload_n dc_Mo_taken_0 rfl ?_
  refine sx_i2l dc_Mo_taken_1 ?_
  refine sx_lconst (v := 0) dc_Mo_taken_2 (by decide) ?_
  refine sx_ldc2 (v := 5) wJ_Mo_106 dc_Mo_taken_3 ?_
  obtain ⟨q10, eq10, hk⟩ := hk.bind
  refine sx_callS (d2 := d - 1) (mc2 := 0) (ms2 := 0) (as := [xJ a2.toInt64, xJ (0 : Int64), xJ (5 : Int64)]) mk_Mo_in rfl wM_Mo_73 mt_Mo_in rfl (Nat.le_of_ble_eq_true rfl) (Nat.le_of_ble_eq_true rfl) dc_Mo_taken_6 (by omega) (Nat.zero_le _) (Nat.zero_le _) ?_
  refine t_Mo_in (by omega) ⟨q10, eq10, ?_⟩
  refine sx_eq0 (lc2 := [some (xR a0), some (xI a1), some (xI a2), none]) (st2 := [xI q10.1]) rfl rfl ?_
  refine sx_if_ne (tgt := 15) dc_Mo_taken_9 (by decide) (fun c11 => ?_) (fun c11 => ?_)
  · replace hk := hk.f c11
    refine sx_aload_n dc_Mo_taken_15 rfl ?_
    refine sx_iload_n dc_Mo_taken_16 rfl ?_
    obtain ⟨g13, hk⟩ := hk.g
    obtain ⟨q12, eq12, hk⟩ := hk.bind
    refine sx_callV (d2 := d - 1) (mc2 := 0) (ms2 := 0) (as := [xI a1]) mk_Mo_isTown rfl (x_rk (ci := 11) g13 rfl rfl) wM_Mo_110 mi_Mo_isTown me_Mo_isTown rfl (Nat.le_of_ble_eq_true rfl) (Nat.le_of_ble_eq_true rfl) dc_Mo_taken_17 (by omega) (Nat.zero_le _) (Nat.zero_le _) ?_
    refine t_Mo_isTown (by omega) ⟨q12, eq12, ?_⟩
    refine sx_eq0 (lc2 := [some (xR a0), some (xI a1), some (xI a2), none]) (st2 := [xI q12.1]) rfl rfl ?_
    refine sx_if_ne (tgt := 26) dc_Mo_taken_20 (by decide) (fun c14 => ?_) (fun c14 => ?_)
    · replace hk := hk.f c14
      refine sx_aload_n dc_Mo_taken_26 rfl ?_
      obtain ⟨g15, hk⟩ := hk.g
      refine sx_get (ci := 11) (k := 10) rfl (by decide) wF_Mo_29 g15 dc_Mo_taken_27 ?_
      refine sx_iload_n dc_Mo_taken_30 rfl ?_
      obtain ⟨g16, hk⟩ := hk.g
      obtain ⟨g17, hk⟩ := hk.g
      refine sx_iald g16 g17 dc_Mo_taken_31 ?_
      refine sx_istore_n dc_Mo_taken_32 (by decide) (sx_eq (lc2 := [some (xR a0), some (xI a1), some (xI a2), some (xI (hI q12.2 (hR q12.2 a0 10) a1.toNatClampNeg))]) rfl rfl ?_)
      refine t_Mo_taken_L33 (by omega) _ _ _ _ hk (fun v21 h22 hk => ?_)
      refine sx_iload_n dc_Mo_taken_51 rfl ?_
      refine sx_iload_n dc_Mo_taken_52 rfl ?_
      refine hk.j (X := fun x23 => Sx l z d mc ms M_Mo_taken 67 [some (xR a0), some (xI a1), some (xI a2), some (xI v21)] [xI x23] h22 Ph) (fun x23 hk => ?_) (fun k24 jk24 hk => ?_)
      · exact sx_retI dc_Mo_taken_67 rfl hk.val
      · refine sx_icmp_ne (tgt := 65) dc_Mo_taken_53 (by decide) (fun c25 => ?_) (fun c25 => ?_)
        · replace hk := hk.f c25
          refine sx_bipush (v := (-13 : Int32)) dc_Mo_taken_65 (by decide) ?_
          exact jk24 (-13 : Int32) hk
        · replace hk := hk.t c25
          refine sx_aload_n dc_Mo_taken_56 rfl ?_
          obtain ⟨g26, hk⟩ := hk.g
          refine sx_get (ci := 11) (k := 11) rfl (by decide) wF_Mo_32 g26 dc_Mo_taken_57 ?_
          refine sx_iload_n dc_Mo_taken_60 rfl ?_
          obtain ⟨g27, hk⟩ := hk.g
          obtain ⟨g28, hk⟩ := hk.g
          refine sx_iald g27 g28 dc_Mo_taken_61 ?_
          refine sx_goto (tgt := 67) dc_Mo_taken_62 (by decide) ?_
          exact jk24 (hI h22 (hR h22 a0 11) a1.toNatClampNeg) hk
    · replace hk := hk.t c14
      refine sx_bipush (v := (-11 : Int32)) dc_Mo_taken_23 (by decide) ?_
      exact sx_retI dc_Mo_taken_25 rfl hk.val
  · replace hk := hk.t c11
    refine sx_bipush (v := (-2 : Int32)) dc_Mo_taken_12 (by decide) ?_
    exact sx_retI dc_Mo_taken_14 rfl hk.val
theorem dc_La_law_0 : decode M_La_law.2.1 0 = .ok (.new 7, 3) := by decide +kernel
theorem dc_La_law_3 : decode M_La_law.2.1 3 = .ok (.dup, 1) := by decide +kernel
theorem dc_La_law_4 : decode M_La_law.2.1 4 = .ok (.invokespecial 9, 3) := by decide +kernel
theorem dc_La_law_7 : decode M_La_law.2.1 7 = .ok (.astore_n 1, 1) := by decide +kernel
theorem dc_La_law_8 : decode M_La_law.2.1 8 = .ok (.new 10, 3) := by decide +kernel
theorem dc_La_law_11 : decode M_La_law.2.1 11 = .ok (.dup, 1) := by decide +kernel
theorem dc_La_law_12 : decode M_La_law.2.1 12 = .ok (.invokespecial 12, 3) := by decide +kernel
theorem dc_La_law_15 : decode M_La_law.2.1 15 = .ok (.astore_n 2, 1) := by decide +kernel
theorem dc_La_law_16 : decode M_La_law.2.1 16 = .ok (.iconst 0, 1) := by decide +kernel
theorem dc_La_law_17 : decode M_La_law.2.1 17 = .ok (.istore_n 3, 1) := by decide +kernel
theorem dc_La_law_18 : decode M_La_law.2.1 18 = .ok (.iload_n 3, 1) := by decide +kernel
theorem dc_La_law_19 : decode M_La_law.2.1 19 = .ok (.aload_n 0, 1) := by decide +kernel
theorem dc_La_law_20 : decode M_La_law.2.1 20 = .ok (.arraylength, 1) := by decide +kernel
theorem dc_La_law_21 : decode M_La_law.2.1 21 = .ok (.bipush 6, 2) := by decide +kernel
theorem dc_La_law_23 : decode M_La_law.2.1 23 = .ok (.isub, 1) := by decide +kernel
theorem dc_La_law_24 : decode M_La_law.2.1 24 = .ok (.if_icmp .gt 1129, 3) := by decide +kernel
theorem dc_La_law_27 : decode M_La_law.2.1 27 = .ok (.aload_n 0, 1) := by decide +kernel
theorem dc_La_law_28 : decode M_La_law.2.1 28 = .ok (.iload_n 3, 1) := by decide +kernel
theorem dc_La_law_29 : decode M_La_law.2.1 29 = .ok (.iaload, 1) := by decide +kernel
theorem dc_La_law_30 : decode M_La_law.2.1 30 = .ok (.bipush 63, 2) := by decide +kernel
theorem dc_La_law_32 : decode M_La_law.2.1 32 = .ok (.iand, 1) := by decide +kernel
theorem dc_La_law_33 : decode M_La_law.2.1 33 = .ok (.tableswitch 1114 0 33 #[151, 174, 217, 250, 283, 306, 359, 382, 395, 418, 441, 474, 487, 510, 533, 556, 589, 612, 625, 648, 681, 704, 728, 751, 784, 807, 830, 843, 856, 879, 922, 965, 1028, 1081], 151) := by decide +kernel
theorem dc_La_law_184 : decode M_La_law.2.1 184 = .ok (.aload_n 1, 1) := by decide +kernel
theorem dc_La_law_185 : decode M_La_law.2.1 185 = .ok (.aload_n 0, 1) := by decide +kernel
theorem dc_La_law_186 : decode M_La_law.2.1 186 = .ok (.iload_n 3, 1) := by decide +kernel
theorem dc_La_law_187 : decode M_La_law.2.1 187 = .ok (.iconst 1, 1) := by decide +kernel
theorem dc_La_law_188 : decode M_La_law.2.1 188 = .ok (.iadd, 1) := by decide +kernel
theorem dc_La_law_189 : decode M_La_law.2.1 189 = .ok (.iaload, 1) := by decide +kernel
theorem dc_La_law_190 : decode M_La_law.2.1 190 = .ok (.invokevirtual 13, 3) := by decide +kernel
theorem dc_La_law_193 : decode M_La_law.2.1 193 = .ok (.aload_n 2, 1) := by decide +kernel
theorem dc_La_law_194 : decode M_La_law.2.1 194 = .ok (.aload_n 0, 1) := by decide +kernel
theorem dc_La_law_195 : decode M_La_law.2.1 195 = .ok (.iload_n 3, 1) := by decide +kernel
theorem dc_La_law_196 : decode M_La_law.2.1 196 = .ok (.iconst 1, 1) := by decide +kernel
theorem dc_La_law_197 : decode M_La_law.2.1 197 = .ok (.iadd, 1) := by decide +kernel
theorem dc_La_law_198 : decode M_La_law.2.1 198 = .ok (.iaload, 1) := by decide +kernel
theorem dc_La_law_199 : decode M_La_law.2.1 199 = .ok (.invokevirtual 17, 3) := by decide +kernel
theorem dc_La_law_202 : decode M_La_law.2.1 202 = .ok (.if_icmp .eq 945, 3) := by decide +kernel
theorem dc_La_law_205 : decode M_La_law.2.1 205 = .ok (.iconst 0, 1) := by decide +kernel
theorem dc_La_law_206 : decode M_La_law.2.1 206 = .ok (.ireturn, 1) := by decide +kernel
theorem dc_La_law_207 : decode M_La_law.2.1 207 = .ok (.aload_n 1, 1) := by decide +kernel
theorem dc_La_law_208 : decode M_La_law.2.1 208 = .ok (.aload_n 0, 1) := by decide +kernel
theorem dc_La_law_209 : decode M_La_law.2.1 209 = .ok (.iload_n 3, 1) := by decide +kernel
theorem dc_La_law_210 : decode M_La_law.2.1 210 = .ok (.iconst 1, 1) := by decide +kernel
theorem dc_La_law_211 : decode M_La_law.2.1 211 = .ok (.iadd, 1) := by decide +kernel
theorem dc_La_law_212 : decode M_La_law.2.1 212 = .ok (.iaload, 1) := by decide +kernel
theorem dc_La_law_213 : decode M_La_law.2.1 213 = .ok (.aload_n 0, 1) := by decide +kernel
theorem dc_La_law_214 : decode M_La_law.2.1 214 = .ok (.iload_n 3, 1) := by decide +kernel
theorem dc_La_law_215 : decode M_La_law.2.1 215 = .ok (.iconst 2, 1) := by decide +kernel
theorem dc_La_law_216 : decode M_La_law.2.1 216 = .ok (.iadd, 1) := by decide +kernel
theorem dc_La_law_217 : decode M_La_law.2.1 217 = .ok (.iaload, 1) := by decide +kernel
theorem dc_La_law_218 : decode M_La_law.2.1 218 = .ok (.aload_n 0, 1) := by decide +kernel
theorem dc_La_law_219 : decode M_La_law.2.1 219 = .ok (.iload_n 3, 1) := by decide +kernel
theorem dc_La_law_220 : decode M_La_law.2.1 220 = .ok (.iconst 3, 1) := by decide +kernel
theorem dc_La_law_221 : decode M_La_law.2.1 221 = .ok (.iadd, 1) := by decide +kernel
theorem dc_La_law_222 : decode M_La_law.2.1 222 = .ok (.iaload, 1) := by decide +kernel
theorem dc_La_law_223 : decode M_La_law.2.1 223 = .ok (.invokevirtual 18, 3) := by decide +kernel
theorem dc_La_law_226 : decode M_La_law.2.1 226 = .ok (.aload_n 2, 1) := by decide +kernel
theorem dc_La_law_227 : decode M_La_law.2.1 227 = .ok (.aload_n 0, 1) := by decide +kernel
theorem dc_La_law_228 : decode M_La_law.2.1 228 = .ok (.iload_n 3, 1) := by decide +kernel
theorem dc_La_law_229 : decode M_La_law.2.1 229 = .ok (.iconst 1, 1) := by decide +kernel
theorem dc_La_law_230 : decode M_La_law.2.1 230 = .ok (.iadd, 1) := by decide +kernel
theorem dc_La_law_231 : decode M_La_law.2.1 231 = .ok (.iaload, 1) := by decide +kernel
theorem dc_La_law_232 : decode M_La_law.2.1 232 = .ok (.aload_n 0, 1) := by decide +kernel
theorem dc_La_law_233 : decode M_La_law.2.1 233 = .ok (.iload_n 3, 1) := by decide +kernel
theorem dc_La_law_234 : decode M_La_law.2.1 234 = .ok (.iconst 2, 1) := by decide +kernel
theorem dc_La_law_235 : decode M_La_law.2.1 235 = .ok (.iadd, 1) := by decide +kernel
theorem dc_La_law_236 : decode M_La_law.2.1 236 = .ok (.iaload, 1) := by decide +kernel
theorem dc_La_law_237 : decode M_La_law.2.1 237 = .ok (.aload_n 0, 1) := by decide +kernel
theorem dc_La_law_238 : decode M_La_law.2.1 238 = .ok (.iload_n 3, 1) := by decide +kernel
theorem dc_La_law_239 : decode M_La_law.2.1 239 = .ok (.iconst 3, 1) := by decide +kernel
theorem dc_La_law_240 : decode M_La_law.2.1 240 = .ok (.iadd, 1) := by decide +kernel
theorem dc_La_law_241 : decode M_La_law.2.1 241 = .ok (.iaload, 1) := by decide +kernel
theorem dc_La_law_242 : decode M_La_law.2.1 242 = .ok (.invokevirtual 22, 3) := by decide +kernel
theorem dc_La_law_245 : decode M_La_law.2.1 245 = .ok (.if_icmp .eq 902, 3) := by decide +kernel
theorem dc_La_law_248 : decode M_La_law.2.1 248 = .ok (.iconst 0, 1) := by decide +kernel
theorem dc_La_law_249 : decode M_La_law.2.1 249 = .ok (.ireturn, 1) := by decide +kernel
theorem dc_La_law_250 : decode M_La_law.2.1 250 = .ok (.aload_n 1, 1) := by decide +kernel
theorem dc_La_law_251 : decode M_La_law.2.1 251 = .ok (.aload_n 0, 1) := by decide +kernel
theorem dc_La_law_252 : decode M_La_law.2.1 252 = .ok (.iload_n 3, 1) := by decide +kernel
theorem dc_La_law_253 : decode M_La_law.2.1 253 = .ok (.iconst 1, 1) := by decide +kernel
theorem dc_La_law_254 : decode M_La_law.2.1 254 = .ok (.iadd, 1) := by decide +kernel
theorem dc_La_law_255 : decode M_La_law.2.1 255 = .ok (.iaload, 1) := by decide +kernel
theorem dc_La_law_256 : decode M_La_law.2.1 256 = .ok (.aload_n 0, 1) := by decide +kernel
theorem dc_La_law_257 : decode M_La_law.2.1 257 = .ok (.iload_n 3, 1) := by decide +kernel
theorem dc_La_law_258 : decode M_La_law.2.1 258 = .ok (.iconst 2, 1) := by decide +kernel
theorem dc_La_law_259 : decode M_La_law.2.1 259 = .ok (.iadd, 1) := by decide +kernel
theorem dc_La_law_260 : decode M_La_law.2.1 260 = .ok (.iaload, 1) := by decide +kernel
theorem dc_La_law_261 : decode M_La_law.2.1 261 = .ok (.invokevirtual 23, 3) := by decide +kernel
theorem dc_La_law_264 : decode M_La_law.2.1 264 = .ok (.aload_n 2, 1) := by decide +kernel
theorem dc_La_law_265 : decode M_La_law.2.1 265 = .ok (.aload_n 0, 1) := by decide +kernel
theorem dc_La_law_266 : decode M_La_law.2.1 266 = .ok (.iload_n 3, 1) := by decide +kernel
theorem dc_La_law_267 : decode M_La_law.2.1 267 = .ok (.iconst 1, 1) := by decide +kernel
theorem dc_La_law_268 : decode M_La_law.2.1 268 = .ok (.iadd, 1) := by decide +kernel
theorem dc_La_law_269 : decode M_La_law.2.1 269 = .ok (.iaload, 1) := by decide +kernel
theorem dc_La_law_270 : decode M_La_law.2.1 270 = .ok (.aload_n 0, 1) := by decide +kernel
theorem dc_La_law_271 : decode M_La_law.2.1 271 = .ok (.iload_n 3, 1) := by decide +kernel
theorem dc_La_law_272 : decode M_La_law.2.1 272 = .ok (.iconst 2, 1) := by decide +kernel
theorem dc_La_law_273 : decode M_La_law.2.1 273 = .ok (.iadd, 1) := by decide +kernel
theorem dc_La_law_274 : decode M_La_law.2.1 274 = .ok (.iaload, 1) := by decide +kernel
theorem dc_La_law_275 : decode M_La_law.2.1 275 = .ok (.invokevirtual 27, 3) := by decide +kernel
theorem dc_La_law_278 : decode M_La_law.2.1 278 = .ok (.if_icmp .eq 869, 3) := by decide +kernel
theorem dc_La_law_281 : decode M_La_law.2.1 281 = .ok (.iconst 0, 1) := by decide +kernel
theorem dc_La_law_282 : decode M_La_law.2.1 282 = .ok (.ireturn, 1) := by decide +kernel
theorem dc_La_law_283 : decode M_La_law.2.1 283 = .ok (.aload_n 1, 1) := by decide +kernel
theorem dc_La_law_284 : decode M_La_law.2.1 284 = .ok (.aload_n 0, 1) := by decide +kernel
theorem dc_La_law_285 : decode M_La_law.2.1 285 = .ok (.iload_n 3, 1) := by decide +kernel
theorem dc_La_law_286 : decode M_La_law.2.1 286 = .ok (.iconst 1, 1) := by decide +kernel
theorem dc_La_law_287 : decode M_La_law.2.1 287 = .ok (.iadd, 1) := by decide +kernel
theorem dc_La_law_288 : decode M_La_law.2.1 288 = .ok (.iaload, 1) := by decide +kernel
theorem dc_La_law_289 : decode M_La_law.2.1 289 = .ok (.aload_n 0, 1) := by decide +kernel
theorem dc_La_law_290 : decode M_La_law.2.1 290 = .ok (.iload_n 3, 1) := by decide +kernel
theorem dc_La_law_291 : decode M_La_law.2.1 291 = .ok (.iconst 2, 1) := by decide +kernel
theorem dc_La_law_292 : decode M_La_law.2.1 292 = .ok (.iadd, 1) := by decide +kernel
theorem dc_La_law_293 : decode M_La_law.2.1 293 = .ok (.iaload, 1) := by decide +kernel
theorem dc_La_law_294 : decode M_La_law.2.1 294 = .ok (.invokevirtual 28, 3) := by decide +kernel
theorem dc_La_law_297 : decode M_La_law.2.1 297 = .ok (.aload_n 2, 1) := by decide +kernel
theorem dc_La_law_298 : decode M_La_law.2.1 298 = .ok (.aload_n 0, 1) := by decide +kernel
theorem dc_La_law_299 : decode M_La_law.2.1 299 = .ok (.iload_n 3, 1) := by decide +kernel
theorem dc_La_law_300 : decode M_La_law.2.1 300 = .ok (.iconst 1, 1) := by decide +kernel
theorem dc_La_law_301 : decode M_La_law.2.1 301 = .ok (.iadd, 1) := by decide +kernel
theorem dc_La_law_302 : decode M_La_law.2.1 302 = .ok (.iaload, 1) := by decide +kernel
theorem dc_La_law_303 : decode M_La_law.2.1 303 = .ok (.aload_n 0, 1) := by decide +kernel
theorem dc_La_law_304 : decode M_La_law.2.1 304 = .ok (.iload_n 3, 1) := by decide +kernel
theorem dc_La_law_305 : decode M_La_law.2.1 305 = .ok (.iconst 2, 1) := by decide +kernel
theorem dc_La_law_306 : decode M_La_law.2.1 306 = .ok (.iadd, 1) := by decide +kernel
theorem dc_La_law_307 : decode M_La_law.2.1 307 = .ok (.iaload, 1) := by decide +kernel
theorem dc_La_law_308 : decode M_La_law.2.1 308 = .ok (.invokevirtual 31, 3) := by decide +kernel
theorem dc_La_law_311 : decode M_La_law.2.1 311 = .ok (.if_icmp .eq 836, 3) := by decide +kernel
theorem dc_La_law_314 : decode M_La_law.2.1 314 = .ok (.iconst 0, 1) := by decide +kernel
theorem dc_La_law_315 : decode M_La_law.2.1 315 = .ok (.ireturn, 1) := by decide +kernel
theorem dc_La_law_316 : decode M_La_law.2.1 316 = .ok (.aload_n 1, 1) := by decide +kernel
theorem dc_La_law_317 : decode M_La_law.2.1 317 = .ok (.aload_n 0, 1) := by decide +kernel
theorem dc_La_law_318 : decode M_La_law.2.1 318 = .ok (.iload_n 3, 1) := by decide +kernel
theorem dc_La_law_319 : decode M_La_law.2.1 319 = .ok (.iconst 1, 1) := by decide +kernel
theorem dc_La_law_320 : decode M_La_law.2.1 320 = .ok (.iadd, 1) := by decide +kernel
theorem dc_La_law_321 : decode M_La_law.2.1 321 = .ok (.iaload, 1) := by decide +kernel
theorem dc_La_law_322 : decode M_La_law.2.1 322 = .ok (.invokevirtual 32, 3) := by decide +kernel
theorem dc_La_law_325 : decode M_La_law.2.1 325 = .ok (.aload_n 2, 1) := by decide +kernel
theorem dc_La_law_326 : decode M_La_law.2.1 326 = .ok (.aload_n 0, 1) := by decide +kernel
theorem dc_La_law_327 : decode M_La_law.2.1 327 = .ok (.iload_n 3, 1) := by decide +kernel
theorem dc_La_law_328 : decode M_La_law.2.1 328 = .ok (.iconst 1, 1) := by decide +kernel
theorem dc_La_law_329 : decode M_La_law.2.1 329 = .ok (.iadd, 1) := by decide +kernel
theorem dc_La_law_330 : decode M_La_law.2.1 330 = .ok (.iaload, 1) := by decide +kernel
theorem dc_La_law_331 : decode M_La_law.2.1 331 = .ok (.invokevirtual 35, 3) := by decide +kernel
theorem dc_La_law_334 : decode M_La_law.2.1 334 = .ok (.if_icmp .eq 813, 3) := by decide +kernel
theorem dc_La_law_337 : decode M_La_law.2.1 337 = .ok (.iconst 0, 1) := by decide +kernel
theorem dc_La_law_338 : decode M_La_law.2.1 338 = .ok (.ireturn, 1) := by decide +kernel
theorem dc_La_law_339 : decode M_La_law.2.1 339 = .ok (.aload_n 1, 1) := by decide +kernel
theorem dc_La_law_340 : decode M_La_law.2.1 340 = .ok (.aload_n 0, 1) := by decide +kernel
theorem dc_La_law_341 : decode M_La_law.2.1 341 = .ok (.iload_n 3, 1) := by decide +kernel
theorem dc_La_law_342 : decode M_La_law.2.1 342 = .ok (.iconst 1, 1) := by decide +kernel
theorem dc_La_law_343 : decode M_La_law.2.1 343 = .ok (.iadd, 1) := by decide +kernel
theorem dc_La_law_344 : decode M_La_law.2.1 344 = .ok (.iaload, 1) := by decide +kernel
theorem dc_La_law_345 : decode M_La_law.2.1 345 = .ok (.aload_n 0, 1) := by decide +kernel
theorem dc_La_law_346 : decode M_La_law.2.1 346 = .ok (.iload_n 3, 1) := by decide +kernel
theorem dc_La_law_347 : decode M_La_law.2.1 347 = .ok (.iconst 2, 1) := by decide +kernel
theorem dc_La_law_348 : decode M_La_law.2.1 348 = .ok (.iadd, 1) := by decide +kernel
theorem dc_La_law_349 : decode M_La_law.2.1 349 = .ok (.iaload, 1) := by decide +kernel
theorem dc_La_law_350 : decode M_La_law.2.1 350 = .ok (.aload_n 0, 1) := by decide +kernel
theorem dc_La_law_351 : decode M_La_law.2.1 351 = .ok (.iload_n 3, 1) := by decide +kernel
theorem dc_La_law_352 : decode M_La_law.2.1 352 = .ok (.iconst 3, 1) := by decide +kernel
theorem dc_La_law_353 : decode M_La_law.2.1 353 = .ok (.iadd, 1) := by decide +kernel
theorem dc_La_law_354 : decode M_La_law.2.1 354 = .ok (.iaload, 1) := by decide +kernel
theorem dc_La_law_355 : decode M_La_law.2.1 355 = .ok (.aload_n 0, 1) := by decide +kernel
theorem dc_La_law_356 : decode M_La_law.2.1 356 = .ok (.iload_n 3, 1) := by decide +kernel
theorem dc_La_law_357 : decode M_La_law.2.1 357 = .ok (.iconst 4, 1) := by decide +kernel
theorem dc_La_law_358 : decode M_La_law.2.1 358 = .ok (.iadd, 1) := by decide +kernel
theorem dc_La_law_359 : decode M_La_law.2.1 359 = .ok (.iaload, 1) := by decide +kernel
theorem dc_La_law_360 : decode M_La_law.2.1 360 = .ok (.invokevirtual 36, 3) := by decide +kernel
theorem dc_La_law_363 : decode M_La_law.2.1 363 = .ok (.aload_n 2, 1) := by decide +kernel
theorem dc_La_law_364 : decode M_La_law.2.1 364 = .ok (.aload_n 0, 1) := by decide +kernel
theorem dc_La_law_365 : decode M_La_law.2.1 365 = .ok (.iload_n 3, 1) := by decide +kernel
theorem dc_La_law_366 : decode M_La_law.2.1 366 = .ok (.iconst 1, 1) := by decide +kernel
theorem dc_La_law_367 : decode M_La_law.2.1 367 = .ok (.iadd, 1) := by decide +kernel
theorem dc_La_law_368 : decode M_La_law.2.1 368 = .ok (.iaload, 1) := by decide +kernel
theorem dc_La_law_369 : decode M_La_law.2.1 369 = .ok (.aload_n 0, 1) := by decide +kernel
theorem dc_La_law_370 : decode M_La_law.2.1 370 = .ok (.iload_n 3, 1) := by decide +kernel
theorem dc_La_law_371 : decode M_La_law.2.1 371 = .ok (.iconst 2, 1) := by decide +kernel
theorem dc_La_law_372 : decode M_La_law.2.1 372 = .ok (.iadd, 1) := by decide +kernel
theorem dc_La_law_373 : decode M_La_law.2.1 373 = .ok (.iaload, 1) := by decide +kernel
theorem dc_La_law_374 : decode M_La_law.2.1 374 = .ok (.aload_n 0, 1) := by decide +kernel
theorem dc_La_law_375 : decode M_La_law.2.1 375 = .ok (.iload_n 3, 1) := by decide +kernel
theorem dc_La_law_376 : decode M_La_law.2.1 376 = .ok (.iconst 3, 1) := by decide +kernel
theorem dc_La_law_377 : decode M_La_law.2.1 377 = .ok (.iadd, 1) := by decide +kernel
theorem dc_La_law_378 : decode M_La_law.2.1 378 = .ok (.iaload, 1) := by decide +kernel
theorem dc_La_law_379 : decode M_La_law.2.1 379 = .ok (.aload_n 0, 1) := by decide +kernel
theorem dc_La_law_380 : decode M_La_law.2.1 380 = .ok (.iload_n 3, 1) := by decide +kernel
theorem dc_La_law_381 : decode M_La_law.2.1 381 = .ok (.iconst 4, 1) := by decide +kernel
theorem dc_La_law_382 : decode M_La_law.2.1 382 = .ok (.iadd, 1) := by decide +kernel
theorem dc_La_law_383 : decode M_La_law.2.1 383 = .ok (.iaload, 1) := by decide +kernel
theorem dc_La_law_384 : decode M_La_law.2.1 384 = .ok (.invokevirtual 40, 3) := by decide +kernel
theorem dc_La_law_387 : decode M_La_law.2.1 387 = .ok (.if_icmp .eq 760, 3) := by decide +kernel
theorem dc_La_law_390 : decode M_La_law.2.1 390 = .ok (.iconst 0, 1) := by decide +kernel
theorem dc_La_law_391 : decode M_La_law.2.1 391 = .ok (.ireturn, 1) := by decide +kernel
theorem dc_La_law_392 : decode M_La_law.2.1 392 = .ok (.aload_n 1, 1) := by decide +kernel
theorem dc_La_law_393 : decode M_La_law.2.1 393 = .ok (.aload_n 0, 1) := by decide +kernel
theorem dc_La_law_394 : decode M_La_law.2.1 394 = .ok (.iload_n 3, 1) := by decide +kernel
theorem dc_La_law_395 : decode M_La_law.2.1 395 = .ok (.iconst 1, 1) := by decide +kernel
theorem dc_La_law_396 : decode M_La_law.2.1 396 = .ok (.iadd, 1) := by decide +kernel
theorem dc_La_law_397 : decode M_La_law.2.1 397 = .ok (.iaload, 1) := by decide +kernel
theorem dc_La_law_398 : decode M_La_law.2.1 398 = .ok (.invokevirtual 41, 3) := by decide +kernel
theorem dc_La_law_401 : decode M_La_law.2.1 401 = .ok (.aload_n 2, 1) := by decide +kernel
theorem dc_La_law_402 : decode M_La_law.2.1 402 = .ok (.aload_n 0, 1) := by decide +kernel
theorem dc_La_law_403 : decode M_La_law.2.1 403 = .ok (.iload_n 3, 1) := by decide +kernel
theorem dc_La_law_404 : decode M_La_law.2.1 404 = .ok (.iconst 1, 1) := by decide +kernel
theorem dc_La_law_405 : decode M_La_law.2.1 405 = .ok (.iadd, 1) := by decide +kernel
theorem dc_La_law_406 : decode M_La_law.2.1 406 = .ok (.iaload, 1) := by decide +kernel
theorem dc_La_law_407 : decode M_La_law.2.1 407 = .ok (.invokevirtual 44, 3) := by decide +kernel
theorem dc_La_law_410 : decode M_La_law.2.1 410 = .ok (.if_icmp .eq 737, 3) := by decide +kernel
theorem dc_La_law_413 : decode M_La_law.2.1 413 = .ok (.iconst 0, 1) := by decide +kernel
theorem dc_La_law_414 : decode M_La_law.2.1 414 = .ok (.ireturn, 1) := by decide +kernel
theorem dc_La_law_415 : decode M_La_law.2.1 415 = .ok (.aload_n 1, 1) := by decide +kernel
theorem dc_La_law_416 : decode M_La_law.2.1 416 = .ok (.invokevirtual 45, 3) := by decide +kernel
theorem dc_La_law_419 : decode M_La_law.2.1 419 = .ok (.aload_n 2, 1) := by decide +kernel
theorem dc_La_law_420 : decode M_La_law.2.1 420 = .ok (.invokevirtual 49, 3) := by decide +kernel
theorem dc_La_law_423 : decode M_La_law.2.1 423 = .ok (.if_icmp .eq 724, 3) := by decide +kernel
theorem dc_La_law_426 : decode M_La_law.2.1 426 = .ok (.iconst 0, 1) := by decide +kernel
theorem dc_La_law_427 : decode M_La_law.2.1 427 = .ok (.ireturn, 1) := by decide +kernel
theorem dc_La_law_428 : decode M_La_law.2.1 428 = .ok (.aload_n 1, 1) := by decide +kernel
theorem dc_La_law_429 : decode M_La_law.2.1 429 = .ok (.aload_n 0, 1) := by decide +kernel
theorem dc_La_law_430 : decode M_La_law.2.1 430 = .ok (.iload_n 3, 1) := by decide +kernel
theorem dc_La_law_431 : decode M_La_law.2.1 431 = .ok (.iconst 1, 1) := by decide +kernel
theorem dc_La_law_432 : decode M_La_law.2.1 432 = .ok (.iadd, 1) := by decide +kernel
theorem dc_La_law_433 : decode M_La_law.2.1 433 = .ok (.iaload, 1) := by decide +kernel
theorem dc_La_law_434 : decode M_La_law.2.1 434 = .ok (.invokevirtual 50, 3) := by decide +kernel
theorem dc_La_law_437 : decode M_La_law.2.1 437 = .ok (.aload_n 2, 1) := by decide +kernel
theorem dc_La_law_438 : decode M_La_law.2.1 438 = .ok (.aload_n 0, 1) := by decide +kernel
theorem dc_La_law_439 : decode M_La_law.2.1 439 = .ok (.iload_n 3, 1) := by decide +kernel
theorem dc_La_law_440 : decode M_La_law.2.1 440 = .ok (.iconst 1, 1) := by decide +kernel
theorem dc_La_law_441 : decode M_La_law.2.1 441 = .ok (.iadd, 1) := by decide +kernel
theorem dc_La_law_442 : decode M_La_law.2.1 442 = .ok (.iaload, 1) := by decide +kernel
theorem dc_La_law_443 : decode M_La_law.2.1 443 = .ok (.invokevirtual 53, 3) := by decide +kernel
theorem dc_La_law_446 : decode M_La_law.2.1 446 = .ok (.if_icmp .eq 701, 3) := by decide +kernel
theorem dc_La_law_449 : decode M_La_law.2.1 449 = .ok (.iconst 0, 1) := by decide +kernel
theorem dc_La_law_450 : decode M_La_law.2.1 450 = .ok (.ireturn, 1) := by decide +kernel
theorem dc_La_law_451 : decode M_La_law.2.1 451 = .ok (.aload_n 1, 1) := by decide +kernel
theorem dc_La_law_452 : decode M_La_law.2.1 452 = .ok (.aload_n 0, 1) := by decide +kernel
theorem dc_La_law_453 : decode M_La_law.2.1 453 = .ok (.iload_n 3, 1) := by decide +kernel
theorem dc_La_law_454 : decode M_La_law.2.1 454 = .ok (.iconst 1, 1) := by decide +kernel
theorem dc_La_law_455 : decode M_La_law.2.1 455 = .ok (.iadd, 1) := by decide +kernel
theorem dc_La_law_456 : decode M_La_law.2.1 456 = .ok (.iaload, 1) := by decide +kernel
theorem dc_La_law_457 : decode M_La_law.2.1 457 = .ok (.invokevirtual 54, 3) := by decide +kernel
theorem dc_La_law_460 : decode M_La_law.2.1 460 = .ok (.aload_n 2, 1) := by decide +kernel
theorem dc_La_law_461 : decode M_La_law.2.1 461 = .ok (.aload_n 0, 1) := by decide +kernel
theorem dc_La_law_462 : decode M_La_law.2.1 462 = .ok (.iload_n 3, 1) := by decide +kernel
theorem dc_La_law_463 : decode M_La_law.2.1 463 = .ok (.iconst 1, 1) := by decide +kernel
theorem dc_La_law_464 : decode M_La_law.2.1 464 = .ok (.iadd, 1) := by decide +kernel
theorem dc_La_law_465 : decode M_La_law.2.1 465 = .ok (.iaload, 1) := by decide +kernel
theorem dc_La_law_466 : decode M_La_law.2.1 466 = .ok (.invokevirtual 57, 3) := by decide +kernel
theorem dc_La_law_469 : decode M_La_law.2.1 469 = .ok (.if_icmp .eq 678, 3) := by decide +kernel
theorem dc_La_law_472 : decode M_La_law.2.1 472 = .ok (.iconst 0, 1) := by decide +kernel
theorem dc_La_law_473 : decode M_La_law.2.1 473 = .ok (.ireturn, 1) := by decide +kernel
theorem dc_La_law_474 : decode M_La_law.2.1 474 = .ok (.aload_n 1, 1) := by decide +kernel
theorem dc_La_law_475 : decode M_La_law.2.1 475 = .ok (.aload_n 0, 1) := by decide +kernel
theorem dc_La_law_476 : decode M_La_law.2.1 476 = .ok (.iload_n 3, 1) := by decide +kernel
theorem dc_La_law_477 : decode M_La_law.2.1 477 = .ok (.iconst 1, 1) := by decide +kernel
theorem dc_La_law_478 : decode M_La_law.2.1 478 = .ok (.iadd, 1) := by decide +kernel
theorem dc_La_law_479 : decode M_La_law.2.1 479 = .ok (.iaload, 1) := by decide +kernel
theorem dc_La_law_480 : decode M_La_law.2.1 480 = .ok (.aload_n 0, 1) := by decide +kernel
theorem dc_La_law_481 : decode M_La_law.2.1 481 = .ok (.iload_n 3, 1) := by decide +kernel
theorem dc_La_law_482 : decode M_La_law.2.1 482 = .ok (.iconst 2, 1) := by decide +kernel
theorem dc_La_law_483 : decode M_La_law.2.1 483 = .ok (.iadd, 1) := by decide +kernel
theorem dc_La_law_484 : decode M_La_law.2.1 484 = .ok (.iaload, 1) := by decide +kernel
theorem dc_La_law_485 : decode M_La_law.2.1 485 = .ok (.invokevirtual 58, 3) := by decide +kernel
theorem dc_La_law_488 : decode M_La_law.2.1 488 = .ok (.aload_n 2, 1) := by decide +kernel
theorem dc_La_law_489 : decode M_La_law.2.1 489 = .ok (.aload_n 0, 1) := by decide +kernel
theorem dc_La_law_490 : decode M_La_law.2.1 490 = .ok (.iload_n 3, 1) := by decide +kernel
theorem dc_La_law_491 : decode M_La_law.2.1 491 = .ok (.iconst 1, 1) := by decide +kernel
theorem dc_La_law_492 : decode M_La_law.2.1 492 = .ok (.iadd, 1) := by decide +kernel
theorem dc_La_law_493 : decode M_La_law.2.1 493 = .ok (.iaload, 1) := by decide +kernel
theorem dc_La_law_494 : decode M_La_law.2.1 494 = .ok (.aload_n 0, 1) := by decide +kernel
theorem dc_La_law_495 : decode M_La_law.2.1 495 = .ok (.iload_n 3, 1) := by decide +kernel
theorem dc_La_law_496 : decode M_La_law.2.1 496 = .ok (.iconst 2, 1) := by decide +kernel
theorem dc_La_law_497 : decode M_La_law.2.1 497 = .ok (.iadd, 1) := by decide +kernel
theorem dc_La_law_498 : decode M_La_law.2.1 498 = .ok (.iaload, 1) := by decide +kernel
theorem dc_La_law_499 : decode M_La_law.2.1 499 = .ok (.invokevirtual 61, 3) := by decide +kernel
theorem dc_La_law_502 : decode M_La_law.2.1 502 = .ok (.if_icmp .eq 645, 3) := by decide +kernel
theorem dc_La_law_505 : decode M_La_law.2.1 505 = .ok (.iconst 0, 1) := by decide +kernel
theorem dc_La_law_506 : decode M_La_law.2.1 506 = .ok (.ireturn, 1) := by decide +kernel
theorem dc_La_law_507 : decode M_La_law.2.1 507 = .ok (.aload_n 1, 1) := by decide +kernel
theorem dc_La_law_508 : decode M_La_law.2.1 508 = .ok (.invokevirtual 62, 3) := by decide +kernel
theorem dc_La_law_511 : decode M_La_law.2.1 511 = .ok (.aload_n 2, 1) := by decide +kernel
theorem dc_La_law_512 : decode M_La_law.2.1 512 = .ok (.invokevirtual 65, 3) := by decide +kernel
theorem dc_La_law_515 : decode M_La_law.2.1 515 = .ok (.if_icmp .eq 632, 3) := by decide +kernel
theorem dc_La_law_518 : decode M_La_law.2.1 518 = .ok (.iconst 0, 1) := by decide +kernel
theorem dc_La_law_519 : decode M_La_law.2.1 519 = .ok (.ireturn, 1) := by decide +kernel
theorem dc_La_law_520 : decode M_La_law.2.1 520 = .ok (.aload_n 1, 1) := by decide +kernel
theorem dc_La_law_521 : decode M_La_law.2.1 521 = .ok (.aload_n 0, 1) := by decide +kernel
theorem dc_La_law_522 : decode M_La_law.2.1 522 = .ok (.iload_n 3, 1) := by decide +kernel
theorem dc_La_law_523 : decode M_La_law.2.1 523 = .ok (.iconst 1, 1) := by decide +kernel
theorem dc_La_law_524 : decode M_La_law.2.1 524 = .ok (.iadd, 1) := by decide +kernel
theorem dc_La_law_525 : decode M_La_law.2.1 525 = .ok (.iaload, 1) := by decide +kernel
theorem dc_La_law_526 : decode M_La_law.2.1 526 = .ok (.invokevirtual 66, 3) := by decide +kernel
theorem dc_La_law_529 : decode M_La_law.2.1 529 = .ok (.aload_n 2, 1) := by decide +kernel
theorem dc_La_law_530 : decode M_La_law.2.1 530 = .ok (.aload_n 0, 1) := by decide +kernel
theorem dc_La_law_531 : decode M_La_law.2.1 531 = .ok (.iload_n 3, 1) := by decide +kernel
theorem dc_La_law_532 : decode M_La_law.2.1 532 = .ok (.iconst 1, 1) := by decide +kernel
theorem dc_La_law_533 : decode M_La_law.2.1 533 = .ok (.iadd, 1) := by decide +kernel
theorem dc_La_law_534 : decode M_La_law.2.1 534 = .ok (.iaload, 1) := by decide +kernel
theorem dc_La_law_535 : decode M_La_law.2.1 535 = .ok (.invokevirtual 69, 3) := by decide +kernel
theorem dc_La_law_538 : decode M_La_law.2.1 538 = .ok (.if_icmp .eq 609, 3) := by decide +kernel
theorem dc_La_law_541 : decode M_La_law.2.1 541 = .ok (.iconst 0, 1) := by decide +kernel
theorem dc_La_law_542 : decode M_La_law.2.1 542 = .ok (.ireturn, 1) := by decide +kernel
theorem dc_La_law_543 : decode M_La_law.2.1 543 = .ok (.aload_n 1, 1) := by decide +kernel
theorem dc_La_law_544 : decode M_La_law.2.1 544 = .ok (.aload_n 0, 1) := by decide +kernel
theorem dc_La_law_545 : decode M_La_law.2.1 545 = .ok (.iload_n 3, 1) := by decide +kernel
theorem dc_La_law_546 : decode M_La_law.2.1 546 = .ok (.iconst 1, 1) := by decide +kernel
theorem dc_La_law_547 : decode M_La_law.2.1 547 = .ok (.iadd, 1) := by decide +kernel
theorem dc_La_law_548 : decode M_La_law.2.1 548 = .ok (.iaload, 1) := by decide +kernel
theorem dc_La_law_549 : decode M_La_law.2.1 549 = .ok (.invokevirtual 70, 3) := by decide +kernel
theorem dc_La_law_552 : decode M_La_law.2.1 552 = .ok (.aload_n 2, 1) := by decide +kernel
theorem dc_La_law_553 : decode M_La_law.2.1 553 = .ok (.aload_n 0, 1) := by decide +kernel
theorem dc_La_law_554 : decode M_La_law.2.1 554 = .ok (.iload_n 3, 1) := by decide +kernel
theorem dc_La_law_555 : decode M_La_law.2.1 555 = .ok (.iconst 1, 1) := by decide +kernel
theorem dc_La_law_556 : decode M_La_law.2.1 556 = .ok (.iadd, 1) := by decide +kernel
theorem dc_La_law_557 : decode M_La_law.2.1 557 = .ok (.iaload, 1) := by decide +kernel
theorem dc_La_law_558 : decode M_La_law.2.1 558 = .ok (.invokevirtual 73, 3) := by decide +kernel
theorem dc_La_law_561 : decode M_La_law.2.1 561 = .ok (.if_icmp .eq 586, 3) := by decide +kernel
theorem dc_La_law_564 : decode M_La_law.2.1 564 = .ok (.iconst 0, 1) := by decide +kernel
theorem dc_La_law_565 : decode M_La_law.2.1 565 = .ok (.ireturn, 1) := by decide +kernel
theorem dc_La_law_566 : decode M_La_law.2.1 566 = .ok (.aload_n 1, 1) := by decide +kernel
theorem dc_La_law_567 : decode M_La_law.2.1 567 = .ok (.aload_n 0, 1) := by decide +kernel
theorem dc_La_law_568 : decode M_La_law.2.1 568 = .ok (.iload_n 3, 1) := by decide +kernel
theorem dc_La_law_569 : decode M_La_law.2.1 569 = .ok (.iconst 1, 1) := by decide +kernel
theorem dc_La_law_570 : decode M_La_law.2.1 570 = .ok (.iadd, 1) := by decide +kernel
theorem dc_La_law_571 : decode M_La_law.2.1 571 = .ok (.iaload, 1) := by decide +kernel
theorem dc_La_law_572 : decode M_La_law.2.1 572 = .ok (.invokevirtual 74, 3) := by decide +kernel
theorem dc_La_law_575 : decode M_La_law.2.1 575 = .ok (.aload_n 2, 1) := by decide +kernel
theorem dc_La_law_576 : decode M_La_law.2.1 576 = .ok (.aload_n 0, 1) := by decide +kernel
theorem dc_La_law_577 : decode M_La_law.2.1 577 = .ok (.iload_n 3, 1) := by decide +kernel
theorem dc_La_law_578 : decode M_La_law.2.1 578 = .ok (.iconst 1, 1) := by decide +kernel
theorem dc_La_law_579 : decode M_La_law.2.1 579 = .ok (.iadd, 1) := by decide +kernel
theorem dc_La_law_580 : decode M_La_law.2.1 580 = .ok (.iaload, 1) := by decide +kernel
theorem dc_La_law_581 : decode M_La_law.2.1 581 = .ok (.invokevirtual 77, 3) := by decide +kernel
theorem dc_La_law_584 : decode M_La_law.2.1 584 = .ok (.if_icmp .eq 563, 3) := by decide +kernel
theorem dc_La_law_587 : decode M_La_law.2.1 587 = .ok (.iconst 0, 1) := by decide +kernel
theorem dc_La_law_588 : decode M_La_law.2.1 588 = .ok (.ireturn, 1) := by decide +kernel
theorem dc_La_law_589 : decode M_La_law.2.1 589 = .ok (.aload_n 1, 1) := by decide +kernel
theorem dc_La_law_590 : decode M_La_law.2.1 590 = .ok (.aload_n 0, 1) := by decide +kernel
theorem dc_La_law_591 : decode M_La_law.2.1 591 = .ok (.iload_n 3, 1) := by decide +kernel
theorem dc_La_law_592 : decode M_La_law.2.1 592 = .ok (.iconst 1, 1) := by decide +kernel
theorem dc_La_law_593 : decode M_La_law.2.1 593 = .ok (.iadd, 1) := by decide +kernel
theorem dc_La_law_594 : decode M_La_law.2.1 594 = .ok (.iaload, 1) := by decide +kernel
theorem dc_La_law_595 : decode M_La_law.2.1 595 = .ok (.aload_n 0, 1) := by decide +kernel
theorem dc_La_law_596 : decode M_La_law.2.1 596 = .ok (.iload_n 3, 1) := by decide +kernel
theorem dc_La_law_597 : decode M_La_law.2.1 597 = .ok (.iconst 2, 1) := by decide +kernel
theorem dc_La_law_598 : decode M_La_law.2.1 598 = .ok (.iadd, 1) := by decide +kernel
theorem dc_La_law_599 : decode M_La_law.2.1 599 = .ok (.iaload, 1) := by decide +kernel
theorem dc_La_law_600 : decode M_La_law.2.1 600 = .ok (.invokevirtual 78, 3) := by decide +kernel
theorem dc_La_law_603 : decode M_La_law.2.1 603 = .ok (.aload_n 2, 1) := by decide +kernel
theorem dc_La_law_604 : decode M_La_law.2.1 604 = .ok (.aload_n 0, 1) := by decide +kernel
theorem dc_La_law_605 : decode M_La_law.2.1 605 = .ok (.iload_n 3, 1) := by decide +kernel
theorem dc_La_law_606 : decode M_La_law.2.1 606 = .ok (.iconst 1, 1) := by decide +kernel
theorem dc_La_law_607 : decode M_La_law.2.1 607 = .ok (.iadd, 1) := by decide +kernel
theorem dc_La_law_608 : decode M_La_law.2.1 608 = .ok (.iaload, 1) := by decide +kernel
theorem dc_La_law_609 : decode M_La_law.2.1 609 = .ok (.aload_n 0, 1) := by decide +kernel
theorem dc_La_law_610 : decode M_La_law.2.1 610 = .ok (.iload_n 3, 1) := by decide +kernel
theorem dc_La_law_611 : decode M_La_law.2.1 611 = .ok (.iconst 2, 1) := by decide +kernel
theorem dc_La_law_612 : decode M_La_law.2.1 612 = .ok (.iadd, 1) := by decide +kernel
theorem dc_La_law_613 : decode M_La_law.2.1 613 = .ok (.iaload, 1) := by decide +kernel
theorem dc_La_law_614 : decode M_La_law.2.1 614 = .ok (.invokevirtual 81, 3) := by decide +kernel
theorem dc_La_law_617 : decode M_La_law.2.1 617 = .ok (.if_icmp .eq 530, 3) := by decide +kernel
theorem dc_La_law_620 : decode M_La_law.2.1 620 = .ok (.iconst 0, 1) := by decide +kernel
theorem dc_La_law_621 : decode M_La_law.2.1 621 = .ok (.ireturn, 1) := by decide +kernel
theorem dc_La_law_622 : decode M_La_law.2.1 622 = .ok (.aload_n 1, 1) := by decide +kernel
theorem dc_La_law_623 : decode M_La_law.2.1 623 = .ok (.aload_n 0, 1) := by decide +kernel
theorem dc_La_law_624 : decode M_La_law.2.1 624 = .ok (.iload_n 3, 1) := by decide +kernel
theorem dc_La_law_625 : decode M_La_law.2.1 625 = .ok (.iconst 1, 1) := by decide +kernel
theorem dc_La_law_626 : decode M_La_law.2.1 626 = .ok (.iadd, 1) := by decide +kernel
theorem dc_La_law_627 : decode M_La_law.2.1 627 = .ok (.iaload, 1) := by decide +kernel
theorem dc_La_law_628 : decode M_La_law.2.1 628 = .ok (.invokevirtual 82, 3) := by decide +kernel
theorem dc_La_law_631 : decode M_La_law.2.1 631 = .ok (.aload_n 2, 1) := by decide +kernel
theorem dc_La_law_632 : decode M_La_law.2.1 632 = .ok (.aload_n 0, 1) := by decide +kernel
theorem dc_La_law_633 : decode M_La_law.2.1 633 = .ok (.iload_n 3, 1) := by decide +kernel
theorem dc_La_law_634 : decode M_La_law.2.1 634 = .ok (.iconst 1, 1) := by decide +kernel
theorem dc_La_law_635 : decode M_La_law.2.1 635 = .ok (.iadd, 1) := by decide +kernel
theorem dc_La_law_636 : decode M_La_law.2.1 636 = .ok (.iaload, 1) := by decide +kernel
theorem dc_La_law_637 : decode M_La_law.2.1 637 = .ok (.invokevirtual 85, 3) := by decide +kernel
theorem dc_La_law_640 : decode M_La_law.2.1 640 = .ok (.if_icmp .eq 507, 3) := by decide +kernel
theorem dc_La_law_643 : decode M_La_law.2.1 643 = .ok (.iconst 0, 1) := by decide +kernel
theorem dc_La_law_644 : decode M_La_law.2.1 644 = .ok (.ireturn, 1) := by decide +kernel
theorem dc_La_law_645 : decode M_La_law.2.1 645 = .ok (.aload_n 1, 1) := by decide +kernel
theorem dc_La_law_646 : decode M_La_law.2.1 646 = .ok (.invokevirtual 86, 3) := by decide +kernel
theorem dc_La_law_649 : decode M_La_law.2.1 649 = .ok (.aload_n 2, 1) := by decide +kernel
theorem dc_La_law_650 : decode M_La_law.2.1 650 = .ok (.invokevirtual 89, 3) := by decide +kernel
theorem dc_La_law_653 : decode M_La_law.2.1 653 = .ok (.if_icmp .eq 494, 3) := by decide +kernel
theorem dc_La_law_656 : decode M_La_law.2.1 656 = .ok (.iconst 0, 1) := by decide +kernel
theorem dc_La_law_657 : decode M_La_law.2.1 657 = .ok (.ireturn, 1) := by decide +kernel
theorem dc_La_law_658 : decode M_La_law.2.1 658 = .ok (.aload_n 1, 1) := by decide +kernel
theorem dc_La_law_659 : decode M_La_law.2.1 659 = .ok (.aload_n 0, 1) := by decide +kernel
theorem dc_La_law_660 : decode M_La_law.2.1 660 = .ok (.iload_n 3, 1) := by decide +kernel
theorem dc_La_law_661 : decode M_La_law.2.1 661 = .ok (.iconst 1, 1) := by decide +kernel
theorem dc_La_law_662 : decode M_La_law.2.1 662 = .ok (.iadd, 1) := by decide +kernel
theorem dc_La_law_663 : decode M_La_law.2.1 663 = .ok (.iaload, 1) := by decide +kernel
theorem dc_La_law_664 : decode M_La_law.2.1 664 = .ok (.invokevirtual 90, 3) := by decide +kernel
theorem dc_La_law_667 : decode M_La_law.2.1 667 = .ok (.aload_n 2, 1) := by decide +kernel
theorem dc_La_law_668 : decode M_La_law.2.1 668 = .ok (.aload_n 0, 1) := by decide +kernel
theorem dc_La_law_669 : decode M_La_law.2.1 669 = .ok (.iload_n 3, 1) := by decide +kernel
theorem dc_La_law_670 : decode M_La_law.2.1 670 = .ok (.iconst 1, 1) := by decide +kernel
theorem dc_La_law_671 : decode M_La_law.2.1 671 = .ok (.iadd, 1) := by decide +kernel
theorem dc_La_law_672 : decode M_La_law.2.1 672 = .ok (.iaload, 1) := by decide +kernel
theorem dc_La_law_673 : decode M_La_law.2.1 673 = .ok (.invokevirtual 93, 3) := by decide +kernel
theorem dc_La_law_676 : decode M_La_law.2.1 676 = .ok (.if_icmp .eq 471, 3) := by decide +kernel
theorem dc_La_law_679 : decode M_La_law.2.1 679 = .ok (.iconst 0, 1) := by decide +kernel
theorem dc_La_law_680 : decode M_La_law.2.1 680 = .ok (.ireturn, 1) := by decide +kernel
theorem dc_La_law_681 : decode M_La_law.2.1 681 = .ok (.aload_n 1, 1) := by decide +kernel
theorem dc_La_law_682 : decode M_La_law.2.1 682 = .ok (.aload_n 0, 1) := by decide +kernel
theorem dc_La_law_683 : decode M_La_law.2.1 683 = .ok (.iload_n 3, 1) := by decide +kernel
theorem dc_La_law_684 : decode M_La_law.2.1 684 = .ok (.iconst 1, 1) := by decide +kernel
theorem dc_La_law_685 : decode M_La_law.2.1 685 = .ok (.iadd, 1) := by decide +kernel
theorem dc_La_law_686 : decode M_La_law.2.1 686 = .ok (.iaload, 1) := by decide +kernel
theorem dc_La_law_687 : decode M_La_law.2.1 687 = .ok (.aload_n 0, 1) := by decide +kernel
theorem dc_La_law_688 : decode M_La_law.2.1 688 = .ok (.iload_n 3, 1) := by decide +kernel
theorem dc_La_law_689 : decode M_La_law.2.1 689 = .ok (.iconst 2, 1) := by decide +kernel
theorem dc_La_law_690 : decode M_La_law.2.1 690 = .ok (.iadd, 1) := by decide +kernel
theorem dc_La_law_691 : decode M_La_law.2.1 691 = .ok (.iaload, 1) := by decide +kernel
theorem dc_La_law_692 : decode M_La_law.2.1 692 = .ok (.invokevirtual 94, 3) := by decide +kernel
theorem dc_La_law_695 : decode M_La_law.2.1 695 = .ok (.aload_n 2, 1) := by decide +kernel
theorem dc_La_law_696 : decode M_La_law.2.1 696 = .ok (.aload_n 0, 1) := by decide +kernel
theorem dc_La_law_697 : decode M_La_law.2.1 697 = .ok (.iload_n 3, 1) := by decide +kernel
theorem dc_La_law_698 : decode M_La_law.2.1 698 = .ok (.iconst 1, 1) := by decide +kernel
theorem dc_La_law_699 : decode M_La_law.2.1 699 = .ok (.iadd, 1) := by decide +kernel
theorem dc_La_law_700 : decode M_La_law.2.1 700 = .ok (.iaload, 1) := by decide +kernel
theorem dc_La_law_701 : decode M_La_law.2.1 701 = .ok (.aload_n 0, 1) := by decide +kernel
theorem dc_La_law_702 : decode M_La_law.2.1 702 = .ok (.iload_n 3, 1) := by decide +kernel
theorem dc_La_law_703 : decode M_La_law.2.1 703 = .ok (.iconst 2, 1) := by decide +kernel
theorem dc_La_law_704 : decode M_La_law.2.1 704 = .ok (.iadd, 1) := by decide +kernel
theorem dc_La_law_705 : decode M_La_law.2.1 705 = .ok (.iaload, 1) := by decide +kernel
theorem dc_La_law_706 : decode M_La_law.2.1 706 = .ok (.invokevirtual 97, 3) := by decide +kernel
theorem dc_La_law_709 : decode M_La_law.2.1 709 = .ok (.if_icmp .eq 438, 3) := by decide +kernel
theorem dc_La_law_712 : decode M_La_law.2.1 712 = .ok (.iconst 0, 1) := by decide +kernel
theorem dc_La_law_713 : decode M_La_law.2.1 713 = .ok (.ireturn, 1) := by decide +kernel
theorem dc_La_law_714 : decode M_La_law.2.1 714 = .ok (.aload_n 1, 1) := by decide +kernel
theorem dc_La_law_715 : decode M_La_law.2.1 715 = .ok (.aload_n 0, 1) := by decide +kernel
theorem dc_La_law_716 : decode M_La_law.2.1 716 = .ok (.iload_n 3, 1) := by decide +kernel
theorem dc_La_law_717 : decode M_La_law.2.1 717 = .ok (.iconst 1, 1) := by decide +kernel
theorem dc_La_law_718 : decode M_La_law.2.1 718 = .ok (.iadd, 1) := by decide +kernel
theorem dc_La_law_719 : decode M_La_law.2.1 719 = .ok (.iaload, 1) := by decide +kernel
theorem dc_La_law_720 : decode M_La_law.2.1 720 = .ok (.invokevirtual 98, 3) := by decide +kernel
theorem dc_La_law_723 : decode M_La_law.2.1 723 = .ok (.aload_n 2, 1) := by decide +kernel
theorem dc_La_law_724 : decode M_La_law.2.1 724 = .ok (.aload_n 0, 1) := by decide +kernel
theorem dc_La_law_725 : decode M_La_law.2.1 725 = .ok (.iload_n 3, 1) := by decide +kernel
theorem dc_La_law_726 : decode M_La_law.2.1 726 = .ok (.iconst 1, 1) := by decide +kernel
theorem dc_La_law_727 : decode M_La_law.2.1 727 = .ok (.iadd, 1) := by decide +kernel
theorem dc_La_law_728 : decode M_La_law.2.1 728 = .ok (.iaload, 1) := by decide +kernel
theorem dc_La_law_729 : decode M_La_law.2.1 729 = .ok (.invokevirtual 101, 3) := by decide +kernel
theorem dc_La_law_732 : decode M_La_law.2.1 732 = .ok (.if_icmp .eq 415, 3) := by decide +kernel
theorem dc_La_law_735 : decode M_La_law.2.1 735 = .ok (.iconst 0, 1) := by decide +kernel
theorem dc_La_law_736 : decode M_La_law.2.1 736 = .ok (.ireturn, 1) := by decide +kernel
theorem dc_La_law_737 : decode M_La_law.2.1 737 = .ok (.aload_n 1, 1) := by decide +kernel
theorem dc_La_law_738 : decode M_La_law.2.1 738 = .ok (.aload_n 0, 1) := by decide +kernel
theorem dc_La_law_739 : decode M_La_law.2.1 739 = .ok (.iload_n 3, 1) := by decide +kernel
theorem dc_La_law_740 : decode M_La_law.2.1 740 = .ok (.iconst 1, 1) := by decide +kernel
theorem dc_La_law_741 : decode M_La_law.2.1 741 = .ok (.iadd, 1) := by decide +kernel
theorem dc_La_law_742 : decode M_La_law.2.1 742 = .ok (.iaload, 1) := by decide +kernel
theorem dc_La_law_743 : decode M_La_law.2.1 743 = .ok (.invokevirtual 102, 3) := by decide +kernel
theorem dc_La_law_746 : decode M_La_law.2.1 746 = .ok (.aload_n 2, 1) := by decide +kernel
theorem dc_La_law_747 : decode M_La_law.2.1 747 = .ok (.aload_n 0, 1) := by decide +kernel
theorem dc_La_law_748 : decode M_La_law.2.1 748 = .ok (.iload_n 3, 1) := by decide +kernel
theorem dc_La_law_749 : decode M_La_law.2.1 749 = .ok (.iconst 1, 1) := by decide +kernel
theorem dc_La_law_750 : decode M_La_law.2.1 750 = .ok (.iadd, 1) := by decide +kernel
theorem dc_La_law_751 : decode M_La_law.2.1 751 = .ok (.iaload, 1) := by decide +kernel
theorem dc_La_law_752 : decode M_La_law.2.1 752 = .ok (.invokevirtual 106, 3) := by decide +kernel
theorem dc_La_law_755 : decode M_La_law.2.1 755 = .ok (.lcmp, 1) := by decide +kernel
theorem dc_La_law_756 : decode M_La_law.2.1 756 = .ok (.ifCond .eq 391, 3) := by decide +kernel
theorem dc_La_law_759 : decode M_La_law.2.1 759 = .ok (.iconst 0, 1) := by decide +kernel
theorem dc_La_law_760 : decode M_La_law.2.1 760 = .ok (.ireturn, 1) := by decide +kernel
theorem dc_La_law_761 : decode M_La_law.2.1 761 = .ok (.aload_n 1, 1) := by decide +kernel
theorem dc_La_law_762 : decode M_La_law.2.1 762 = .ok (.aload_n 0, 1) := by decide +kernel
theorem dc_La_law_763 : decode M_La_law.2.1 763 = .ok (.iload_n 3, 1) := by decide +kernel
theorem dc_La_law_764 : decode M_La_law.2.1 764 = .ok (.iconst 1, 1) := by decide +kernel
theorem dc_La_law_765 : decode M_La_law.2.1 765 = .ok (.iadd, 1) := by decide +kernel
theorem dc_La_law_766 : decode M_La_law.2.1 766 = .ok (.iaload, 1) := by decide +kernel
theorem dc_La_law_767 : decode M_La_law.2.1 767 = .ok (.invokevirtual 107, 3) := by decide +kernel
theorem dc_La_law_770 : decode M_La_law.2.1 770 = .ok (.aload_n 2, 1) := by decide +kernel
theorem dc_La_law_771 : decode M_La_law.2.1 771 = .ok (.aload_n 0, 1) := by decide +kernel
theorem dc_La_law_772 : decode M_La_law.2.1 772 = .ok (.iload_n 3, 1) := by decide +kernel
theorem dc_La_law_773 : decode M_La_law.2.1 773 = .ok (.iconst 1, 1) := by decide +kernel
theorem dc_La_law_774 : decode M_La_law.2.1 774 = .ok (.iadd, 1) := by decide +kernel
theorem dc_La_law_775 : decode M_La_law.2.1 775 = .ok (.iaload, 1) := by decide +kernel
theorem dc_La_law_776 : decode M_La_law.2.1 776 = .ok (.invokevirtual 110, 3) := by decide +kernel
theorem dc_La_law_779 : decode M_La_law.2.1 779 = .ok (.if_icmp .eq 368, 3) := by decide +kernel
theorem dc_La_law_782 : decode M_La_law.2.1 782 = .ok (.iconst 0, 1) := by decide +kernel
theorem dc_La_law_783 : decode M_La_law.2.1 783 = .ok (.ireturn, 1) := by decide +kernel
theorem dc_La_law_784 : decode M_La_law.2.1 784 = .ok (.aload_n 1, 1) := by decide +kernel
theorem dc_La_law_785 : decode M_La_law.2.1 785 = .ok (.aload_n 0, 1) := by decide +kernel
theorem dc_La_law_786 : decode M_La_law.2.1 786 = .ok (.iload_n 3, 1) := by decide +kernel
theorem dc_La_law_787 : decode M_La_law.2.1 787 = .ok (.iconst 1, 1) := by decide +kernel
theorem dc_La_law_788 : decode M_La_law.2.1 788 = .ok (.iadd, 1) := by decide +kernel
theorem dc_La_law_789 : decode M_La_law.2.1 789 = .ok (.iaload, 1) := by decide +kernel
theorem dc_La_law_790 : decode M_La_law.2.1 790 = .ok (.aload_n 0, 1) := by decide +kernel
theorem dc_La_law_791 : decode M_La_law.2.1 791 = .ok (.iload_n 3, 1) := by decide +kernel
theorem dc_La_law_792 : decode M_La_law.2.1 792 = .ok (.iconst 2, 1) := by decide +kernel
theorem dc_La_law_793 : decode M_La_law.2.1 793 = .ok (.iadd, 1) := by decide +kernel
theorem dc_La_law_794 : decode M_La_law.2.1 794 = .ok (.iaload, 1) := by decide +kernel
theorem dc_La_law_795 : decode M_La_law.2.1 795 = .ok (.invokevirtual 111, 3) := by decide +kernel
theorem dc_La_law_798 : decode M_La_law.2.1 798 = .ok (.aload_n 2, 1) := by decide +kernel
theorem dc_La_law_799 : decode M_La_law.2.1 799 = .ok (.aload_n 0, 1) := by decide +kernel
theorem dc_La_law_800 : decode M_La_law.2.1 800 = .ok (.iload_n 3, 1) := by decide +kernel
theorem dc_La_law_801 : decode M_La_law.2.1 801 = .ok (.iconst 1, 1) := by decide +kernel
theorem dc_La_law_802 : decode M_La_law.2.1 802 = .ok (.iadd, 1) := by decide +kernel
theorem dc_La_law_803 : decode M_La_law.2.1 803 = .ok (.iaload, 1) := by decide +kernel
theorem dc_La_law_804 : decode M_La_law.2.1 804 = .ok (.aload_n 0, 1) := by decide +kernel
theorem dc_La_law_805 : decode M_La_law.2.1 805 = .ok (.iload_n 3, 1) := by decide +kernel
theorem dc_La_law_806 : decode M_La_law.2.1 806 = .ok (.iconst 2, 1) := by decide +kernel
theorem dc_La_law_807 : decode M_La_law.2.1 807 = .ok (.iadd, 1) := by decide +kernel
theorem dc_La_law_808 : decode M_La_law.2.1 808 = .ok (.iaload, 1) := by decide +kernel
theorem dc_La_law_809 : decode M_La_law.2.1 809 = .ok (.invokevirtual 114, 3) := by decide +kernel
theorem dc_La_law_812 : decode M_La_law.2.1 812 = .ok (.if_icmp .eq 335, 3) := by decide +kernel
theorem dc_La_law_815 : decode M_La_law.2.1 815 = .ok (.iconst 0, 1) := by decide +kernel
theorem dc_La_law_816 : decode M_La_law.2.1 816 = .ok (.ireturn, 1) := by decide +kernel
theorem dc_La_law_817 : decode M_La_law.2.1 817 = .ok (.aload_n 1, 1) := by decide +kernel
theorem dc_La_law_818 : decode M_La_law.2.1 818 = .ok (.aload_n 0, 1) := by decide +kernel
theorem dc_La_law_819 : decode M_La_law.2.1 819 = .ok (.iload_n 3, 1) := by decide +kernel
theorem dc_La_law_820 : decode M_La_law.2.1 820 = .ok (.iconst 1, 1) := by decide +kernel
theorem dc_La_law_821 : decode M_La_law.2.1 821 = .ok (.iadd, 1) := by decide +kernel
theorem dc_La_law_822 : decode M_La_law.2.1 822 = .ok (.iaload, 1) := by decide +kernel
theorem dc_La_law_823 : decode M_La_law.2.1 823 = .ok (.invokevirtual 115, 3) := by decide +kernel
theorem dc_La_law_826 : decode M_La_law.2.1 826 = .ok (.aload_n 2, 1) := by decide +kernel
theorem dc_La_law_827 : decode M_La_law.2.1 827 = .ok (.aload_n 0, 1) := by decide +kernel
theorem dc_La_law_828 : decode M_La_law.2.1 828 = .ok (.iload_n 3, 1) := by decide +kernel
theorem dc_La_law_829 : decode M_La_law.2.1 829 = .ok (.iconst 1, 1) := by decide +kernel
theorem dc_La_law_830 : decode M_La_law.2.1 830 = .ok (.iadd, 1) := by decide +kernel
theorem dc_La_law_831 : decode M_La_law.2.1 831 = .ok (.iaload, 1) := by decide +kernel
theorem dc_La_law_832 : decode M_La_law.2.1 832 = .ok (.invokevirtual 118, 3) := by decide +kernel
theorem dc_La_law_835 : decode M_La_law.2.1 835 = .ok (.if_icmp .eq 312, 3) := by decide +kernel
theorem dc_La_law_838 : decode M_La_law.2.1 838 = .ok (.iconst 0, 1) := by decide +kernel
theorem dc_La_law_839 : decode M_La_law.2.1 839 = .ok (.ireturn, 1) := by decide +kernel
theorem dc_La_law_840 : decode M_La_law.2.1 840 = .ok (.aload_n 1, 1) := by decide +kernel
theorem dc_La_law_841 : decode M_La_law.2.1 841 = .ok (.aload_n 0, 1) := by decide +kernel
theorem dc_La_law_842 : decode M_La_law.2.1 842 = .ok (.iload_n 3, 1) := by decide +kernel
theorem dc_La_law_843 : decode M_La_law.2.1 843 = .ok (.iconst 1, 1) := by decide +kernel
theorem dc_La_law_844 : decode M_La_law.2.1 844 = .ok (.iadd, 1) := by decide +kernel
theorem dc_La_law_845 : decode M_La_law.2.1 845 = .ok (.iaload, 1) := by decide +kernel
theorem dc_La_law_846 : decode M_La_law.2.1 846 = .ok (.invokevirtual 119, 3) := by decide +kernel
theorem dc_La_law_849 : decode M_La_law.2.1 849 = .ok (.aload_n 2, 1) := by decide +kernel
theorem dc_La_law_850 : decode M_La_law.2.1 850 = .ok (.aload_n 0, 1) := by decide +kernel
theorem dc_La_law_851 : decode M_La_law.2.1 851 = .ok (.iload_n 3, 1) := by decide +kernel
theorem dc_La_law_852 : decode M_La_law.2.1 852 = .ok (.iconst 1, 1) := by decide +kernel
theorem dc_La_law_853 : decode M_La_law.2.1 853 = .ok (.iadd, 1) := by decide +kernel
theorem dc_La_law_854 : decode M_La_law.2.1 854 = .ok (.iaload, 1) := by decide +kernel
theorem dc_La_law_855 : decode M_La_law.2.1 855 = .ok (.invokevirtual 122, 3) := by decide +kernel
theorem dc_La_law_858 : decode M_La_law.2.1 858 = .ok (.if_icmp .eq 289, 3) := by decide +kernel
theorem dc_La_law_861 : decode M_La_law.2.1 861 = .ok (.iconst 0, 1) := by decide +kernel
theorem dc_La_law_862 : decode M_La_law.2.1 862 = .ok (.ireturn, 1) := by decide +kernel
theorem dc_La_law_863 : decode M_La_law.2.1 863 = .ok (.aload_n 1, 1) := by decide +kernel
theorem dc_La_law_864 : decode M_La_law.2.1 864 = .ok (.invokevirtual 123, 3) := by decide +kernel
theorem dc_La_law_867 : decode M_La_law.2.1 867 = .ok (.aload_n 2, 1) := by decide +kernel
theorem dc_La_law_868 : decode M_La_law.2.1 868 = .ok (.invokevirtual 126, 3) := by decide +kernel
theorem dc_La_law_871 : decode M_La_law.2.1 871 = .ok (.if_icmp .eq 276, 3) := by decide +kernel
theorem dc_La_law_874 : decode M_La_law.2.1 874 = .ok (.iconst 0, 1) := by decide +kernel
theorem dc_La_law_875 : decode M_La_law.2.1 875 = .ok (.ireturn, 1) := by decide +kernel
theorem dc_La_law_876 : decode M_La_law.2.1 876 = .ok (.aload_n 1, 1) := by decide +kernel
theorem dc_La_law_877 : decode M_La_law.2.1 877 = .ok (.invokevirtual 127, 3) := by decide +kernel
theorem dc_La_law_880 : decode M_La_law.2.1 880 = .ok (.aload_n 2, 1) := by decide +kernel
theorem dc_La_law_881 : decode M_La_law.2.1 881 = .ok (.invokevirtual 130, 3) := by decide +kernel
theorem dc_La_law_884 : decode M_La_law.2.1 884 = .ok (.if_icmp .eq 263, 3) := by decide +kernel
theorem dc_La_law_887 : decode M_La_law.2.1 887 = .ok (.iconst 0, 1) := by decide +kernel
theorem dc_La_law_888 : decode M_La_law.2.1 888 = .ok (.ireturn, 1) := by decide +kernel
theorem dc_La_law_889 : decode M_La_law.2.1 889 = .ok (.aload_n 1, 1) := by decide +kernel
theorem dc_La_law_890 : decode M_La_law.2.1 890 = .ok (.aload_n 0, 1) := by decide +kernel
theorem dc_La_law_891 : decode M_La_law.2.1 891 = .ok (.iload_n 3, 1) := by decide +kernel
theorem dc_La_law_892 : decode M_La_law.2.1 892 = .ok (.iconst 1, 1) := by decide +kernel
theorem dc_La_law_893 : decode M_La_law.2.1 893 = .ok (.iadd, 1) := by decide +kernel
theorem dc_La_law_894 : decode M_La_law.2.1 894 = .ok (.iaload, 1) := by decide +kernel
theorem dc_La_law_895 : decode M_La_law.2.1 895 = .ok (.invokevirtual 131, 3) := by decide +kernel
theorem dc_La_law_898 : decode M_La_law.2.1 898 = .ok (.aload_n 2, 1) := by decide +kernel
theorem dc_La_law_899 : decode M_La_law.2.1 899 = .ok (.aload_n 0, 1) := by decide +kernel
theorem dc_La_law_900 : decode M_La_law.2.1 900 = .ok (.iload_n 3, 1) := by decide +kernel
theorem dc_La_law_901 : decode M_La_law.2.1 901 = .ok (.iconst 1, 1) := by decide +kernel
theorem dc_La_law_902 : decode M_La_law.2.1 902 = .ok (.iadd, 1) := by decide +kernel
theorem dc_La_law_903 : decode M_La_law.2.1 903 = .ok (.iaload, 1) := by decide +kernel
theorem dc_La_law_904 : decode M_La_law.2.1 904 = .ok (.invokevirtual 134, 3) := by decide +kernel
theorem dc_La_law_907 : decode M_La_law.2.1 907 = .ok (.if_icmp .eq 240, 3) := by decide +kernel
theorem dc_La_law_910 : decode M_La_law.2.1 910 = .ok (.iconst 0, 1) := by decide +kernel
theorem dc_La_law_911 : decode M_La_law.2.1 911 = .ok (.ireturn, 1) := by decide +kernel
theorem dc_La_law_912 : decode M_La_law.2.1 912 = .ok (.aload_n 1, 1) := by decide +kernel
theorem dc_La_law_913 : decode M_La_law.2.1 913 = .ok (.aload_n 0, 1) := by decide +kernel
theorem dc_La_law_914 : decode M_La_law.2.1 914 = .ok (.iload_n 3, 1) := by decide +kernel
theorem dc_La_law_915 : decode M_La_law.2.1 915 = .ok (.iconst 1, 1) := by decide +kernel
theorem dc_La_law_916 : decode M_La_law.2.1 916 = .ok (.iadd, 1) := by decide +kernel
theorem dc_La_law_917 : decode M_La_law.2.1 917 = .ok (.iaload, 1) := by decide +kernel
theorem dc_La_law_918 : decode M_La_law.2.1 918 = .ok (.aload_n 0, 1) := by decide +kernel
theorem dc_La_law_919 : decode M_La_law.2.1 919 = .ok (.iload_n 3, 1) := by decide +kernel
theorem dc_La_law_920 : decode M_La_law.2.1 920 = .ok (.iconst 2, 1) := by decide +kernel
theorem dc_La_law_921 : decode M_La_law.2.1 921 = .ok (.iadd, 1) := by decide +kernel
theorem dc_La_law_922 : decode M_La_law.2.1 922 = .ok (.iaload, 1) := by decide +kernel
theorem dc_La_law_923 : decode M_La_law.2.1 923 = .ok (.aload_n 0, 1) := by decide +kernel
theorem dc_La_law_924 : decode M_La_law.2.1 924 = .ok (.iload_n 3, 1) := by decide +kernel
theorem dc_La_law_925 : decode M_La_law.2.1 925 = .ok (.iconst 3, 1) := by decide +kernel
theorem dc_La_law_926 : decode M_La_law.2.1 926 = .ok (.iadd, 1) := by decide +kernel
theorem dc_La_law_927 : decode M_La_law.2.1 927 = .ok (.iaload, 1) := by decide +kernel
theorem dc_La_law_928 : decode M_La_law.2.1 928 = .ok (.invokevirtual 135, 3) := by decide +kernel
theorem dc_La_law_931 : decode M_La_law.2.1 931 = .ok (.aload_n 2, 1) := by decide +kernel
theorem dc_La_law_932 : decode M_La_law.2.1 932 = .ok (.aload_n 0, 1) := by decide +kernel
theorem dc_La_law_933 : decode M_La_law.2.1 933 = .ok (.iload_n 3, 1) := by decide +kernel
theorem dc_La_law_934 : decode M_La_law.2.1 934 = .ok (.iconst 1, 1) := by decide +kernel
theorem dc_La_law_935 : decode M_La_law.2.1 935 = .ok (.iadd, 1) := by decide +kernel
theorem dc_La_law_936 : decode M_La_law.2.1 936 = .ok (.iaload, 1) := by decide +kernel
theorem dc_La_law_937 : decode M_La_law.2.1 937 = .ok (.aload_n 0, 1) := by decide +kernel
theorem dc_La_law_938 : decode M_La_law.2.1 938 = .ok (.iload_n 3, 1) := by decide +kernel
theorem dc_La_law_939 : decode M_La_law.2.1 939 = .ok (.iconst 2, 1) := by decide +kernel
theorem dc_La_law_940 : decode M_La_law.2.1 940 = .ok (.iadd, 1) := by decide +kernel
theorem dc_La_law_941 : decode M_La_law.2.1 941 = .ok (.iaload, 1) := by decide +kernel
theorem dc_La_law_942 : decode M_La_law.2.1 942 = .ok (.aload_n 0, 1) := by decide +kernel
theorem dc_La_law_943 : decode M_La_law.2.1 943 = .ok (.iload_n 3, 1) := by decide +kernel
theorem dc_La_law_944 : decode M_La_law.2.1 944 = .ok (.iconst 3, 1) := by decide +kernel
theorem dc_La_law_945 : decode M_La_law.2.1 945 = .ok (.iadd, 1) := by decide +kernel
theorem dc_La_law_946 : decode M_La_law.2.1 946 = .ok (.iaload, 1) := by decide +kernel
theorem dc_La_law_947 : decode M_La_law.2.1 947 = .ok (.invokevirtual 138, 3) := by decide +kernel
theorem dc_La_law_950 : decode M_La_law.2.1 950 = .ok (.if_icmp .eq 197, 3) := by decide +kernel
theorem dc_La_law_953 : decode M_La_law.2.1 953 = .ok (.iconst 0, 1) := by decide +kernel
theorem dc_La_law_954 : decode M_La_law.2.1 954 = .ok (.ireturn, 1) := by decide +kernel
theorem dc_La_law_955 : decode M_La_law.2.1 955 = .ok (.aload_n 1, 1) := by decide +kernel
theorem dc_La_law_956 : decode M_La_law.2.1 956 = .ok (.aload_n 0, 1) := by decide +kernel
theorem dc_La_law_957 : decode M_La_law.2.1 957 = .ok (.iload_n 3, 1) := by decide +kernel
theorem dc_La_law_958 : decode M_La_law.2.1 958 = .ok (.iconst 1, 1) := by decide +kernel
theorem dc_La_law_959 : decode M_La_law.2.1 959 = .ok (.iadd, 1) := by decide +kernel
theorem dc_La_law_960 : decode M_La_law.2.1 960 = .ok (.iaload, 1) := by decide +kernel
theorem dc_La_law_961 : decode M_La_law.2.1 961 = .ok (.aload_n 0, 1) := by decide +kernel
theorem dc_La_law_962 : decode M_La_law.2.1 962 = .ok (.iload_n 3, 1) := by decide +kernel
theorem dc_La_law_963 : decode M_La_law.2.1 963 = .ok (.iconst 2, 1) := by decide +kernel
theorem dc_La_law_964 : decode M_La_law.2.1 964 = .ok (.iadd, 1) := by decide +kernel
theorem dc_La_law_965 : decode M_La_law.2.1 965 = .ok (.iaload, 1) := by decide +kernel
theorem dc_La_law_966 : decode M_La_law.2.1 966 = .ok (.aload_n 0, 1) := by decide +kernel
theorem dc_La_law_967 : decode M_La_law.2.1 967 = .ok (.iload_n 3, 1) := by decide +kernel
theorem dc_La_law_968 : decode M_La_law.2.1 968 = .ok (.iconst 3, 1) := by decide +kernel
theorem dc_La_law_969 : decode M_La_law.2.1 969 = .ok (.iadd, 1) := by decide +kernel
theorem dc_La_law_970 : decode M_La_law.2.1 970 = .ok (.iaload, 1) := by decide +kernel
theorem dc_La_law_971 : decode M_La_law.2.1 971 = .ok (.invokevirtual 139, 3) := by decide +kernel
theorem dc_La_law_974 : decode M_La_law.2.1 974 = .ok (.aload_n 2, 1) := by decide +kernel
theorem dc_La_law_975 : decode M_La_law.2.1 975 = .ok (.aload_n 0, 1) := by decide +kernel
theorem dc_La_law_976 : decode M_La_law.2.1 976 = .ok (.iload_n 3, 1) := by decide +kernel
theorem dc_La_law_977 : decode M_La_law.2.1 977 = .ok (.iconst 1, 1) := by decide +kernel
theorem dc_La_law_978 : decode M_La_law.2.1 978 = .ok (.iadd, 1) := by decide +kernel
theorem dc_La_law_979 : decode M_La_law.2.1 979 = .ok (.iaload, 1) := by decide +kernel
theorem dc_La_law_980 : decode M_La_law.2.1 980 = .ok (.aload_n 0, 1) := by decide +kernel
theorem dc_La_law_981 : decode M_La_law.2.1 981 = .ok (.iload_n 3, 1) := by decide +kernel
theorem dc_La_law_982 : decode M_La_law.2.1 982 = .ok (.iconst 2, 1) := by decide +kernel
theorem dc_La_law_983 : decode M_La_law.2.1 983 = .ok (.iadd, 1) := by decide +kernel
theorem dc_La_law_984 : decode M_La_law.2.1 984 = .ok (.iaload, 1) := by decide +kernel
theorem dc_La_law_985 : decode M_La_law.2.1 985 = .ok (.aload_n 0, 1) := by decide +kernel
theorem dc_La_law_986 : decode M_La_law.2.1 986 = .ok (.iload_n 3, 1) := by decide +kernel
theorem dc_La_law_987 : decode M_La_law.2.1 987 = .ok (.iconst 3, 1) := by decide +kernel
theorem dc_La_law_988 : decode M_La_law.2.1 988 = .ok (.iadd, 1) := by decide +kernel
theorem dc_La_law_989 : decode M_La_law.2.1 989 = .ok (.iaload, 1) := by decide +kernel
theorem dc_La_law_990 : decode M_La_law.2.1 990 = .ok (.invokevirtual 142, 3) := by decide +kernel
theorem dc_La_law_993 : decode M_La_law.2.1 993 = .ok (.if_icmp .eq 154, 3) := by decide +kernel
theorem dc_La_law_996 : decode M_La_law.2.1 996 = .ok (.iconst 0, 1) := by decide +kernel
theorem dc_La_law_997 : decode M_La_law.2.1 997 = .ok (.ireturn, 1) := by decide +kernel
theorem dc_La_law_998 : decode M_La_law.2.1 998 = .ok (.aload_n 1, 1) := by decide +kernel
theorem dc_La_law_999 : decode M_La_law.2.1 999 = .ok (.aload_n 0, 1) := by decide +kernel
theorem dc_La_law_1000 : decode M_La_law.2.1 1000 = .ok (.iload_n 3, 1) := by decide +kernel
theorem dc_La_law_1001 : decode M_La_law.2.1 1001 = .ok (.iconst 1, 1) := by decide +kernel
theorem dc_La_law_1002 : decode M_La_law.2.1 1002 = .ok (.iadd, 1) := by decide +kernel
theorem dc_La_law_1003 : decode M_La_law.2.1 1003 = .ok (.iaload, 1) := by decide +kernel
theorem dc_La_law_1004 : decode M_La_law.2.1 1004 = .ok (.aload_n 0, 1) := by decide +kernel
theorem dc_La_law_1005 : decode M_La_law.2.1 1005 = .ok (.iload_n 3, 1) := by decide +kernel
theorem dc_La_law_1006 : decode M_La_law.2.1 1006 = .ok (.iconst 2, 1) := by decide +kernel
theorem dc_La_law_1007 : decode M_La_law.2.1 1007 = .ok (.iadd, 1) := by decide +kernel
theorem dc_La_law_1008 : decode M_La_law.2.1 1008 = .ok (.iaload, 1) := by decide +kernel
theorem dc_La_law_1009 : decode M_La_law.2.1 1009 = .ok (.aload_n 0, 1) := by decide +kernel
theorem dc_La_law_1010 : decode M_La_law.2.1 1010 = .ok (.iload_n 3, 1) := by decide +kernel
theorem dc_La_law_1011 : decode M_La_law.2.1 1011 = .ok (.iconst 3, 1) := by decide +kernel
theorem dc_La_law_1012 : decode M_La_law.2.1 1012 = .ok (.iadd, 1) := by decide +kernel
theorem dc_La_law_1013 : decode M_La_law.2.1 1013 = .ok (.iaload, 1) := by decide +kernel
theorem dc_La_law_1014 : decode M_La_law.2.1 1014 = .ok (.aload_n 0, 1) := by decide +kernel
theorem dc_La_law_1015 : decode M_La_law.2.1 1015 = .ok (.iload_n 3, 1) := by decide +kernel
theorem dc_La_law_1016 : decode M_La_law.2.1 1016 = .ok (.iconst 4, 1) := by decide +kernel
theorem dc_La_law_1017 : decode M_La_law.2.1 1017 = .ok (.iadd, 1) := by decide +kernel
theorem dc_La_law_1018 : decode M_La_law.2.1 1018 = .ok (.iaload, 1) := by decide +kernel
theorem dc_La_law_1019 : decode M_La_law.2.1 1019 = .ok (.aload_n 0, 1) := by decide +kernel
theorem dc_La_law_1020 : decode M_La_law.2.1 1020 = .ok (.iload_n 3, 1) := by decide +kernel
theorem dc_La_law_1021 : decode M_La_law.2.1 1021 = .ok (.iconst 5, 1) := by decide +kernel
theorem dc_La_law_1022 : decode M_La_law.2.1 1022 = .ok (.iadd, 1) := by decide +kernel
theorem dc_La_law_1023 : decode M_La_law.2.1 1023 = .ok (.iaload, 1) := by decide +kernel
theorem dc_La_law_1024 : decode M_La_law.2.1 1024 = .ok (.invokevirtual 143, 3) := by decide +kernel
theorem dc_La_law_1027 : decode M_La_law.2.1 1027 = .ok (.aload_n 2, 1) := by decide +kernel
theorem dc_La_law_1028 : decode M_La_law.2.1 1028 = .ok (.aload_n 0, 1) := by decide +kernel
theorem dc_La_law_1029 : decode M_La_law.2.1 1029 = .ok (.iload_n 3, 1) := by decide +kernel
theorem dc_La_law_1030 : decode M_La_law.2.1 1030 = .ok (.iconst 1, 1) := by decide +kernel
theorem dc_La_law_1031 : decode M_La_law.2.1 1031 = .ok (.iadd, 1) := by decide +kernel
theorem dc_La_law_1032 : decode M_La_law.2.1 1032 = .ok (.iaload, 1) := by decide +kernel
theorem dc_La_law_1033 : decode M_La_law.2.1 1033 = .ok (.aload_n 0, 1) := by decide +kernel
theorem dc_La_law_1034 : decode M_La_law.2.1 1034 = .ok (.iload_n 3, 1) := by decide +kernel
theorem dc_La_law_1035 : decode M_La_law.2.1 1035 = .ok (.iconst 2, 1) := by decide +kernel
theorem dc_La_law_1036 : decode M_La_law.2.1 1036 = .ok (.iadd, 1) := by decide +kernel
theorem dc_La_law_1037 : decode M_La_law.2.1 1037 = .ok (.iaload, 1) := by decide +kernel
theorem dc_La_law_1038 : decode M_La_law.2.1 1038 = .ok (.aload_n 0, 1) := by decide +kernel
theorem dc_La_law_1039 : decode M_La_law.2.1 1039 = .ok (.iload_n 3, 1) := by decide +kernel
theorem dc_La_law_1040 : decode M_La_law.2.1 1040 = .ok (.iconst 3, 1) := by decide +kernel
theorem dc_La_law_1041 : decode M_La_law.2.1 1041 = .ok (.iadd, 1) := by decide +kernel
theorem dc_La_law_1042 : decode M_La_law.2.1 1042 = .ok (.iaload, 1) := by decide +kernel
theorem dc_La_law_1043 : decode M_La_law.2.1 1043 = .ok (.aload_n 0, 1) := by decide +kernel
theorem dc_La_law_1044 : decode M_La_law.2.1 1044 = .ok (.iload_n 3, 1) := by decide +kernel
theorem dc_La_law_1045 : decode M_La_law.2.1 1045 = .ok (.iconst 4, 1) := by decide +kernel
theorem dc_La_law_1046 : decode M_La_law.2.1 1046 = .ok (.iadd, 1) := by decide +kernel
theorem dc_La_law_1047 : decode M_La_law.2.1 1047 = .ok (.iaload, 1) := by decide +kernel
theorem dc_La_law_1048 : decode M_La_law.2.1 1048 = .ok (.aload_n 0, 1) := by decide +kernel
theorem dc_La_law_1049 : decode M_La_law.2.1 1049 = .ok (.iload_n 3, 1) := by decide +kernel
theorem dc_La_law_1050 : decode M_La_law.2.1 1050 = .ok (.iconst 5, 1) := by decide +kernel
theorem dc_La_law_1051 : decode M_La_law.2.1 1051 = .ok (.iadd, 1) := by decide +kernel
theorem dc_La_law_1052 : decode M_La_law.2.1 1052 = .ok (.iaload, 1) := by decide +kernel
theorem dc_La_law_1053 : decode M_La_law.2.1 1053 = .ok (.invokevirtual 147, 3) := by decide +kernel
theorem dc_La_law_1056 : decode M_La_law.2.1 1056 = .ok (.if_icmp .eq 91, 3) := by decide +kernel
theorem dc_La_law_1059 : decode M_La_law.2.1 1059 = .ok (.iconst 0, 1) := by decide +kernel
theorem dc_La_law_1060 : decode M_La_law.2.1 1060 = .ok (.ireturn, 1) := by decide +kernel
theorem dc_La_law_1061 : decode M_La_law.2.1 1061 = .ok (.aload_n 1, 1) := by decide +kernel
theorem dc_La_law_1062 : decode M_La_law.2.1 1062 = .ok (.aload_n 0, 1) := by decide +kernel
theorem dc_La_law_1063 : decode M_La_law.2.1 1063 = .ok (.iload_n 3, 1) := by decide +kernel
theorem dc_La_law_1064 : decode M_La_law.2.1 1064 = .ok (.iconst 1, 1) := by decide +kernel
theorem dc_La_law_1065 : decode M_La_law.2.1 1065 = .ok (.iadd, 1) := by decide +kernel
theorem dc_La_law_1066 : decode M_La_law.2.1 1066 = .ok (.iaload, 1) := by decide +kernel
theorem dc_La_law_1067 : decode M_La_law.2.1 1067 = .ok (.aload_n 0, 1) := by decide +kernel
theorem dc_La_law_1068 : decode M_La_law.2.1 1068 = .ok (.iload_n 3, 1) := by decide +kernel
theorem dc_La_law_1069 : decode M_La_law.2.1 1069 = .ok (.iconst 2, 1) := by decide +kernel
theorem dc_La_law_1070 : decode M_La_law.2.1 1070 = .ok (.iadd, 1) := by decide +kernel
theorem dc_La_law_1071 : decode M_La_law.2.1 1071 = .ok (.iaload, 1) := by decide +kernel
theorem dc_La_law_1072 : decode M_La_law.2.1 1072 = .ok (.aload_n 0, 1) := by decide +kernel
theorem dc_La_law_1073 : decode M_La_law.2.1 1073 = .ok (.iload_n 3, 1) := by decide +kernel
theorem dc_La_law_1074 : decode M_La_law.2.1 1074 = .ok (.iconst 3, 1) := by decide +kernel
theorem dc_La_law_1075 : decode M_La_law.2.1 1075 = .ok (.iadd, 1) := by decide +kernel
theorem dc_La_law_1076 : decode M_La_law.2.1 1076 = .ok (.iaload, 1) := by decide +kernel
theorem dc_La_law_1077 : decode M_La_law.2.1 1077 = .ok (.aload_n 0, 1) := by decide +kernel
theorem dc_La_law_1078 : decode M_La_law.2.1 1078 = .ok (.iload_n 3, 1) := by decide +kernel
theorem dc_La_law_1079 : decode M_La_law.2.1 1079 = .ok (.iconst 4, 1) := by decide +kernel
theorem dc_La_law_1080 : decode M_La_law.2.1 1080 = .ok (.iadd, 1) := by decide +kernel
theorem dc_La_law_1081 : decode M_La_law.2.1 1081 = .ok (.iaload, 1) := by decide +kernel
theorem dc_La_law_1082 : decode M_La_law.2.1 1082 = .ok (.invokevirtual 148, 3) := by decide +kernel
theorem dc_La_law_1085 : decode M_La_law.2.1 1085 = .ok (.aload_n 2, 1) := by decide +kernel
theorem dc_La_law_1086 : decode M_La_law.2.1 1086 = .ok (.aload_n 0, 1) := by decide +kernel
theorem dc_La_law_1087 : decode M_La_law.2.1 1087 = .ok (.iload_n 3, 1) := by decide +kernel
theorem dc_La_law_1088 : decode M_La_law.2.1 1088 = .ok (.iconst 1, 1) := by decide +kernel
theorem dc_La_law_1089 : decode M_La_law.2.1 1089 = .ok (.iadd, 1) := by decide +kernel
theorem dc_La_law_1090 : decode M_La_law.2.1 1090 = .ok (.iaload, 1) := by decide +kernel
theorem dc_La_law_1091 : decode M_La_law.2.1 1091 = .ok (.aload_n 0, 1) := by decide +kernel
theorem dc_La_law_1092 : decode M_La_law.2.1 1092 = .ok (.iload_n 3, 1) := by decide +kernel
theorem dc_La_law_1093 : decode M_La_law.2.1 1093 = .ok (.iconst 2, 1) := by decide +kernel
theorem dc_La_law_1094 : decode M_La_law.2.1 1094 = .ok (.iadd, 1) := by decide +kernel
theorem dc_La_law_1095 : decode M_La_law.2.1 1095 = .ok (.iaload, 1) := by decide +kernel
theorem dc_La_law_1096 : decode M_La_law.2.1 1096 = .ok (.aload_n 0, 1) := by decide +kernel
theorem dc_La_law_1097 : decode M_La_law.2.1 1097 = .ok (.iload_n 3, 1) := by decide +kernel
theorem dc_La_law_1098 : decode M_La_law.2.1 1098 = .ok (.iconst 3, 1) := by decide +kernel
theorem dc_La_law_1099 : decode M_La_law.2.1 1099 = .ok (.iadd, 1) := by decide +kernel
theorem dc_La_law_1100 : decode M_La_law.2.1 1100 = .ok (.iaload, 1) := by decide +kernel
theorem dc_La_law_1101 : decode M_La_law.2.1 1101 = .ok (.aload_n 0, 1) := by decide +kernel
theorem dc_La_law_1102 : decode M_La_law.2.1 1102 = .ok (.iload_n 3, 1) := by decide +kernel
theorem dc_La_law_1103 : decode M_La_law.2.1 1103 = .ok (.iconst 4, 1) := by decide +kernel
theorem dc_La_law_1104 : decode M_La_law.2.1 1104 = .ok (.iadd, 1) := by decide +kernel
theorem dc_La_law_1105 : decode M_La_law.2.1 1105 = .ok (.iaload, 1) := by decide +kernel
theorem dc_La_law_1106 : decode M_La_law.2.1 1106 = .ok (.invokevirtual 151, 3) := by decide +kernel
theorem dc_La_law_1109 : decode M_La_law.2.1 1109 = .ok (.if_icmp .eq 38, 3) := by decide +kernel
theorem dc_La_law_1112 : decode M_La_law.2.1 1112 = .ok (.iconst 0, 1) := by decide +kernel
theorem dc_La_law_1113 : decode M_La_law.2.1 1113 = .ok (.ireturn, 1) := by decide +kernel
theorem dc_La_law_1114 : decode M_La_law.2.1 1114 = .ok (.aload_n 1, 1) := by decide +kernel
theorem dc_La_law_1115 : decode M_La_law.2.1 1115 = .ok (.aload_n 0, 1) := by decide +kernel
theorem dc_La_law_1116 : decode M_La_law.2.1 1116 = .ok (.iload_n 3, 1) := by decide +kernel
theorem dc_La_law_1117 : decode M_La_law.2.1 1117 = .ok (.iconst 1, 1) := by decide +kernel
theorem dc_La_law_1118 : decode M_La_law.2.1 1118 = .ok (.iadd, 1) := by decide +kernel
theorem dc_La_law_1119 : decode M_La_law.2.1 1119 = .ok (.iaload, 1) := by decide +kernel
theorem dc_La_law_1120 : decode M_La_law.2.1 1120 = .ok (.aload_n 0, 1) := by decide +kernel
theorem dc_La_law_1121 : decode M_La_law.2.1 1121 = .ok (.iload_n 3, 1) := by decide +kernel
theorem dc_La_law_1122 : decode M_La_law.2.1 1122 = .ok (.iconst 2, 1) := by decide +kernel
theorem dc_La_law_1123 : decode M_La_law.2.1 1123 = .ok (.iadd, 1) := by decide +kernel
theorem dc_La_law_1124 : decode M_La_law.2.1 1124 = .ok (.iaload, 1) := by decide +kernel
theorem dc_La_law_1125 : decode M_La_law.2.1 1125 = .ok (.invokevirtual 152, 3) := by decide +kernel
theorem dc_La_law_1128 : decode M_La_law.2.1 1128 = .ok (.aload_n 2, 1) := by decide +kernel
theorem dc_La_law_1129 : decode M_La_law.2.1 1129 = .ok (.aload_n 0, 1) := by decide +kernel
theorem dc_La_law_1130 : decode M_La_law.2.1 1130 = .ok (.iload_n 3, 1) := by decide +kernel
theorem dc_La_law_1131 : decode M_La_law.2.1 1131 = .ok (.iconst 1, 1) := by decide +kernel
theorem dc_La_law_1132 : decode M_La_law.2.1 1132 = .ok (.iadd, 1) := by decide +kernel
theorem dc_La_law_1133 : decode M_La_law.2.1 1133 = .ok (.iaload, 1) := by decide +kernel
theorem dc_La_law_1134 : decode M_La_law.2.1 1134 = .ok (.aload_n 0, 1) := by decide +kernel
theorem dc_La_law_1135 : decode M_La_law.2.1 1135 = .ok (.iload_n 3, 1) := by decide +kernel
theorem dc_La_law_1136 : decode M_La_law.2.1 1136 = .ok (.iconst 2, 1) := by decide +kernel
theorem dc_La_law_1137 : decode M_La_law.2.1 1137 = .ok (.iadd, 1) := by decide +kernel
theorem dc_La_law_1138 : decode M_La_law.2.1 1138 = .ok (.iaload, 1) := by decide +kernel
theorem dc_La_law_1139 : decode M_La_law.2.1 1139 = .ok (.invokevirtual 155, 3) := by decide +kernel
theorem dc_La_law_1142 : decode M_La_law.2.1 1142 = .ok (.if_icmp .eq 5, 3) := by decide +kernel
theorem dc_La_law_1145 : decode M_La_law.2.1 1145 = .ok (.iconst 0, 1) := by decide +kernel
theorem dc_La_law_1146 : decode M_La_law.2.1 1146 = .ok (.ireturn, 1) := by decide +kernel
theorem dc_La_law_1147 : decode M_La_law.2.1 1147 = .ok (.iinc 3 6, 3) := by decide +kernel
theorem dc_La_law_1150 : decode M_La_law.2.1 1150 = .ok (.goto (-1132), 3) := by decide +kernel
theorem dc_La_law_1153 : decode M_La_law.2.1 1153 = .ok (.iconst 1, 1) := by decide +kernel
theorem dc_La_law_1154 : decode M_La_law.2.1 1154 = .ok (.ireturn, 1) := by decide +kernel
def f_La_law_L18 (Z : xZ) (a1 : Nat) (a2 : Nat) : Nat → Int32 → xH → (Int32 → xH → Option (Int32 × xH)) → Option (Int32 × xH)
  | 0, _, _, _ => none
  | n + 1, a3, h, K => if ((Int32.ofNat Z.1) - (6 : Int32)) < a3 then K a3 h else gd (¬ (a3 < 0 ∨ Z.1 ≤ a3.toNatClampNeg)) (jn (fun (x252 : xH) => f_La_law_L18 Z a1 a2 n (a3 + (6 : Int32)) x252 K) (fun k253 => if ((Z.2 a3.toNatClampNeg) &&& (63 : Int32)) = (0 : Int32) then gd (¬ ((a3 + (1 : Int32)) < 0 ∨ Z.1 ≤ (a3 + (1 : Int32)).toNatClampNeg)) (gd (hK h a1 = 10) (Option.bind (f_Ma_sit a1 (Z.2 (a3 + (1 : Int32)).toNatClampNeg) h) (fun q255 => gd (¬ ((a3 + (1 : Int32)) < 0 ∨ Z.1 ≤ (a3 + (1 : Int32)).toNatClampNeg)) (gd (hK q255.2 a2 = 11) (Option.bind (f_Mo_sit a2 (Z.2 (a3 + (1 : Int32)).toNatClampNeg) q255.2) (fun q258 => if q255.1 = q258.1 then k253 q258.2 else some ((0 : Int32), q258.2))))))) else if ((Z.2 a3.toNatClampNeg) &&& (63 : Int32)) = (1 : Int32) then gd (¬ ((a3 + (1 : Int32)) < 0 ∨ Z.1 ≤ (a3 + (1 : Int32)).toNatClampNeg)) (gd (¬ ((a3 + (2 : Int32)) < 0 ∨ Z.1 ≤ (a3 + (2 : Int32)).toNatClampNeg)) (gd (¬ ((a3 + (3 : Int32)) < 0 ∨ Z.1 ≤ (a3 + (3 : Int32)).toNatClampNeg)) (gd (hK h a1 = 10) (Option.bind (f_Ma_meet a1 (Z.2 (a3 + (1 : Int32)).toNatClampNeg) (Z.2 (a3 + (2 : Int32)).toNatClampNeg) (Z.2 (a3 + (3 : Int32)).toNatClampNeg) h) (fun q265 => gd (¬ ((a3 + (1 : Int32)) < 0 ∨ Z.1 ≤ (a3 + (1 : Int32)).toNatClampNeg)) (gd (¬ ((a3 + (2 : Int32)) < 0 ∨ Z.1 ≤ (a3 + (2 : Int32)).toNatClampNeg)) (gd (¬ ((a3 + (3 : Int32)) < 0 ∨ Z.1 ≤ (a3 + (3 : Int32)).toNatClampNeg)) (gd (hK q265.2 a2 = 11) (Option.bind (f_Mo_meet a2 (Z.2 (a3 + (1 : Int32)).toNatClampNeg) (Z.2 (a3 + (2 : Int32)).toNatClampNeg) (Z.2 (a3 + (3 : Int32)).toNatClampNeg) q265.2) (fun q270 => if q265.1 = q270.1 then k253 q270.2 else some ((0 : Int32), q270.2))))))))))) else if ((Z.2 a3.toNatClampNeg) &&& (63 : Int32)) = (2 : Int32) then gd (¬ ((a3 + (1 : Int32)) < 0 ∨ Z.1 ≤ (a3 + (1 : Int32)).toNatClampNeg)) (gd (¬ ((a3 + (2 : Int32)) < 0 ∨ Z.1 ≤ (a3 + (2 : Int32)).toNatClampNeg)) (gd (hK h a1 = 10) (Option.bind (f_Ma_told a1 (Z.2 (a3 + (1 : Int32)).toNatClampNeg) (Z.2 (a3 + (2 : Int32)).toNatClampNeg) h) (fun q276 => gd (¬ ((a3 + (1 : Int32)) < 0 ∨ Z.1 ≤ (a3 + (1 : Int32)).toNatClampNeg)) (gd (¬ ((a3 + (2 : Int32)) < 0 ∨ Z.1 ≤ (a3 + (2 : Int32)).toNatClampNeg)) (gd (hK q276.2 a2 = 11) (Option.bind (f_Mo_told a2 (Z.2 (a3 + (1 : Int32)).toNatClampNeg) (Z.2 (a3 + (2 : Int32)).toNatClampNeg) q276.2) (fun q280 => if q276.1 = q280.1 then k253 q280.2 else some ((0 : Int32), q280.2))))))))) else if ((Z.2 a3.toNatClampNeg) &&& (63 : Int32)) = (3 : Int32) then gd (¬ ((a3 + (1 : Int32)) < 0 ∨ Z.1 ≤ (a3 + (1 : Int32)).toNatClampNeg)) (gd (¬ ((a3 + (2 : Int32)) < 0 ∨ Z.1 ≤ (a3 + (2 : Int32)).toNatClampNeg)) (gd (hK h a1 = 10) (Option.bind (f_Ma_town a1 (Z.2 (a3 + (1 : Int32)).toNatClampNeg) (Z.2 (a3 + (2 : Int32)).toNatClampNeg) h) (fun q286 => gd (¬ ((a3 + (1 : Int32)) < 0 ∨ Z.1 ≤ (a3 + (1 : Int32)).toNatClampNeg)) (gd (¬ ((a3 + (2 : Int32)) < 0 ∨ Z.1 ≤ (a3 + (2 : Int32)).toNatClampNeg)) (gd (hK q286.2 a2 = 11) (Option.bind (f_Mo_town a2 (Z.2 (a3 + (1 : Int32)).toNatClampNeg) (Z.2 (a3 + (2 : Int32)).toNatClampNeg) q286.2) (fun q290 => if q286.1 = q290.1 then k253 q290.2 else some ((0 : Int32), q290.2))))))))) else if ((Z.2 a3.toNatClampNeg) &&& (63 : Int32)) = (4 : Int32) then gd (¬ ((a3 + (1 : Int32)) < 0 ∨ Z.1 ≤ (a3 + (1 : Int32)).toNatClampNeg)) (gd (hK h a1 = 10) (Option.bind (f_Ma_asIn a1 (Z.2 (a3 + (1 : Int32)).toNatClampNeg) h) (fun q295 => gd (¬ ((a3 + (1 : Int32)) < 0 ∨ Z.1 ≤ (a3 + (1 : Int32)).toNatClampNeg)) (gd (hK q295.2 a2 = 11) (Option.bind (f_Mo_asIn a2 (Z.2 (a3 + (1 : Int32)).toNatClampNeg) q295.2) (fun q298 => if q295.1 = q298.1 then k253 q298.2 else some ((0 : Int32), q298.2))))))) else if ((Z.2 a3.toNatClampNeg) &&& (63 : Int32)) = (5 : Int32) then gd (¬ ((a3 + (1 : Int32)) < 0 ∨ Z.1 ≤ (a3 + (1 : Int32)).toNatClampNeg)) (gd (¬ ((a3 + (2 : Int32)) < 0 ∨ Z.1 ≤ (a3 + (2 : Int32)).toNatClampNeg)) (gd (¬ ((a3 + (3 : Int32)) < 0 ∨ Z.1 ≤ (a3 + (3 : Int32)).toNatClampNeg)) (gd (¬ ((a3 + (4 : Int32)) < 0 ∨ Z.1 ≤ (a3 + (4 : Int32)).toNatClampNeg)) (gd (hK h a1 = 10) (Option.bind (f_Ma_tells a1 (Z.2 (a3 + (1 : Int32)).toNatClampNeg) (Z.2 (a3 + (2 : Int32)).toNatClampNeg) (Z.2 (a3 + (3 : Int32)).toNatClampNeg) (Z.2 (a3 + (4 : Int32)).toNatClampNeg) h) (fun q306 => gd (¬ ((a3 + (1 : Int32)) < 0 ∨ Z.1 ≤ (a3 + (1 : Int32)).toNatClampNeg)) (gd (¬ ((a3 + (2 : Int32)) < 0 ∨ Z.1 ≤ (a3 + (2 : Int32)).toNatClampNeg)) (gd (¬ ((a3 + (3 : Int32)) < 0 ∨ Z.1 ≤ (a3 + (3 : Int32)).toNatClampNeg)) (gd (¬ ((a3 + (4 : Int32)) < 0 ∨ Z.1 ≤ (a3 + (4 : Int32)).toNatClampNeg)) (gd (hK q306.2 a2 = 11) (Option.bind (f_Mo_tells a2 (Z.2 (a3 + (1 : Int32)).toNatClampNeg) (Z.2 (a3 + (2 : Int32)).toNatClampNeg) (Z.2 (a3 + (3 : Int32)).toNatClampNeg) (Z.2 (a3 + (4 : Int32)).toNatClampNeg) q306.2) (fun q312 => if q306.1 = q312.1 then k253 q312.2 else some ((0 : Int32), q312.2))))))))))))) else if ((Z.2 a3.toNatClampNeg) &&& (63 : Int32)) = (6 : Int32) then gd (¬ ((a3 + (1 : Int32)) < 0 ∨ Z.1 ≤ (a3 + (1 : Int32)).toNatClampNeg)) (gd (hK h a1 = 10) (Option.bind (f_Ma_feed a1 (Z.2 (a3 + (1 : Int32)).toNatClampNeg) h) (fun q317 => gd (¬ ((a3 + (1 : Int32)) < 0 ∨ Z.1 ≤ (a3 + (1 : Int32)).toNatClampNeg)) (gd (hK q317.2 a2 = 11) (Option.bind (f_Mo_feed a2 (Z.2 (a3 + (1 : Int32)).toNatClampNeg) q317.2) (fun q320 => if q317.1 = q320.1 then k253 q320.2 else some ((0 : Int32), q320.2))))))) else if ((Z.2 a3.toNatClampNeg) &&& (63 : Int32)) = (7 : Int32) then gd (hK h a1 = 10) (Option.bind (f_Ma_text a1 h) (fun q324 => gd (hK q324.2 a2 = 11) (Option.bind (f_Mo_text a2 q324.2) (fun q326 => if q324.1 = q326.1 then k253 q326.2 else some ((0 : Int32), q326.2))))) else if ((Z.2 a3.toNatClampNeg) &&& (63 : Int32)) = (8 : Int32) then gd (¬ ((a3 + (1 : Int32)) < 0 ∨ Z.1 ≤ (a3 + (1 : Int32)).toNatClampNeg)) (gd (hK h a1 = 10) (Option.bind (f_Ma_force a1 (Z.2 (a3 + (1 : Int32)).toNatClampNeg) h) (fun q331 => gd (¬ ((a3 + (1 : Int32)) < 0 ∨ Z.1 ≤ (a3 + (1 : Int32)).toNatClampNeg)) (gd (hK q331.2 a2 = 11) (Option.bind (f_Mo_force a2 (Z.2 (a3 + (1 : Int32)).toNatClampNeg) q331.2) (fun q334 => if q331.1 = q334.1 then k253 q334.2 else some ((0 : Int32), q334.2))))))) else if ((Z.2 a3.toNatClampNeg) &&& (63 : Int32)) = (9 : Int32) then gd (¬ ((a3 + (1 : Int32)) < 0 ∨ Z.1 ≤ (a3 + (1 : Int32)).toNatClampNeg)) (gd (hK h a1 = 10) (Option.bind (f_Ma_threes a1 (Z.2 (a3 + (1 : Int32)).toNatClampNeg) h) (fun q339 => gd (¬ ((a3 + (1 : Int32)) < 0 ∨ Z.1 ≤ (a3 + (1 : Int32)).toNatClampNeg)) (gd (hK q339.2 a2 = 11) (Option.bind (f_Mo_threes a2 (Z.2 (a3 + (1 : Int32)).toNatClampNeg) q339.2) (fun q342 => if q339.1 = q342.1 then k253 q342.2 else some ((0 : Int32), q342.2))))))) else if ((Z.2 a3.toNatClampNeg) &&& (63 : Int32)) = (10 : Int32) then gd (¬ ((a3 + (1 : Int32)) < 0 ∨ Z.1 ≤ (a3 + (1 : Int32)).toNatClampNeg)) (gd (¬ ((a3 + (2 : Int32)) < 0 ∨ Z.1 ≤ (a3 + (2 : Int32)).toNatClampNeg)) (gd (hK h a1 = 10) (Option.bind (f_Ma_guest a1 (Z.2 (a3 + (1 : Int32)).toNatClampNeg) (Z.2 (a3 + (2 : Int32)).toNatClampNeg) h) (fun q348 => gd (¬ ((a3 + (1 : Int32)) < 0 ∨ Z.1 ≤ (a3 + (1 : Int32)).toNatClampNeg)) (gd (¬ ((a3 + (2 : Int32)) < 0 ∨ Z.1 ≤ (a3 + (2 : Int32)).toNatClampNeg)) (gd (hK q348.2 a2 = 11) (Option.bind (f_Mo_guest a2 (Z.2 (a3 + (1 : Int32)).toNatClampNeg) (Z.2 (a3 + (2 : Int32)).toNatClampNeg) q348.2) (fun q352 => if q348.1 = q352.1 then k253 q352.2 else some ((0 : Int32), q352.2))))))))) else if ((Z.2 a3.toNatClampNeg) &&& (63 : Int32)) = (11 : Int32) then gd (hK h a1 = 10) (Option.bind (f_Ma_most a1 h) (fun q356 => gd (hK q356.2 a2 = 11) (Option.bind (f_Mo_most a2 q356.2) (fun q358 => if q356.1 = q358.1 then k253 q358.2 else some ((0 : Int32), q358.2))))) else if ((Z.2 a3.toNatClampNeg) &&& (63 : Int32)) = (12 : Int32) then gd (¬ ((a3 + (1 : Int32)) < 0 ∨ Z.1 ≤ (a3 + (1 : Int32)).toNatClampNeg)) (gd (hK h a1 = 10) (Option.bind (f_Ma_home a1 (Z.2 (a3 + (1 : Int32)).toNatClampNeg) h) (fun q363 => gd (¬ ((a3 + (1 : Int32)) < 0 ∨ Z.1 ≤ (a3 + (1 : Int32)).toNatClampNeg)) (gd (hK q363.2 a2 = 11) (Option.bind (f_Mo_home a2 (Z.2 (a3 + (1 : Int32)).toNatClampNeg) q363.2) (fun q366 => if q363.1 = q366.1 then k253 q366.2 else some ((0 : Int32), q366.2))))))) else if ((Z.2 a3.toNatClampNeg) &&& (63 : Int32)) = (13 : Int32) then gd (¬ ((a3 + (1 : Int32)) < 0 ∨ Z.1 ≤ (a3 + (1 : Int32)).toNatClampNeg)) (gd (hK h a1 = 10) (Option.bind (f_Ma_change a1 (Z.2 (a3 + (1 : Int32)).toNatClampNeg) h) (fun q371 => gd (¬ ((a3 + (1 : Int32)) < 0 ∨ Z.1 ≤ (a3 + (1 : Int32)).toNatClampNeg)) (gd (hK q371.2 a2 = 11) (Option.bind (f_Mo_change a2 (Z.2 (a3 + (1 : Int32)).toNatClampNeg) q371.2) (fun q374 => if q371.1 = q374.1 then k253 q374.2 else some ((0 : Int32), q374.2))))))) else if ((Z.2 a3.toNatClampNeg) &&& (63 : Int32)) = (14 : Int32) then gd (¬ ((a3 + (1 : Int32)) < 0 ∨ Z.1 ≤ (a3 + (1 : Int32)).toNatClampNeg)) (gd (hK h a1 = 10) (Option.bind (f_Ma_noneLeft a1 (Z.2 (a3 + (1 : Int32)).toNatClampNeg) h) (fun q379 => gd (¬ ((a3 + (1 : Int32)) < 0 ∨ Z.1 ≤ (a3 + (1 : Int32)).toNatClampNeg)) (gd (hK q379.2 a2 = 11) (Option.bind (f_Mo_noneLeft a2 (Z.2 (a3 + (1 : Int32)).toNatClampNeg) q379.2) (fun q382 => if q379.1 = q382.1 then k253 q382.2 else some ((0 : Int32), q382.2))))))) else if ((Z.2 a3.toNatClampNeg) &&& (63 : Int32)) = (15 : Int32) then gd (¬ ((a3 + (1 : Int32)) < 0 ∨ Z.1 ≤ (a3 + (1 : Int32)).toNatClampNeg)) (gd (¬ ((a3 + (2 : Int32)) < 0 ∨ Z.1 ≤ (a3 + (2 : Int32)).toNatClampNeg)) (gd (hK h a1 = 10) (Option.bind (f_Ma_all a1 (Z.2 (a3 + (1 : Int32)).toNatClampNeg) (Z.2 (a3 + (2 : Int32)).toNatClampNeg) h) (fun q388 => gd (¬ ((a3 + (1 : Int32)) < 0 ∨ Z.1 ≤ (a3 + (1 : Int32)).toNatClampNeg)) (gd (¬ ((a3 + (2 : Int32)) < 0 ∨ Z.1 ≤ (a3 + (2 : Int32)).toNatClampNeg)) (gd (hK q388.2 a2 = 11) (Option.bind (f_Mo_all a2 (Z.2 (a3 + (1 : Int32)).toNatClampNeg) (Z.2 (a3 + (2 : Int32)).toNatClampNeg) q388.2) (fun q392 => if q388.1 = q392.1 then k253 q392.2 else some ((0 : Int32), q392.2))))))))) else if ((Z.2 a3.toNatClampNeg) &&& (63 : Int32)) = (16 : Int32) then gd (¬ ((a3 + (1 : Int32)) < 0 ∨ Z.1 ≤ (a3 + (1 : Int32)).toNatClampNeg)) (gd (hK h a1 = 10) (Option.bind (f_Ma_halved a1 (Z.2 (a3 + (1 : Int32)).toNatClampNeg) h) (fun q397 => gd (¬ ((a3 + (1 : Int32)) < 0 ∨ Z.1 ≤ (a3 + (1 : Int32)).toNatClampNeg)) (gd (hK q397.2 a2 = 11) (Option.bind (f_Mo_halved a2 (Z.2 (a3 + (1 : Int32)).toNatClampNeg) q397.2) (fun q400 => if q397.1 = q400.1 then k253 q400.2 else some ((0 : Int32), q400.2))))))) else if ((Z.2 a3.toNatClampNeg) &&& (63 : Int32)) = (17 : Int32) then gd (hK h a1 = 10) (Option.bind (f_Ma_fours a1 h) (fun q404 => gd (hK q404.2 a2 = 11) (Option.bind (f_Mo_fours a2 q404.2) (fun q406 => if q404.1 = q406.1 then k253 q406.2 else some ((0 : Int32), q406.2))))) else if ((Z.2 a3.toNatClampNeg) &&& (63 : Int32)) = (18 : Int32) then gd (¬ ((a3 + (1 : Int32)) < 0 ∨ Z.1 ≤ (a3 + (1 : Int32)).toNatClampNeg)) (gd (hK h a1 = 10) (Option.bind (f_Ma_common a1 (Z.2 (a3 + (1 : Int32)).toNatClampNeg) h) (fun q411 => gd (¬ ((a3 + (1 : Int32)) < 0 ∨ Z.1 ≤ (a3 + (1 : Int32)).toNatClampNeg)) (gd (hK q411.2 a2 = 11) (Option.bind (f_Mo_common a2 (Z.2 (a3 + (1 : Int32)).toNatClampNeg) q411.2) (fun q414 => if q411.1 = q414.1 then k253 q414.2 else some ((0 : Int32), q414.2))))))) else if ((Z.2 a3.toNatClampNeg) &&& (63 : Int32)) = (19 : Int32) then gd (¬ ((a3 + (1 : Int32)) < 0 ∨ Z.1 ≤ (a3 + (1 : Int32)).toNatClampNeg)) (gd (¬ ((a3 + (2 : Int32)) < 0 ∨ Z.1 ≤ (a3 + (2 : Int32)).toNatClampNeg)) (gd (hK h a1 = 10) (Option.bind (f_Ma_without a1 (Z.2 (a3 + (1 : Int32)).toNatClampNeg) (Z.2 (a3 + (2 : Int32)).toNatClampNeg) h) (fun q420 => gd (¬ ((a3 + (1 : Int32)) < 0 ∨ Z.1 ≤ (a3 + (1 : Int32)).toNatClampNeg)) (gd (¬ ((a3 + (2 : Int32)) < 0 ∨ Z.1 ≤ (a3 + (2 : Int32)).toNatClampNeg)) (gd (hK q420.2 a2 = 11) (Option.bind (f_Mo_without a2 (Z.2 (a3 + (1 : Int32)).toNatClampNeg) (Z.2 (a3 + (2 : Int32)).toNatClampNeg) q420.2) (fun q424 => if q420.1 = q424.1 then k253 q424.2 else some ((0 : Int32), q424.2))))))))) else if ((Z.2 a3.toNatClampNeg) &&& (63 : Int32)) = (20 : Int32) then gd (¬ ((a3 + (1 : Int32)) < 0 ∨ Z.1 ≤ (a3 + (1 : Int32)).toNatClampNeg)) (gd (hK h a1 = 10) (Option.bind (f_Ma_half a1 (Z.2 (a3 + (1 : Int32)).toNatClampNeg) h) (fun q429 => gd (¬ ((a3 + (1 : Int32)) < 0 ∨ Z.1 ≤ (a3 + (1 : Int32)).toNatClampNeg)) (gd (hK q429.2 a2 = 11) (Option.bind (f_Mo_half a2 (Z.2 (a3 + (1 : Int32)).toNatClampNeg) q429.2) (fun q432 => if q429.1 = q432.1 then k253 q432.2 else some ((0 : Int32), q432.2))))))) else if ((Z.2 a3.toNatClampNeg) &&& (63 : Int32)) = (21 : Int32) then gd (¬ ((a3 + (1 : Int32)) < 0 ∨ Z.1 ≤ (a3 + (1 : Int32)).toNatClampNeg)) (gd (hK h a1 = 10) (Option.bind (f_Ma_chance a1 (Z.2 (a3 + (1 : Int32)).toNatClampNeg) h) (fun q437 => gd (¬ ((a3 + (1 : Int32)) < 0 ∨ Z.1 ≤ (a3 + (1 : Int32)).toNatClampNeg)) (gd (hK q437.2 a2 = 11) (Option.bind (f_Mo_chance a2 (Z.2 (a3 + (1 : Int32)).toNatClampNeg) q437.2) (fun q440 => if (jCmpL q437.1 q440.1) = 0 then k253 q440.2 else some ((0 : Int32), q440.2))))))) else if ((Z.2 a3.toNatClampNeg) &&& (63 : Int32)) = (22 : Int32) then gd (¬ ((a3 + (1 : Int32)) < 0 ∨ Z.1 ≤ (a3 + (1 : Int32)).toNatClampNeg)) (gd (hK h a1 = 10) (Option.bind (f_Ma_game a1 (Z.2 (a3 + (1 : Int32)).toNatClampNeg) h) (fun q445 => gd (¬ ((a3 + (1 : Int32)) < 0 ∨ Z.1 ≤ (a3 + (1 : Int32)).toNatClampNeg)) (gd (hK q445.2 a2 = 11) (Option.bind (f_Mo_game a2 (Z.2 (a3 + (1 : Int32)).toNatClampNeg) q445.2) (fun q448 => if q445.1 = q448.1 then k253 q448.2 else some ((0 : Int32), q448.2))))))) else if ((Z.2 a3.toNatClampNeg) &&& (63 : Int32)) = (23 : Int32) then gd (¬ ((a3 + (1 : Int32)) < 0 ∨ Z.1 ≤ (a3 + (1 : Int32)).toNatClampNeg)) (gd (¬ ((a3 + (2 : Int32)) < 0 ∨ Z.1 ≤ (a3 + (2 : Int32)).toNatClampNeg)) (gd (hK h a1 = 10) (Option.bind (f_Ma_judge a1 (Z.2 (a3 + (1 : Int32)).toNatClampNeg) (Z.2 (a3 + (2 : Int32)).toNatClampNeg) h) (fun q454 => gd (¬ ((a3 + (1 : Int32)) < 0 ∨ Z.1 ≤ (a3 + (1 : Int32)).toNatClampNeg)) (gd (¬ ((a3 + (2 : Int32)) < 0 ∨ Z.1 ≤ (a3 + (2 : Int32)).toNatClampNeg)) (gd (hK q454.2 a2 = 11) (Option.bind (f_Mo_judge a2 (Z.2 (a3 + (1 : Int32)).toNatClampNeg) (Z.2 (a3 + (2 : Int32)).toNatClampNeg) q454.2) (fun q458 => if q454.1 = q458.1 then k253 q458.2 else some ((0 : Int32), q458.2))))))))) else if ((Z.2 a3.toNatClampNeg) &&& (63 : Int32)) = (24 : Int32) then gd (¬ ((a3 + (1 : Int32)) < 0 ∨ Z.1 ≤ (a3 + (1 : Int32)).toNatClampNeg)) (gd (hK h a1 = 10) (Option.bind (f_Ma_drawn a1 (Z.2 (a3 + (1 : Int32)).toNatClampNeg) h) (fun q463 => gd (¬ ((a3 + (1 : Int32)) < 0 ∨ Z.1 ≤ (a3 + (1 : Int32)).toNatClampNeg)) (gd (hK q463.2 a2 = 11) (Option.bind (f_Mo_drawn a2 (Z.2 (a3 + (1 : Int32)).toNatClampNeg) q463.2) (fun q466 => if q463.1 = q466.1 then k253 q466.2 else some ((0 : Int32), q466.2))))))) else if ((Z.2 a3.toNatClampNeg) &&& (63 : Int32)) = (25 : Int32) then gd (¬ ((a3 + (1 : Int32)) < 0 ∨ Z.1 ≤ (a3 + (1 : Int32)).toNatClampNeg)) (gd (hK h a1 = 10) (Option.bind (f_Ma_like a1 (Z.2 (a3 + (1 : Int32)).toNatClampNeg) h) (fun q471 => gd (¬ ((a3 + (1 : Int32)) < 0 ∨ Z.1 ≤ (a3 + (1 : Int32)).toNatClampNeg)) (gd (hK q471.2 a2 = 11) (Option.bind (f_Mo_like a2 (Z.2 (a3 + (1 : Int32)).toNatClampNeg) q471.2) (fun q474 => if q471.1 = q474.1 then k253 q474.2 else some ((0 : Int32), q474.2))))))) else if ((Z.2 a3.toNatClampNeg) &&& (63 : Int32)) = (26 : Int32) then gd (hK h a1 = 10) (Option.bind (f_Ma_image a1 h) (fun q478 => gd (hK q478.2 a2 = 11) (Option.bind (f_Mo_image a2 q478.2) (fun q480 => if q478.1 = q480.1 then k253 q480.2 else some ((0 : Int32), q480.2))))) else if ((Z.2 a3.toNatClampNeg) &&& (63 : Int32)) = (27 : Int32) then gd (hK h a1 = 10) (Option.bind (f_Ma_back a1 h) (fun q484 => gd (hK q484.2 a2 = 11) (Option.bind (f_Mo_back a2 q484.2) (fun q486 => if q484.1 = q486.1 then k253 q486.2 else some ((0 : Int32), q486.2))))) else if ((Z.2 a3.toNatClampNeg) &&& (63 : Int32)) = (28 : Int32) then gd (¬ ((a3 + (1 : Int32)) < 0 ∨ Z.1 ≤ (a3 + (1 : Int32)).toNatClampNeg)) (gd (hK h a1 = 10) (Option.bind (f_Ma_count a1 (Z.2 (a3 + (1 : Int32)).toNatClampNeg) h) (fun q491 => gd (¬ ((a3 + (1 : Int32)) < 0 ∨ Z.1 ≤ (a3 + (1 : Int32)).toNatClampNeg)) (gd (hK q491.2 a2 = 11) (Option.bind (f_Mo_count a2 (Z.2 (a3 + (1 : Int32)).toNatClampNeg) q491.2) (fun q494 => if q491.1 = q494.1 then k253 q494.2 else some ((0 : Int32), q494.2))))))) else if ((Z.2 a3.toNatClampNeg) &&& (63 : Int32)) = (29 : Int32) then gd (¬ ((a3 + (1 : Int32)) < 0 ∨ Z.1 ≤ (a3 + (1 : Int32)).toNatClampNeg)) (gd (¬ ((a3 + (2 : Int32)) < 0 ∨ Z.1 ≤ (a3 + (2 : Int32)).toNatClampNeg)) (gd (¬ ((a3 + (3 : Int32)) < 0 ∨ Z.1 ≤ (a3 + (3 : Int32)).toNatClampNeg)) (gd (hK h a1 = 10) (Option.bind (f_Ma_sheet a1 (Z.2 (a3 + (1 : Int32)).toNatClampNeg) (Z.2 (a3 + (2 : Int32)).toNatClampNeg) (Z.2 (a3 + (3 : Int32)).toNatClampNeg) h) (fun q501 => gd (¬ ((a3 + (1 : Int32)) < 0 ∨ Z.1 ≤ (a3 + (1 : Int32)).toNatClampNeg)) (gd (¬ ((a3 + (2 : Int32)) < 0 ∨ Z.1 ≤ (a3 + (2 : Int32)).toNatClampNeg)) (gd (¬ ((a3 + (3 : Int32)) < 0 ∨ Z.1 ≤ (a3 + (3 : Int32)).toNatClampNeg)) (gd (hK q501.2 a2 = 11) (Option.bind (f_Mo_sheet a2 (Z.2 (a3 + (1 : Int32)).toNatClampNeg) (Z.2 (a3 + (2 : Int32)).toNatClampNeg) (Z.2 (a3 + (3 : Int32)).toNatClampNeg) q501.2) (fun q506 => if q501.1 = q506.1 then k253 q506.2 else some ((0 : Int32), q506.2))))))))))) else if ((Z.2 a3.toNatClampNeg) &&& (63 : Int32)) = (30 : Int32) then gd (¬ ((a3 + (1 : Int32)) < 0 ∨ Z.1 ≤ (a3 + (1 : Int32)).toNatClampNeg)) (gd (¬ ((a3 + (2 : Int32)) < 0 ∨ Z.1 ≤ (a3 + (2 : Int32)).toNatClampNeg)) (gd (¬ ((a3 + (3 : Int32)) < 0 ∨ Z.1 ≤ (a3 + (3 : Int32)).toNatClampNeg)) (gd (hK h a1 = 10) (Option.bind (f_Ma_cell a1 (Z.2 (a3 + (1 : Int32)).toNatClampNeg) (Z.2 (a3 + (2 : Int32)).toNatClampNeg) (Z.2 (a3 + (3 : Int32)).toNatClampNeg) h) (fun q513 => gd (¬ ((a3 + (1 : Int32)) < 0 ∨ Z.1 ≤ (a3 + (1 : Int32)).toNatClampNeg)) (gd (¬ ((a3 + (2 : Int32)) < 0 ∨ Z.1 ≤ (a3 + (2 : Int32)).toNatClampNeg)) (gd (¬ ((a3 + (3 : Int32)) < 0 ∨ Z.1 ≤ (a3 + (3 : Int32)).toNatClampNeg)) (gd (hK q513.2 a2 = 11) (Option.bind (f_Mo_cell a2 (Z.2 (a3 + (1 : Int32)).toNatClampNeg) (Z.2 (a3 + (2 : Int32)).toNatClampNeg) (Z.2 (a3 + (3 : Int32)).toNatClampNeg) q513.2) (fun q518 => if q513.1 = q518.1 then k253 q518.2 else some ((0 : Int32), q518.2))))))))))) else if ((Z.2 a3.toNatClampNeg) &&& (63 : Int32)) = (31 : Int32) then gd (¬ ((a3 + (1 : Int32)) < 0 ∨ Z.1 ≤ (a3 + (1 : Int32)).toNatClampNeg)) (gd (¬ ((a3 + (2 : Int32)) < 0 ∨ Z.1 ≤ (a3 + (2 : Int32)).toNatClampNeg)) (gd (¬ ((a3 + (3 : Int32)) < 0 ∨ Z.1 ≤ (a3 + (3 : Int32)).toNatClampNeg)) (gd (¬ ((a3 + (4 : Int32)) < 0 ∨ Z.1 ≤ (a3 + (4 : Int32)).toNatClampNeg)) (gd (¬ ((a3 + (5 : Int32)) < 0 ∨ Z.1 ≤ (a3 + (5 : Int32)).toNatClampNeg)) (gd (hK h a1 = 10) (Option.bind (f_Ma_copy a1 (Z.2 (a3 + (1 : Int32)).toNatClampNeg) (Z.2 (a3 + (2 : Int32)).toNatClampNeg) (Z.2 (a3 + (3 : Int32)).toNatClampNeg) (Z.2 (a3 + (4 : Int32)).toNatClampNeg) (Z.2 (a3 + (5 : Int32)).toNatClampNeg) h) (fun q527 => gd (¬ ((a3 + (1 : Int32)) < 0 ∨ Z.1 ≤ (a3 + (1 : Int32)).toNatClampNeg)) (gd (¬ ((a3 + (2 : Int32)) < 0 ∨ Z.1 ≤ (a3 + (2 : Int32)).toNatClampNeg)) (gd (¬ ((a3 + (3 : Int32)) < 0 ∨ Z.1 ≤ (a3 + (3 : Int32)).toNatClampNeg)) (gd (¬ ((a3 + (4 : Int32)) < 0 ∨ Z.1 ≤ (a3 + (4 : Int32)).toNatClampNeg)) (gd (¬ ((a3 + (5 : Int32)) < 0 ∨ Z.1 ≤ (a3 + (5 : Int32)).toNatClampNeg)) (gd (hK q527.2 a2 = 11) (Option.bind (f_Mo_copy a2 (Z.2 (a3 + (1 : Int32)).toNatClampNeg) (Z.2 (a3 + (2 : Int32)).toNatClampNeg) (Z.2 (a3 + (3 : Int32)).toNatClampNeg) (Z.2 (a3 + (4 : Int32)).toNatClampNeg) (Z.2 (a3 + (5 : Int32)).toNatClampNeg) q527.2) (fun q534 => if q527.1 = q534.1 then k253 q534.2 else some ((0 : Int32), q534.2))))))))))))))) else if ((Z.2 a3.toNatClampNeg) &&& (63 : Int32)) = (32 : Int32) then gd (¬ ((a3 + (1 : Int32)) < 0 ∨ Z.1 ≤ (a3 + (1 : Int32)).toNatClampNeg)) (gd (¬ ((a3 + (2 : Int32)) < 0 ∨ Z.1 ≤ (a3 + (2 : Int32)).toNatClampNeg)) (gd (¬ ((a3 + (3 : Int32)) < 0 ∨ Z.1 ≤ (a3 + (3 : Int32)).toNatClampNeg)) (gd (¬ ((a3 + (4 : Int32)) < 0 ∨ Z.1 ≤ (a3 + (4 : Int32)).toNatClampNeg)) (gd (hK h a1 = 10) (Option.bind (f_Ma_pairs a1 (Z.2 (a3 + (1 : Int32)).toNatClampNeg) (Z.2 (a3 + (2 : Int32)).toNatClampNeg) (Z.2 (a3 + (3 : Int32)).toNatClampNeg) (Z.2 (a3 + (4 : Int32)).toNatClampNeg) h) (fun q542 => gd (¬ ((a3 + (1 : Int32)) < 0 ∨ Z.1 ≤ (a3 + (1 : Int32)).toNatClampNeg)) (gd (¬ ((a3 + (2 : Int32)) < 0 ∨ Z.1 ≤ (a3 + (2 : Int32)).toNatClampNeg)) (gd (¬ ((a3 + (3 : Int32)) < 0 ∨ Z.1 ≤ (a3 + (3 : Int32)).toNatClampNeg)) (gd (¬ ((a3 + (4 : Int32)) < 0 ∨ Z.1 ≤ (a3 + (4 : Int32)).toNatClampNeg)) (gd (hK q542.2 a2 = 11) (Option.bind (f_Mo_pairs a2 (Z.2 (a3 + (1 : Int32)).toNatClampNeg) (Z.2 (a3 + (2 : Int32)).toNatClampNeg) (Z.2 (a3 + (3 : Int32)).toNatClampNeg) (Z.2 (a3 + (4 : Int32)).toNatClampNeg) q542.2) (fun q548 => if q542.1 = q548.1 then k253 q548.2 else some ((0 : Int32), q548.2))))))))))))) else if ((Z.2 a3.toNatClampNeg) &&& (63 : Int32)) = (33 : Int32) then gd (¬ ((a3 + (1 : Int32)) < 0 ∨ Z.1 ≤ (a3 + (1 : Int32)).toNatClampNeg)) (gd (¬ ((a3 + (2 : Int32)) < 0 ∨ Z.1 ≤ (a3 + (2 : Int32)).toNatClampNeg)) (gd (hK h a1 = 10) (Option.bind (f_Ma_taken a1 (Z.2 (a3 + (1 : Int32)).toNatClampNeg) (Z.2 (a3 + (2 : Int32)).toNatClampNeg) h) (fun q554 => gd (¬ ((a3 + (1 : Int32)) < 0 ∨ Z.1 ≤ (a3 + (1 : Int32)).toNatClampNeg)) (gd (¬ ((a3 + (2 : Int32)) < 0 ∨ Z.1 ≤ (a3 + (2 : Int32)).toNatClampNeg)) (gd (hK q554.2 a2 = 11) (Option.bind (f_Mo_taken a2 (Z.2 (a3 + (1 : Int32)).toNatClampNeg) (Z.2 (a3 + (2 : Int32)).toNatClampNeg) q554.2) (fun q558 => if q554.1 = q558.1 then k253 q558.2 else some ((0 : Int32), q558.2))))))))) else k253 h))
def f_La_law (Z : xZ) (h : xH) : Option (Int32 × xH) := hp (hNw h 10 0) (fun h244 => Option.bind (f_Ma_init (hN h) h244) (fun q246 => hp (hNw q246.2 11 0) (fun h247 => Option.bind (f_Mo_init (hN q246.2) h247) (fun q249 => f_La_law_L18 Z (hN h) (hN q246.2) fu (0 : Int32) q249.2 (fun v562 h563 => some ((1 : Int32), h563))))))
theorem t_La_law_L18 {l : Launch} {Z : xZ} {d : Nat} {Ph : Option xV → xH → Prop} {a1 : Nat} {a2 : Nat}  (hd : 387 ≤ d) : ∀ (n : Nat) {mc ms : Nat} (hmc : 3 * n ≤ mc) (hms : 402 * n ≤ ms) (a3 : Int32) (h : xH) (K : Int32 → xH → Option (Int32 × xH)), OK (f_La_law_L18 Z a1 a2 n a3 h K) (fun q => Ph (some (xI q.1)) q.2) → (∀ {mc ms : Nat} (a3 : Int32) (h : xH), OK (K a3 h) (fun q => Ph (some (xI q.1)) q.2) → Sx l Z d mc ms M_La_law 1153 [some (xS 14), some (xR a1), some (xR a2), some (xI a3)] [] h Ph) → Sx l Z d mc ms M_La_law 18 [some (xS 14), some (xR a1), some (xR a2), some (xI a3)] [] h Ph := by
  intro n
  induction n with
  | zero => intro mc ms hmc hms a3 h K hk hE; exact hk.no
  | succ n ih =>
    intro mc ms hmc hms a3 h K hk hE
    rw [f_La_law_L18] at hk
    refine sx_iload_n dc_La_law_18 rfl ?_
    refine sx_aload_n dc_La_law_19 rfl ?_
    refine sx_slen dc_La_law_20 ?_
    refine sx_bipush (v := (6 : Int32)) dc_La_law_21 (by decide) ?_
    refine sx_isub dc_La_law_23 ?_
    refine sx_icmp_gt (tgt := 1153) dc_La_law_24 (by decide) (fun c250 => ?_) (fun c250 => ?_)
    · replace hk := hk.t c250
      exact hE a3 h hk
    · replace hk := hk.f c250
      refine sx_aload_n dc_La_law_27 rfl ?_
      refine sx_iload_n dc_La_law_28 rfl ?_
      obtain ⟨g251, hk⟩ := hk.g
      refine sx_sld g251 dc_La_law_29 ?_
      refine sx_bipush (v := (63 : Int32)) dc_La_law_30 (by decide) ?_
      refine sx_iand dc_La_law_32 ?_
      refine hk.j (X := fun x252 => ∀ (mc ms : Nat), 3 * n + 0 ≤ mc → 402 * n + 0 ≤ ms → Sx l Z d mc ms M_La_law 1147 [some (xS 14), some (xR a1), some (xR a2), some (xI a3)] [] x252 Ph) (fun x252 hk mc ms hmc hms => ?_) (fun k253 jk253 hk => ?_)
      · refine sx_iinc (v := (6 : Int32)) dc_La_law_1147 rfl (by decide) (by decide) (sx_eq (lc2 := [some (xS 14), some (xR a1), some (xR a2), some (xI (a3 + (6 : Int32)))]) rfl rfl ?_)
        refine sx_goto (tgt := 18) dc_La_law_1150 (by decide) ?_
        exact ih (by omega) (by omega) (a3 + (6 : Int32)) x252 _ hk hE
      · by_cases c261 : ((Z.2 a3.toNatClampNeg) &&& (63 : Int32)) = (0 : Int32)
        · replace hk := hk.t c261
          refine sx_tabIn (off := 151) (tgt := 184) dc_La_law_33 (by rw [c261]; decide) (by rw [c261]; decide) (by rw [c261]; rfl) (by decide) ?_
          refine sx_aload_n dc_La_law_184 rfl ?_
          refine sx_aload_n dc_La_law_185 rfl ?_
          refine sx_iload_n dc_La_law_186 rfl ?_
          refine sx_iconst (v := (1 : Int32)) dc_La_law_187 (by decide) ?_
          refine sx_iadd dc_La_law_188 ?_
          obtain ⟨g254, hk⟩ := hk.g
          refine sx_sld g254 dc_La_law_189 ?_
          obtain ⟨g256, hk⟩ := hk.g
          obtain ⟨q255, eq255, hk⟩ := hk.bind
          refine sx_callV (d2 := d - 1) (mc2 := 0) (ms2 := 0) (as := [xI (Z.2 (a3 + (1 : Int32)).toNatClampNeg)]) mk_Ma_sit rfl (x_rk (ci := 10) g256 rfl rfl) wM_La_13 mi_Ma_sit me_Ma_sit rfl (Nat.le_of_ble_eq_true rfl) (Nat.le_of_ble_eq_true rfl) dc_La_law_190 (by omega) (Nat.zero_le _) (Nat.zero_le _) ?_
          refine t_Ma_sit (by omega) ⟨q255, eq255, ?_⟩
          refine sx_eq0 (lc2 := [some (xS 14), some (xR a1), some (xR a2), some (xI a3)]) (st2 := [xI q255.1]) rfl rfl ?_
          refine sx_aload_n dc_La_law_193 rfl ?_
          refine sx_aload_n dc_La_law_194 rfl ?_
          refine sx_iload_n dc_La_law_195 rfl ?_
          refine sx_iconst (v := (1 : Int32)) dc_La_law_196 (by decide) ?_
          refine sx_iadd dc_La_law_197 ?_
          obtain ⟨g257, hk⟩ := hk.g
          refine sx_sld g257 dc_La_law_198 ?_
          obtain ⟨g259, hk⟩ := hk.g
          obtain ⟨q258, eq258, hk⟩ := hk.bind
          refine sx_callV (d2 := d - 1) (mc2 := 0) (ms2 := 0) (as := [xI (Z.2 (a3 + (1 : Int32)).toNatClampNeg)]) mk_Mo_sit rfl (x_rk (ci := 11) g259 rfl rfl) wM_La_17 mi_Mo_sit me_Mo_sit rfl (Nat.le_of_ble_eq_true rfl) (Nat.le_of_ble_eq_true rfl) dc_La_law_199 (by omega) (Nat.zero_le _) (Nat.zero_le _) ?_
          refine t_Mo_sit (by omega) ⟨q258, eq258, ?_⟩
          refine sx_eq0 (lc2 := [some (xS 14), some (xR a1), some (xR a2), some (xI a3)]) (st2 := [xI q258.1, xI q255.1]) rfl rfl ?_
          refine sx_icmp_eq (tgt := 1147) dc_La_law_202 (by decide) (fun c260 => ?_) (fun c260 => ?_)
          · replace hk := hk.t c260
            exact jk253 q258.2 hk _ _ (by omega) (by omega)
          · replace hk := hk.f c260
            refine sx_iconst (v := (0 : Int32)) dc_La_law_205 (by decide) ?_
            exact sx_retT (v := (0 : Int32)) dc_La_law_206 (Or.inl ⟨rfl, rfl⟩) (by decide) hk.val
        · replace hk := hk.f c261
          by_cases c273 : ((Z.2 a3.toNatClampNeg) &&& (63 : Int32)) = (1 : Int32)
          · replace hk := hk.t c273
            refine sx_tabIn (off := 174) (tgt := 207) dc_La_law_33 (by rw [c273]; decide) (by rw [c273]; decide) (by rw [c273]; rfl) (by decide) ?_
            refine sx_aload_n dc_La_law_207 rfl ?_
            refine sx_aload_n dc_La_law_208 rfl ?_
            refine sx_iload_n dc_La_law_209 rfl ?_
            refine sx_iconst (v := (1 : Int32)) dc_La_law_210 (by decide) ?_
            refine sx_iadd dc_La_law_211 ?_
            obtain ⟨g262, hk⟩ := hk.g
            refine sx_sld g262 dc_La_law_212 ?_
            refine sx_aload_n dc_La_law_213 rfl ?_
            refine sx_iload_n dc_La_law_214 rfl ?_
            refine sx_iconst (v := (2 : Int32)) dc_La_law_215 (by decide) ?_
            refine sx_iadd dc_La_law_216 ?_
            obtain ⟨g263, hk⟩ := hk.g
            refine sx_sld g263 dc_La_law_217 ?_
            refine sx_aload_n dc_La_law_218 rfl ?_
            refine sx_iload_n dc_La_law_219 rfl ?_
            refine sx_iconst (v := (3 : Int32)) dc_La_law_220 (by decide) ?_
            refine sx_iadd dc_La_law_221 ?_
            obtain ⟨g264, hk⟩ := hk.g
            refine sx_sld g264 dc_La_law_222 ?_
            obtain ⟨g266, hk⟩ := hk.g
            obtain ⟨q265, eq265, hk⟩ := hk.bind
            refine sx_callV (d2 := d - 1) (mc2 := 0) (ms2 := 0) (as := [xI (Z.2 (a3 + (1 : Int32)).toNatClampNeg), xI (Z.2 (a3 + (2 : Int32)).toNatClampNeg), xI (Z.2 (a3 + (3 : Int32)).toNatClampNeg)]) mk_Ma_meet rfl (x_rk (ci := 10) g266 rfl rfl) wM_La_18 mi_Ma_meet me_Ma_meet rfl (Nat.le_of_ble_eq_true rfl) (Nat.le_of_ble_eq_true rfl) dc_La_law_223 (by omega) (Nat.zero_le _) (Nat.zero_le _) ?_
            refine t_Ma_meet (by omega) ⟨q265, eq265, ?_⟩
            refine sx_eq0 (lc2 := [some (xS 14), some (xR a1), some (xR a2), some (xI a3)]) (st2 := [xI q265.1]) rfl rfl ?_
            refine sx_aload_n dc_La_law_226 rfl ?_
            refine sx_aload_n dc_La_law_227 rfl ?_
            refine sx_iload_n dc_La_law_228 rfl ?_
            refine sx_iconst (v := (1 : Int32)) dc_La_law_229 (by decide) ?_
            refine sx_iadd dc_La_law_230 ?_
            obtain ⟨g267, hk⟩ := hk.g
            refine sx_sld g267 dc_La_law_231 ?_
            refine sx_aload_n dc_La_law_232 rfl ?_
            refine sx_iload_n dc_La_law_233 rfl ?_
            refine sx_iconst (v := (2 : Int32)) dc_La_law_234 (by decide) ?_
            refine sx_iadd dc_La_law_235 ?_
            obtain ⟨g268, hk⟩ := hk.g
            refine sx_sld g268 dc_La_law_236 ?_
            refine sx_aload_n dc_La_law_237 rfl ?_
            refine sx_iload_n dc_La_law_238 rfl ?_
            refine sx_iconst (v := (3 : Int32)) dc_La_law_239 (by decide) ?_
            refine sx_iadd dc_La_law_240 ?_
            obtain ⟨g269, hk⟩ := hk.g
            refine sx_sld g269 dc_La_law_241 ?_
            obtain ⟨g271, hk⟩ := hk.g
            obtain ⟨q270, eq270, hk⟩ := hk.bind
            refine sx_callV (d2 := d - 1) (mc2 := 0) (ms2 := 0) (as := [xI (Z.2 (a3 + (1 : Int32)).toNatClampNeg), xI (Z.2 (a3 + (2 : Int32)).toNatClampNeg), xI (Z.2 (a3 + (3 : Int32)).toNatClampNeg)]) mk_Mo_meet rfl (x_rk (ci := 11) g271 rfl rfl) wM_La_22 mi_Mo_meet me_Mo_meet rfl (Nat.le_of_ble_eq_true rfl) (Nat.le_of_ble_eq_true rfl) dc_La_law_242 (by omega) (Nat.zero_le _) (Nat.zero_le _) ?_
            refine t_Mo_meet (by omega) ⟨q270, eq270, ?_⟩
            refine sx_eq0 (lc2 := [some (xS 14), some (xR a1), some (xR a2), some (xI a3)]) (st2 := [xI q270.1, xI q265.1]) rfl rfl ?_
            refine sx_icmp_eq (tgt := 1147) dc_La_law_245 (by decide) (fun c272 => ?_) (fun c272 => ?_)
            · replace hk := hk.t c272
              exact jk253 q270.2 hk _ _ (by omega) (by omega)
            · replace hk := hk.f c272
              refine sx_iconst (v := (0 : Int32)) dc_La_law_248 (by decide) ?_
              exact sx_retT (v := (0 : Int32)) dc_La_law_249 (Or.inl ⟨rfl, rfl⟩) (by decide) hk.val
          · replace hk := hk.f c273
            by_cases c283 : ((Z.2 a3.toNatClampNeg) &&& (63 : Int32)) = (2 : Int32)
            · replace hk := hk.t c283
              refine sx_tabIn (off := 217) (tgt := 250) dc_La_law_33 (by rw [c283]; decide) (by rw [c283]; decide) (by rw [c283]; rfl) (by decide) ?_
              refine sx_aload_n dc_La_law_250 rfl ?_
              refine sx_aload_n dc_La_law_251 rfl ?_
              refine sx_iload_n dc_La_law_252 rfl ?_
              refine sx_iconst (v := (1 : Int32)) dc_La_law_253 (by decide) ?_
              refine sx_iadd dc_La_law_254 ?_
              obtain ⟨g274, hk⟩ := hk.g
              refine sx_sld g274 dc_La_law_255 ?_
              refine sx_aload_n dc_La_law_256 rfl ?_
              refine sx_iload_n dc_La_law_257 rfl ?_
              refine sx_iconst (v := (2 : Int32)) dc_La_law_258 (by decide) ?_
              refine sx_iadd dc_La_law_259 ?_
              obtain ⟨g275, hk⟩ := hk.g
              refine sx_sld g275 dc_La_law_260 ?_
              obtain ⟨g277, hk⟩ := hk.g
              obtain ⟨q276, eq276, hk⟩ := hk.bind
              refine sx_callV (d2 := d - 1) (mc2 := 0) (ms2 := 0) (as := [xI (Z.2 (a3 + (1 : Int32)).toNatClampNeg), xI (Z.2 (a3 + (2 : Int32)).toNatClampNeg)]) mk_Ma_told rfl (x_rk (ci := 10) g277 rfl rfl) wM_La_23 mi_Ma_told me_Ma_told rfl (Nat.le_of_ble_eq_true rfl) (Nat.le_of_ble_eq_true rfl) dc_La_law_261 (by omega) (Nat.zero_le _) (Nat.zero_le _) ?_
              refine t_Ma_told (by omega) ⟨q276, eq276, ?_⟩
              refine sx_eq0 (lc2 := [some (xS 14), some (xR a1), some (xR a2), some (xI a3)]) (st2 := [xI q276.1]) rfl rfl ?_
              refine sx_aload_n dc_La_law_264 rfl ?_
              refine sx_aload_n dc_La_law_265 rfl ?_
              refine sx_iload_n dc_La_law_266 rfl ?_
              refine sx_iconst (v := (1 : Int32)) dc_La_law_267 (by decide) ?_
              refine sx_iadd dc_La_law_268 ?_
              obtain ⟨g278, hk⟩ := hk.g
              refine sx_sld g278 dc_La_law_269 ?_
              refine sx_aload_n dc_La_law_270 rfl ?_
              refine sx_iload_n dc_La_law_271 rfl ?_
              refine sx_iconst (v := (2 : Int32)) dc_La_law_272 (by decide) ?_
              refine sx_iadd dc_La_law_273 ?_
              obtain ⟨g279, hk⟩ := hk.g
              refine sx_sld g279 dc_La_law_274 ?_
              obtain ⟨g281, hk⟩ := hk.g
              obtain ⟨q280, eq280, hk⟩ := hk.bind
              refine sx_callV (d2 := d - 1) (mc2 := 0) (ms2 := 0) (as := [xI (Z.2 (a3 + (1 : Int32)).toNatClampNeg), xI (Z.2 (a3 + (2 : Int32)).toNatClampNeg)]) mk_Mo_told rfl (x_rk (ci := 11) g281 rfl rfl) wM_La_27 mi_Mo_told me_Mo_told rfl (Nat.le_of_ble_eq_true rfl) (Nat.le_of_ble_eq_true rfl) dc_La_law_275 (by omega) (Nat.zero_le _) (Nat.zero_le _) ?_
              refine t_Mo_told (by omega) ⟨q280, eq280, ?_⟩
              refine sx_eq0 (lc2 := [some (xS 14), some (xR a1), some (xR a2), some (xI a3)]) (st2 := [xI q280.1, xI q276.1]) rfl rfl ?_
              refine sx_icmp_eq (tgt := 1147) dc_La_law_278 (by decide) (fun c282 => ?_) (fun c282 => ?_)
              · replace hk := hk.t c282
                exact jk253 q280.2 hk _ _ (by omega) (by omega)
              · replace hk := hk.f c282
                refine sx_iconst (v := (0 : Int32)) dc_La_law_281 (by decide) ?_
                exact sx_retT (v := (0 : Int32)) dc_La_law_282 (Or.inl ⟨rfl, rfl⟩) (by decide) hk.val
            · replace hk := hk.f c283
              by_cases c293 : ((Z.2 a3.toNatClampNeg) &&& (63 : Int32)) = (3 : Int32)
              · replace hk := hk.t c293
                refine sx_tabIn (off := 250) (tgt := 283) dc_La_law_33 (by rw [c293]; decide) (by rw [c293]; decide) (by rw [c293]; rfl) (by decide) ?_
                refine sx_aload_n dc_La_law_283 rfl ?_
                refine sx_aload_n dc_La_law_284 rfl ?_
                refine sx_iload_n dc_La_law_285 rfl ?_
                refine sx_iconst (v := (1 : Int32)) dc_La_law_286 (by decide) ?_
                refine sx_iadd dc_La_law_287 ?_
                obtain ⟨g284, hk⟩ := hk.g
                refine sx_sld g284 dc_La_law_288 ?_
                refine sx_aload_n dc_La_law_289 rfl ?_
                refine sx_iload_n dc_La_law_290 rfl ?_
                refine sx_iconst (v := (2 : Int32)) dc_La_law_291 (by decide) ?_
                refine sx_iadd dc_La_law_292 ?_
                obtain ⟨g285, hk⟩ := hk.g
                refine sx_sld g285 dc_La_law_293 ?_
                obtain ⟨g287, hk⟩ := hk.g
                obtain ⟨q286, eq286, hk⟩ := hk.bind
                refine sx_callV (d2 := d - 1) (mc2 := 1) (ms2 := 2) (as := [xI (Z.2 (a3 + (1 : Int32)).toNatClampNeg), xI (Z.2 (a3 + (2 : Int32)).toNatClampNeg)]) mk_Ma_town rfl (x_rk (ci := 10) g287 rfl rfl) wM_La_28 mi_Ma_town me_Ma_town rfl (Nat.le_of_ble_eq_true rfl) (Nat.le_of_ble_eq_true rfl) dc_La_law_294 (by omega) (by omega) (by omega) ?_
                refine t_Ma_town (by omega) (by omega) (by omega) ⟨q286, eq286, ?_⟩
                refine sx_eq (lc2 := [some (xS 14), some (xR a1), some (xR a2), some (xI a3)]) (st2 := [xI q286.1]) rfl rfl ?_
                refine sx_aload_n dc_La_law_297 rfl ?_
                refine sx_aload_n dc_La_law_298 rfl ?_
                refine sx_iload_n dc_La_law_299 rfl ?_
                refine sx_iconst (v := (1 : Int32)) dc_La_law_300 (by decide) ?_
                refine sx_iadd dc_La_law_301 ?_
                obtain ⟨g288, hk⟩ := hk.g
                refine sx_sld g288 dc_La_law_302 ?_
                refine sx_aload_n dc_La_law_303 rfl ?_
                refine sx_iload_n dc_La_law_304 rfl ?_
                refine sx_iconst (v := (2 : Int32)) dc_La_law_305 (by decide) ?_
                refine sx_iadd dc_La_law_306 ?_
                obtain ⟨g289, hk⟩ := hk.g
                refine sx_sld g289 dc_La_law_307 ?_
                obtain ⟨g291, hk⟩ := hk.g
                obtain ⟨q290, eq290, hk⟩ := hk.bind
                refine sx_callV (d2 := d - 1) (mc2 := 0) (ms2 := 0) (as := [xI (Z.2 (a3 + (1 : Int32)).toNatClampNeg), xI (Z.2 (a3 + (2 : Int32)).toNatClampNeg)]) mk_Mo_town rfl (x_rk (ci := 11) g291 rfl rfl) wM_La_31 mi_Mo_town me_Mo_town rfl (Nat.le_of_ble_eq_true rfl) (Nat.le_of_ble_eq_true rfl) dc_La_law_308 (by omega) (Nat.zero_le _) (Nat.zero_le _) ?_
                refine t_Mo_town (by omega) ⟨q290, eq290, ?_⟩
                refine sx_eq0 (lc2 := [some (xS 14), some (xR a1), some (xR a2), some (xI a3)]) (st2 := [xI q290.1, xI q286.1]) rfl rfl ?_
                refine sx_icmp_eq (tgt := 1147) dc_La_law_311 (by decide) (fun c292 => ?_) (fun c292 => ?_)
                · replace hk := hk.t c292
                  exact jk253 q290.2 hk _ _ (by omega) (by omega)
                · replace hk := hk.f c292
                  refine sx_iconst (v := (0 : Int32)) dc_La_law_314 (by decide) ?_
                  exact sx_retT (v := (0 : Int32)) dc_La_law_315 (Or.inl ⟨rfl, rfl⟩) (by decide) hk.val
              · replace hk := hk.f c293
                by_cases c301 : ((Z.2 a3.toNatClampNeg) &&& (63 : Int32)) = (4 : Int32)
                · replace hk := hk.t c301
                  refine sx_tabIn (off := 283) (tgt := 316) dc_La_law_33 (by rw [c301]; decide) (by rw [c301]; decide) (by rw [c301]; rfl) (by decide) ?_
                  refine sx_aload_n dc_La_law_316 rfl ?_
                  refine sx_aload_n dc_La_law_317 rfl ?_
                  refine sx_iload_n dc_La_law_318 rfl ?_
                  refine sx_iconst (v := (1 : Int32)) dc_La_law_319 (by decide) ?_
                  refine sx_iadd dc_La_law_320 ?_
                  obtain ⟨g294, hk⟩ := hk.g
                  refine sx_sld g294 dc_La_law_321 ?_
                  obtain ⟨g296, hk⟩ := hk.g
                  obtain ⟨q295, eq295, hk⟩ := hk.bind
                  refine sx_callV (d2 := d - 1) (mc2 := 0) (ms2 := 0) (as := [xI (Z.2 (a3 + (1 : Int32)).toNatClampNeg)]) mk_Ma_asIn rfl (x_rk (ci := 10) g296 rfl rfl) wM_La_32 mi_Ma_asIn me_Ma_asIn rfl (Nat.le_of_ble_eq_true rfl) (Nat.le_of_ble_eq_true rfl) dc_La_law_322 (by omega) (Nat.zero_le _) (Nat.zero_le _) ?_
                  refine t_Ma_asIn (by omega) ⟨q295, eq295, ?_⟩
                  refine sx_eq0 (lc2 := [some (xS 14), some (xR a1), some (xR a2), some (xI a3)]) (st2 := [xI q295.1]) rfl rfl ?_
                  refine sx_aload_n dc_La_law_325 rfl ?_
                  refine sx_aload_n dc_La_law_326 rfl ?_
                  refine sx_iload_n dc_La_law_327 rfl ?_
                  refine sx_iconst (v := (1 : Int32)) dc_La_law_328 (by decide) ?_
                  refine sx_iadd dc_La_law_329 ?_
                  obtain ⟨g297, hk⟩ := hk.g
                  refine sx_sld g297 dc_La_law_330 ?_
                  obtain ⟨g299, hk⟩ := hk.g
                  obtain ⟨q298, eq298, hk⟩ := hk.bind
                  refine sx_callV (d2 := d - 1) (mc2 := 0) (ms2 := 0) (as := [xI (Z.2 (a3 + (1 : Int32)).toNatClampNeg)]) mk_Mo_asIn rfl (x_rk (ci := 11) g299 rfl rfl) wM_La_35 mi_Mo_asIn me_Mo_asIn rfl (Nat.le_of_ble_eq_true rfl) (Nat.le_of_ble_eq_true rfl) dc_La_law_331 (by omega) (Nat.zero_le _) (Nat.zero_le _) ?_
                  refine t_Mo_asIn (by omega) ⟨q298, eq298, ?_⟩
                  refine sx_eq0 (lc2 := [some (xS 14), some (xR a1), some (xR a2), some (xI a3)]) (st2 := [xI q298.1, xI q295.1]) rfl rfl ?_
                  refine sx_icmp_eq (tgt := 1147) dc_La_law_334 (by decide) (fun c300 => ?_) (fun c300 => ?_)
                  · replace hk := hk.t c300
                    exact jk253 q298.2 hk _ _ (by omega) (by omega)
                  · replace hk := hk.f c300
                    refine sx_iconst (v := (0 : Int32)) dc_La_law_337 (by decide) ?_
                    exact sx_retT (v := (0 : Int32)) dc_La_law_338 (Or.inl ⟨rfl, rfl⟩) (by decide) hk.val
                · replace hk := hk.f c301
                  by_cases c315 : ((Z.2 a3.toNatClampNeg) &&& (63 : Int32)) = (5 : Int32)
                  · replace hk := hk.t c315
                    refine sx_tabIn (off := 306) (tgt := 339) dc_La_law_33 (by rw [c315]; decide) (by rw [c315]; decide) (by rw [c315]; rfl) (by decide) ?_
                    refine sx_aload_n dc_La_law_339 rfl ?_
                    refine sx_aload_n dc_La_law_340 rfl ?_
                    refine sx_iload_n dc_La_law_341 rfl ?_
                    refine sx_iconst (v := (1 : Int32)) dc_La_law_342 (by decide) ?_
                    refine sx_iadd dc_La_law_343 ?_
                    obtain ⟨g302, hk⟩ := hk.g
                    refine sx_sld g302 dc_La_law_344 ?_
                    refine sx_aload_n dc_La_law_345 rfl ?_
                    refine sx_iload_n dc_La_law_346 rfl ?_
                    refine sx_iconst (v := (2 : Int32)) dc_La_law_347 (by decide) ?_
                    refine sx_iadd dc_La_law_348 ?_
                    obtain ⟨g303, hk⟩ := hk.g
                    refine sx_sld g303 dc_La_law_349 ?_
                    refine sx_aload_n dc_La_law_350 rfl ?_
                    refine sx_iload_n dc_La_law_351 rfl ?_
                    refine sx_iconst (v := (3 : Int32)) dc_La_law_352 (by decide) ?_
                    refine sx_iadd dc_La_law_353 ?_
                    obtain ⟨g304, hk⟩ := hk.g
                    refine sx_sld g304 dc_La_law_354 ?_
                    refine sx_aload_n dc_La_law_355 rfl ?_
                    refine sx_iload_n dc_La_law_356 rfl ?_
                    refine sx_iconst (v := (4 : Int32)) dc_La_law_357 (by decide) ?_
                    refine sx_iadd dc_La_law_358 ?_
                    obtain ⟨g305, hk⟩ := hk.g
                    refine sx_sld g305 dc_La_law_359 ?_
                    obtain ⟨g307, hk⟩ := hk.g
                    obtain ⟨q306, eq306, hk⟩ := hk.bind
                    refine sx_callV (d2 := d - 1) (mc2 := 0) (ms2 := 0) (as := [xI (Z.2 (a3 + (1 : Int32)).toNatClampNeg), xI (Z.2 (a3 + (2 : Int32)).toNatClampNeg), xI (Z.2 (a3 + (3 : Int32)).toNatClampNeg), xI (Z.2 (a3 + (4 : Int32)).toNatClampNeg)]) mk_Ma_tells rfl (x_rk (ci := 10) g307 rfl rfl) wM_La_36 mi_Ma_tells me_Ma_tells rfl (Nat.le_of_ble_eq_true rfl) (Nat.le_of_ble_eq_true rfl) dc_La_law_360 (by omega) (Nat.zero_le _) (Nat.zero_le _) ?_
                    refine t_Ma_tells (by omega) ⟨q306, eq306, ?_⟩
                    refine sx_eq0 (lc2 := [some (xS 14), some (xR a1), some (xR a2), some (xI a3)]) (st2 := [xI q306.1]) rfl rfl ?_
                    refine sx_aload_n dc_La_law_363 rfl ?_
                    refine sx_aload_n dc_La_law_364 rfl ?_
                    refine sx_iload_n dc_La_law_365 rfl ?_
                    refine sx_iconst (v := (1 : Int32)) dc_La_law_366 (by decide) ?_
                    refine sx_iadd dc_La_law_367 ?_
                    obtain ⟨g308, hk⟩ := hk.g
                    refine sx_sld g308 dc_La_law_368 ?_
                    refine sx_aload_n dc_La_law_369 rfl ?_
                    refine sx_iload_n dc_La_law_370 rfl ?_
                    refine sx_iconst (v := (2 : Int32)) dc_La_law_371 (by decide) ?_
                    refine sx_iadd dc_La_law_372 ?_
                    obtain ⟨g309, hk⟩ := hk.g
                    refine sx_sld g309 dc_La_law_373 ?_
                    refine sx_aload_n dc_La_law_374 rfl ?_
                    refine sx_iload_n dc_La_law_375 rfl ?_
                    refine sx_iconst (v := (3 : Int32)) dc_La_law_376 (by decide) ?_
                    refine sx_iadd dc_La_law_377 ?_
                    obtain ⟨g310, hk⟩ := hk.g
                    refine sx_sld g310 dc_La_law_378 ?_
                    refine sx_aload_n dc_La_law_379 rfl ?_
                    refine sx_iload_n dc_La_law_380 rfl ?_
                    refine sx_iconst (v := (4 : Int32)) dc_La_law_381 (by decide) ?_
                    refine sx_iadd dc_La_law_382 ?_
                    obtain ⟨g311, hk⟩ := hk.g
                    refine sx_sld g311 dc_La_law_383 ?_
                    obtain ⟨g313, hk⟩ := hk.g
                    obtain ⟨q312, eq312, hk⟩ := hk.bind
                    refine sx_callV (d2 := d - 1) (mc2 := 0) (ms2 := 0) (as := [xI (Z.2 (a3 + (1 : Int32)).toNatClampNeg), xI (Z.2 (a3 + (2 : Int32)).toNatClampNeg), xI (Z.2 (a3 + (3 : Int32)).toNatClampNeg), xI (Z.2 (a3 + (4 : Int32)).toNatClampNeg)]) mk_Mo_tells rfl (x_rk (ci := 11) g313 rfl rfl) wM_La_40 mi_Mo_tells me_Mo_tells rfl (Nat.le_of_ble_eq_true rfl) (Nat.le_of_ble_eq_true rfl) dc_La_law_384 (by omega) (Nat.zero_le _) (Nat.zero_le _) ?_
                    refine t_Mo_tells (by omega) ⟨q312, eq312, ?_⟩
                    refine sx_eq0 (lc2 := [some (xS 14), some (xR a1), some (xR a2), some (xI a3)]) (st2 := [xI q312.1, xI q306.1]) rfl rfl ?_
                    refine sx_icmp_eq (tgt := 1147) dc_La_law_387 (by decide) (fun c314 => ?_) (fun c314 => ?_)
                    · replace hk := hk.t c314
                      exact jk253 q312.2 hk _ _ (by omega) (by omega)
                    · replace hk := hk.f c314
                      refine sx_iconst (v := (0 : Int32)) dc_La_law_390 (by decide) ?_
                      exact sx_retT (v := (0 : Int32)) dc_La_law_391 (Or.inl ⟨rfl, rfl⟩) (by decide) hk.val
                  · replace hk := hk.f c315
                    by_cases c323 : ((Z.2 a3.toNatClampNeg) &&& (63 : Int32)) = (6 : Int32)
                    · replace hk := hk.t c323
                      refine sx_tabIn (off := 359) (tgt := 392) dc_La_law_33 (by rw [c323]; decide) (by rw [c323]; decide) (by rw [c323]; rfl) (by decide) ?_
                      refine sx_aload_n dc_La_law_392 rfl ?_
                      refine sx_aload_n dc_La_law_393 rfl ?_
                      refine sx_iload_n dc_La_law_394 rfl ?_
                      refine sx_iconst (v := (1 : Int32)) dc_La_law_395 (by decide) ?_
                      refine sx_iadd dc_La_law_396 ?_
                      obtain ⟨g316, hk⟩ := hk.g
                      refine sx_sld g316 dc_La_law_397 ?_
                      obtain ⟨g318, hk⟩ := hk.g
                      obtain ⟨q317, eq317, hk⟩ := hk.bind
                      refine sx_callV (d2 := d - 1) (mc2 := 0) (ms2 := 0) (as := [xI (Z.2 (a3 + (1 : Int32)).toNatClampNeg)]) mk_Ma_feed rfl (x_rk (ci := 10) g318 rfl rfl) wM_La_41 mi_Ma_feed me_Ma_feed rfl (Nat.le_of_ble_eq_true rfl) (Nat.le_of_ble_eq_true rfl) dc_La_law_398 (by omega) (Nat.zero_le _) (Nat.zero_le _) ?_
                      refine t_Ma_feed (by omega) ⟨q317, eq317, ?_⟩
                      refine sx_eq0 (lc2 := [some (xS 14), some (xR a1), some (xR a2), some (xI a3)]) (st2 := [xI q317.1]) rfl rfl ?_
                      refine sx_aload_n dc_La_law_401 rfl ?_
                      refine sx_aload_n dc_La_law_402 rfl ?_
                      refine sx_iload_n dc_La_law_403 rfl ?_
                      refine sx_iconst (v := (1 : Int32)) dc_La_law_404 (by decide) ?_
                      refine sx_iadd dc_La_law_405 ?_
                      obtain ⟨g319, hk⟩ := hk.g
                      refine sx_sld g319 dc_La_law_406 ?_
                      obtain ⟨g321, hk⟩ := hk.g
                      obtain ⟨q320, eq320, hk⟩ := hk.bind
                      refine sx_callV (d2 := d - 1) (mc2 := 0) (ms2 := 0) (as := [xI (Z.2 (a3 + (1 : Int32)).toNatClampNeg)]) mk_Mo_feed rfl (x_rk (ci := 11) g321 rfl rfl) wM_La_44 mi_Mo_feed me_Mo_feed rfl (Nat.le_of_ble_eq_true rfl) (Nat.le_of_ble_eq_true rfl) dc_La_law_407 (by omega) (Nat.zero_le _) (Nat.zero_le _) ?_
                      refine t_Mo_feed (by omega) ⟨q320, eq320, ?_⟩
                      refine sx_eq0 (lc2 := [some (xS 14), some (xR a1), some (xR a2), some (xI a3)]) (st2 := [xI q320.1, xI q317.1]) rfl rfl ?_
                      refine sx_icmp_eq (tgt := 1147) dc_La_law_410 (by decide) (fun c322 => ?_) (fun c322 => ?_)
                      · replace hk := hk.t c322
                        exact jk253 q320.2 hk _ _ (by omega) (by omega)
                      · replace hk := hk.f c322
                        refine sx_iconst (v := (0 : Int32)) dc_La_law_413 (by decide) ?_
                        exact sx_retT (v := (0 : Int32)) dc_La_law_414 (Or.inl ⟨rfl, rfl⟩) (by decide) hk.val
                    · replace hk := hk.f c323
                      by_cases c329 : ((Z.2 a3.toNatClampNeg) &&& (63 : Int32)) = (7 : Int32)
                      · replace hk := hk.t c329
                        refine sx_tabIn (off := 382) (tgt := 415) dc_La_law_33 (by rw [c329]; decide) (by rw [c329]; decide) (by rw [c329]; rfl) (by decide) ?_
                        refine sx_aload_n dc_La_law_415 rfl ?_
                        obtain ⟨g325, hk⟩ := hk.g
                        obtain ⟨q324, eq324, hk⟩ := hk.bind
                        refine sx_callV (d2 := d - 1) (mc2 := 3) (ms2 := 402) (as := []) mk_Ma_text rfl (x_rk (ci := 10) g325 rfl rfl) wM_La_45 mi_Ma_text me_Ma_text rfl (Nat.le_of_ble_eq_true rfl) (Nat.le_of_ble_eq_true rfl) dc_La_law_416 (by omega) (by omega) (by omega) ?_
                        refine t_Ma_text (by omega) (by omega) (by omega) ⟨q324, eq324, ?_⟩
                        refine sx_eq (lc2 := [some (xS 14), some (xR a1), some (xR a2), some (xI a3)]) (st2 := [xI q324.1]) rfl rfl ?_
                        refine sx_aload_n dc_La_law_419 rfl ?_
                        obtain ⟨g327, hk⟩ := hk.g
                        obtain ⟨q326, eq326, hk⟩ := hk.bind
                        refine sx_callV (d2 := d - 1) (mc2 := 0) (ms2 := 0) (as := []) mk_Mo_text rfl (x_rk (ci := 11) g327 rfl rfl) wM_La_49 mi_Mo_text me_Mo_text rfl (Nat.le_of_ble_eq_true rfl) (Nat.le_of_ble_eq_true rfl) dc_La_law_420 (by omega) (Nat.zero_le _) (Nat.zero_le _) ?_
                        refine t_Mo_text (by omega) ⟨q326, eq326, ?_⟩
                        refine sx_eq0 (lc2 := [some (xS 14), some (xR a1), some (xR a2), some (xI a3)]) (st2 := [xI q326.1, xI q324.1]) rfl rfl ?_
                        refine sx_icmp_eq (tgt := 1147) dc_La_law_423 (by decide) (fun c328 => ?_) (fun c328 => ?_)
                        · replace hk := hk.t c328
                          exact jk253 q326.2 hk _ _ (by omega) (by omega)
                        · replace hk := hk.f c328
                          refine sx_iconst (v := (0 : Int32)) dc_La_law_426 (by decide) ?_
                          exact sx_retT (v := (0 : Int32)) dc_La_law_427 (Or.inl ⟨rfl, rfl⟩) (by decide) hk.val
                      · replace hk := hk.f c329
                        by_cases c337 : ((Z.2 a3.toNatClampNeg) &&& (63 : Int32)) = (8 : Int32)
                        · replace hk := hk.t c337
                          refine sx_tabIn (off := 395) (tgt := 428) dc_La_law_33 (by rw [c337]; decide) (by rw [c337]; decide) (by rw [c337]; rfl) (by decide) ?_
                          refine sx_aload_n dc_La_law_428 rfl ?_
                          refine sx_aload_n dc_La_law_429 rfl ?_
                          refine sx_iload_n dc_La_law_430 rfl ?_
                          refine sx_iconst (v := (1 : Int32)) dc_La_law_431 (by decide) ?_
                          refine sx_iadd dc_La_law_432 ?_
                          obtain ⟨g330, hk⟩ := hk.g
                          refine sx_sld g330 dc_La_law_433 ?_
                          obtain ⟨g332, hk⟩ := hk.g
                          obtain ⟨q331, eq331, hk⟩ := hk.bind
                          refine sx_callV (d2 := d - 1) (mc2 := 0) (ms2 := 0) (as := [xI (Z.2 (a3 + (1 : Int32)).toNatClampNeg)]) mk_Ma_force rfl (x_rk (ci := 10) g332 rfl rfl) wM_La_50 mi_Ma_force me_Ma_force rfl (Nat.le_of_ble_eq_true rfl) (Nat.le_of_ble_eq_true rfl) dc_La_law_434 (by omega) (Nat.zero_le _) (Nat.zero_le _) ?_
                          refine t_Ma_force (by omega) ⟨q331, eq331, ?_⟩
                          refine sx_eq0 (lc2 := [some (xS 14), some (xR a1), some (xR a2), some (xI a3)]) (st2 := [xI q331.1]) rfl rfl ?_
                          refine sx_aload_n dc_La_law_437 rfl ?_
                          refine sx_aload_n dc_La_law_438 rfl ?_
                          refine sx_iload_n dc_La_law_439 rfl ?_
                          refine sx_iconst (v := (1 : Int32)) dc_La_law_440 (by decide) ?_
                          refine sx_iadd dc_La_law_441 ?_
                          obtain ⟨g333, hk⟩ := hk.g
                          refine sx_sld g333 dc_La_law_442 ?_
                          obtain ⟨g335, hk⟩ := hk.g
                          obtain ⟨q334, eq334, hk⟩ := hk.bind
                          refine sx_callV (d2 := d - 1) (mc2 := 0) (ms2 := 0) (as := [xI (Z.2 (a3 + (1 : Int32)).toNatClampNeg)]) mk_Mo_force rfl (x_rk (ci := 11) g335 rfl rfl) wM_La_53 mi_Mo_force me_Mo_force rfl (Nat.le_of_ble_eq_true rfl) (Nat.le_of_ble_eq_true rfl) dc_La_law_443 (by omega) (Nat.zero_le _) (Nat.zero_le _) ?_
                          refine t_Mo_force (by omega) ⟨q334, eq334, ?_⟩
                          refine sx_eq0 (lc2 := [some (xS 14), some (xR a1), some (xR a2), some (xI a3)]) (st2 := [xI q334.1, xI q331.1]) rfl rfl ?_
                          refine sx_icmp_eq (tgt := 1147) dc_La_law_446 (by decide) (fun c336 => ?_) (fun c336 => ?_)
                          · replace hk := hk.t c336
                            exact jk253 q334.2 hk _ _ (by omega) (by omega)
                          · replace hk := hk.f c336
                            refine sx_iconst (v := (0 : Int32)) dc_La_law_449 (by decide) ?_
                            exact sx_retT (v := (0 : Int32)) dc_La_law_450 (Or.inl ⟨rfl, rfl⟩) (by decide) hk.val
                        · replace hk := hk.f c337
                          by_cases c345 : ((Z.2 a3.toNatClampNeg) &&& (63 : Int32)) = (9 : Int32)
                          · replace hk := hk.t c345
                            refine sx_tabIn (off := 418) (tgt := 451) dc_La_law_33 (by rw [c345]; decide) (by rw [c345]; decide) (by rw [c345]; rfl) (by decide) ?_
                            refine sx_aload_n dc_La_law_451 rfl ?_
                            refine sx_aload_n dc_La_law_452 rfl ?_
                            refine sx_iload_n dc_La_law_453 rfl ?_
                            refine sx_iconst (v := (1 : Int32)) dc_La_law_454 (by decide) ?_
                            refine sx_iadd dc_La_law_455 ?_
                            obtain ⟨g338, hk⟩ := hk.g
                            refine sx_sld g338 dc_La_law_456 ?_
                            obtain ⟨g340, hk⟩ := hk.g
                            obtain ⟨q339, eq339, hk⟩ := hk.bind
                            refine sx_callV (d2 := d - 1) (mc2 := 0) (ms2 := 0) (as := [xI (Z.2 (a3 + (1 : Int32)).toNatClampNeg)]) mk_Ma_threes rfl (x_rk (ci := 10) g340 rfl rfl) wM_La_54 mi_Ma_threes me_Ma_threes rfl (Nat.le_of_ble_eq_true rfl) (Nat.le_of_ble_eq_true rfl) dc_La_law_457 (by omega) (Nat.zero_le _) (Nat.zero_le _) ?_
                            refine t_Ma_threes (by omega) ⟨q339, eq339, ?_⟩
                            refine sx_eq0 (lc2 := [some (xS 14), some (xR a1), some (xR a2), some (xI a3)]) (st2 := [xI q339.1]) rfl rfl ?_
                            refine sx_aload_n dc_La_law_460 rfl ?_
                            refine sx_aload_n dc_La_law_461 rfl ?_
                            refine sx_iload_n dc_La_law_462 rfl ?_
                            refine sx_iconst (v := (1 : Int32)) dc_La_law_463 (by decide) ?_
                            refine sx_iadd dc_La_law_464 ?_
                            obtain ⟨g341, hk⟩ := hk.g
                            refine sx_sld g341 dc_La_law_465 ?_
                            obtain ⟨g343, hk⟩ := hk.g
                            obtain ⟨q342, eq342, hk⟩ := hk.bind
                            refine sx_callV (d2 := d - 1) (mc2 := 0) (ms2 := 0) (as := [xI (Z.2 (a3 + (1 : Int32)).toNatClampNeg)]) mk_Mo_threes rfl (x_rk (ci := 11) g343 rfl rfl) wM_La_57 mi_Mo_threes me_Mo_threes rfl (Nat.le_of_ble_eq_true rfl) (Nat.le_of_ble_eq_true rfl) dc_La_law_466 (by omega) (Nat.zero_le _) (Nat.zero_le _) ?_
                            refine t_Mo_threes (by omega) ⟨q342, eq342, ?_⟩
                            refine sx_eq0 (lc2 := [some (xS 14), some (xR a1), some (xR a2), some (xI a3)]) (st2 := [xI q342.1, xI q339.1]) rfl rfl ?_
                            refine sx_icmp_eq (tgt := 1147) dc_La_law_469 (by decide) (fun c344 => ?_) (fun c344 => ?_)
                            · replace hk := hk.t c344
                              exact jk253 q342.2 hk _ _ (by omega) (by omega)
                            · replace hk := hk.f c344
                              refine sx_iconst (v := (0 : Int32)) dc_La_law_472 (by decide) ?_
                              exact sx_retT (v := (0 : Int32)) dc_La_law_473 (Or.inl ⟨rfl, rfl⟩) (by decide) hk.val
                          · replace hk := hk.f c345
                            by_cases c355 : ((Z.2 a3.toNatClampNeg) &&& (63 : Int32)) = (10 : Int32)
                            · replace hk := hk.t c355
                              refine sx_tabIn (off := 441) (tgt := 474) dc_La_law_33 (by rw [c355]; decide) (by rw [c355]; decide) (by rw [c355]; rfl) (by decide) ?_
                              refine sx_aload_n dc_La_law_474 rfl ?_
                              refine sx_aload_n dc_La_law_475 rfl ?_
                              refine sx_iload_n dc_La_law_476 rfl ?_
                              refine sx_iconst (v := (1 : Int32)) dc_La_law_477 (by decide) ?_
                              refine sx_iadd dc_La_law_478 ?_
                              obtain ⟨g346, hk⟩ := hk.g
                              refine sx_sld g346 dc_La_law_479 ?_
                              refine sx_aload_n dc_La_law_480 rfl ?_
                              refine sx_iload_n dc_La_law_481 rfl ?_
                              refine sx_iconst (v := (2 : Int32)) dc_La_law_482 (by decide) ?_
                              refine sx_iadd dc_La_law_483 ?_
                              obtain ⟨g347, hk⟩ := hk.g
                              refine sx_sld g347 dc_La_law_484 ?_
                              obtain ⟨g349, hk⟩ := hk.g
                              obtain ⟨q348, eq348, hk⟩ := hk.bind
                              refine sx_callV (d2 := d - 1) (mc2 := 0) (ms2 := 0) (as := [xI (Z.2 (a3 + (1 : Int32)).toNatClampNeg), xI (Z.2 (a3 + (2 : Int32)).toNatClampNeg)]) mk_Ma_guest rfl (x_rk (ci := 10) g349 rfl rfl) wM_La_58 mi_Ma_guest me_Ma_guest rfl (Nat.le_of_ble_eq_true rfl) (Nat.le_of_ble_eq_true rfl) dc_La_law_485 (by omega) (Nat.zero_le _) (Nat.zero_le _) ?_
                              refine t_Ma_guest (by omega) ⟨q348, eq348, ?_⟩
                              refine sx_eq0 (lc2 := [some (xS 14), some (xR a1), some (xR a2), some (xI a3)]) (st2 := [xI q348.1]) rfl rfl ?_
                              refine sx_aload_n dc_La_law_488 rfl ?_
                              refine sx_aload_n dc_La_law_489 rfl ?_
                              refine sx_iload_n dc_La_law_490 rfl ?_
                              refine sx_iconst (v := (1 : Int32)) dc_La_law_491 (by decide) ?_
                              refine sx_iadd dc_La_law_492 ?_
                              obtain ⟨g350, hk⟩ := hk.g
                              refine sx_sld g350 dc_La_law_493 ?_
                              refine sx_aload_n dc_La_law_494 rfl ?_
                              refine sx_iload_n dc_La_law_495 rfl ?_
                              refine sx_iconst (v := (2 : Int32)) dc_La_law_496 (by decide) ?_
                              refine sx_iadd dc_La_law_497 ?_
                              obtain ⟨g351, hk⟩ := hk.g
                              refine sx_sld g351 dc_La_law_498 ?_
                              obtain ⟨g353, hk⟩ := hk.g
                              obtain ⟨q352, eq352, hk⟩ := hk.bind
                              refine sx_callV (d2 := d - 1) (mc2 := 0) (ms2 := 0) (as := [xI (Z.2 (a3 + (1 : Int32)).toNatClampNeg), xI (Z.2 (a3 + (2 : Int32)).toNatClampNeg)]) mk_Mo_guest rfl (x_rk (ci := 11) g353 rfl rfl) wM_La_61 mi_Mo_guest me_Mo_guest rfl (Nat.le_of_ble_eq_true rfl) (Nat.le_of_ble_eq_true rfl) dc_La_law_499 (by omega) (Nat.zero_le _) (Nat.zero_le _) ?_
                              refine t_Mo_guest (by omega) ⟨q352, eq352, ?_⟩
                              refine sx_eq0 (lc2 := [some (xS 14), some (xR a1), some (xR a2), some (xI a3)]) (st2 := [xI q352.1, xI q348.1]) rfl rfl ?_
                              refine sx_icmp_eq (tgt := 1147) dc_La_law_502 (by decide) (fun c354 => ?_) (fun c354 => ?_)
                              · replace hk := hk.t c354
                                exact jk253 q352.2 hk _ _ (by omega) (by omega)
                              · replace hk := hk.f c354
                                refine sx_iconst (v := (0 : Int32)) dc_La_law_505 (by decide) ?_
                                exact sx_retT (v := (0 : Int32)) dc_La_law_506 (Or.inl ⟨rfl, rfl⟩) (by decide) hk.val
                            · replace hk := hk.f c355
                              by_cases c361 : ((Z.2 a3.toNatClampNeg) &&& (63 : Int32)) = (11 : Int32)
                              · replace hk := hk.t c361
                                refine sx_tabIn (off := 474) (tgt := 507) dc_La_law_33 (by rw [c361]; decide) (by rw [c361]; decide) (by rw [c361]; rfl) (by decide) ?_
                                refine sx_aload_n dc_La_law_507 rfl ?_
                                obtain ⟨g357, hk⟩ := hk.g
                                obtain ⟨q356, eq356, hk⟩ := hk.bind
                                refine sx_callV (d2 := d - 1) (mc2 := 0) (ms2 := 0) (as := []) mk_Ma_most rfl (x_rk (ci := 10) g357 rfl rfl) wM_La_62 mi_Ma_most me_Ma_most rfl (Nat.le_of_ble_eq_true rfl) (Nat.le_of_ble_eq_true rfl) dc_La_law_508 (by omega) (Nat.zero_le _) (Nat.zero_le _) ?_
                                refine t_Ma_most (by omega) ⟨q356, eq356, ?_⟩
                                refine sx_eq0 (lc2 := [some (xS 14), some (xR a1), some (xR a2), some (xI a3)]) (st2 := [xI q356.1]) rfl rfl ?_
                                refine sx_aload_n dc_La_law_511 rfl ?_
                                obtain ⟨g359, hk⟩ := hk.g
                                obtain ⟨q358, eq358, hk⟩ := hk.bind
                                refine sx_callV (d2 := d - 1) (mc2 := 0) (ms2 := 0) (as := []) mk_Mo_most rfl (x_rk (ci := 11) g359 rfl rfl) wM_La_65 mi_Mo_most me_Mo_most rfl (Nat.le_of_ble_eq_true rfl) (Nat.le_of_ble_eq_true rfl) dc_La_law_512 (by omega) (Nat.zero_le _) (Nat.zero_le _) ?_
                                refine t_Mo_most (by omega) ⟨q358, eq358, ?_⟩
                                refine sx_eq0 (lc2 := [some (xS 14), some (xR a1), some (xR a2), some (xI a3)]) (st2 := [xI q358.1, xI q356.1]) rfl rfl ?_
                                refine sx_icmp_eq (tgt := 1147) dc_La_law_515 (by decide) (fun c360 => ?_) (fun c360 => ?_)
                                · replace hk := hk.t c360
                                  exact jk253 q358.2 hk _ _ (by omega) (by omega)
                                · replace hk := hk.f c360
                                  refine sx_iconst (v := (0 : Int32)) dc_La_law_518 (by decide) ?_
                                  exact sx_retT (v := (0 : Int32)) dc_La_law_519 (Or.inl ⟨rfl, rfl⟩) (by decide) hk.val
                              · replace hk := hk.f c361
                                by_cases c369 : ((Z.2 a3.toNatClampNeg) &&& (63 : Int32)) = (12 : Int32)
                                · replace hk := hk.t c369
                                  refine sx_tabIn (off := 487) (tgt := 520) dc_La_law_33 (by rw [c369]; decide) (by rw [c369]; decide) (by rw [c369]; rfl) (by decide) ?_
                                  refine sx_aload_n dc_La_law_520 rfl ?_
                                  refine sx_aload_n dc_La_law_521 rfl ?_
                                  refine sx_iload_n dc_La_law_522 rfl ?_
                                  refine sx_iconst (v := (1 : Int32)) dc_La_law_523 (by decide) ?_
                                  refine sx_iadd dc_La_law_524 ?_
                                  obtain ⟨g362, hk⟩ := hk.g
                                  refine sx_sld g362 dc_La_law_525 ?_
                                  obtain ⟨g364, hk⟩ := hk.g
                                  obtain ⟨q363, eq363, hk⟩ := hk.bind
                                  refine sx_callV (d2 := d - 1) (mc2 := 0) (ms2 := 0) (as := [xI (Z.2 (a3 + (1 : Int32)).toNatClampNeg)]) mk_Ma_home rfl (x_rk (ci := 10) g364 rfl rfl) wM_La_66 mi_Ma_home me_Ma_home rfl (Nat.le_of_ble_eq_true rfl) (Nat.le_of_ble_eq_true rfl) dc_La_law_526 (by omega) (Nat.zero_le _) (Nat.zero_le _) ?_
                                  refine t_Ma_home (by omega) ⟨q363, eq363, ?_⟩
                                  refine sx_eq0 (lc2 := [some (xS 14), some (xR a1), some (xR a2), some (xI a3)]) (st2 := [xI q363.1]) rfl rfl ?_
                                  refine sx_aload_n dc_La_law_529 rfl ?_
                                  refine sx_aload_n dc_La_law_530 rfl ?_
                                  refine sx_iload_n dc_La_law_531 rfl ?_
                                  refine sx_iconst (v := (1 : Int32)) dc_La_law_532 (by decide) ?_
                                  refine sx_iadd dc_La_law_533 ?_
                                  obtain ⟨g365, hk⟩ := hk.g
                                  refine sx_sld g365 dc_La_law_534 ?_
                                  obtain ⟨g367, hk⟩ := hk.g
                                  obtain ⟨q366, eq366, hk⟩ := hk.bind
                                  refine sx_callV (d2 := d - 1) (mc2 := 0) (ms2 := 0) (as := [xI (Z.2 (a3 + (1 : Int32)).toNatClampNeg)]) mk_Mo_home rfl (x_rk (ci := 11) g367 rfl rfl) wM_La_69 mi_Mo_home me_Mo_home rfl (Nat.le_of_ble_eq_true rfl) (Nat.le_of_ble_eq_true rfl) dc_La_law_535 (by omega) (Nat.zero_le _) (Nat.zero_le _) ?_
                                  refine t_Mo_home (by omega) ⟨q366, eq366, ?_⟩
                                  refine sx_eq0 (lc2 := [some (xS 14), some (xR a1), some (xR a2), some (xI a3)]) (st2 := [xI q366.1, xI q363.1]) rfl rfl ?_
                                  refine sx_icmp_eq (tgt := 1147) dc_La_law_538 (by decide) (fun c368 => ?_) (fun c368 => ?_)
                                  · replace hk := hk.t c368
                                    exact jk253 q366.2 hk _ _ (by omega) (by omega)
                                  · replace hk := hk.f c368
                                    refine sx_iconst (v := (0 : Int32)) dc_La_law_541 (by decide) ?_
                                    exact sx_retT (v := (0 : Int32)) dc_La_law_542 (Or.inl ⟨rfl, rfl⟩) (by decide) hk.val
                                · replace hk := hk.f c369
                                  by_cases c377 : ((Z.2 a3.toNatClampNeg) &&& (63 : Int32)) = (13 : Int32)
                                  · replace hk := hk.t c377
                                    refine sx_tabIn (off := 510) (tgt := 543) dc_La_law_33 (by rw [c377]; decide) (by rw [c377]; decide) (by rw [c377]; rfl) (by decide) ?_
                                    refine sx_aload_n dc_La_law_543 rfl ?_
                                    refine sx_aload_n dc_La_law_544 rfl ?_
                                    refine sx_iload_n dc_La_law_545 rfl ?_
                                    refine sx_iconst (v := (1 : Int32)) dc_La_law_546 (by decide) ?_
                                    refine sx_iadd dc_La_law_547 ?_
                                    obtain ⟨g370, hk⟩ := hk.g
                                    refine sx_sld g370 dc_La_law_548 ?_
                                    obtain ⟨g372, hk⟩ := hk.g
                                    obtain ⟨q371, eq371, hk⟩ := hk.bind
                                    refine sx_callV (d2 := d - 1) (mc2 := 0) (ms2 := 0) (as := [xI (Z.2 (a3 + (1 : Int32)).toNatClampNeg)]) mk_Ma_change rfl (x_rk (ci := 10) g372 rfl rfl) wM_La_70 mi_Ma_change me_Ma_change rfl (Nat.le_of_ble_eq_true rfl) (Nat.le_of_ble_eq_true rfl) dc_La_law_549 (by omega) (Nat.zero_le _) (Nat.zero_le _) ?_
                                    refine t_Ma_change (by omega) ⟨q371, eq371, ?_⟩
                                    refine sx_eq0 (lc2 := [some (xS 14), some (xR a1), some (xR a2), some (xI a3)]) (st2 := [xI q371.1]) rfl rfl ?_
                                    refine sx_aload_n dc_La_law_552 rfl ?_
                                    refine sx_aload_n dc_La_law_553 rfl ?_
                                    refine sx_iload_n dc_La_law_554 rfl ?_
                                    refine sx_iconst (v := (1 : Int32)) dc_La_law_555 (by decide) ?_
                                    refine sx_iadd dc_La_law_556 ?_
                                    obtain ⟨g373, hk⟩ := hk.g
                                    refine sx_sld g373 dc_La_law_557 ?_
                                    obtain ⟨g375, hk⟩ := hk.g
                                    obtain ⟨q374, eq374, hk⟩ := hk.bind
                                    refine sx_callV (d2 := d - 1) (mc2 := 0) (ms2 := 0) (as := [xI (Z.2 (a3 + (1 : Int32)).toNatClampNeg)]) mk_Mo_change rfl (x_rk (ci := 11) g375 rfl rfl) wM_La_73 mi_Mo_change me_Mo_change rfl (Nat.le_of_ble_eq_true rfl) (Nat.le_of_ble_eq_true rfl) dc_La_law_558 (by omega) (Nat.zero_le _) (Nat.zero_le _) ?_
                                    refine t_Mo_change (by omega) ⟨q374, eq374, ?_⟩
                                    refine sx_eq0 (lc2 := [some (xS 14), some (xR a1), some (xR a2), some (xI a3)]) (st2 := [xI q374.1, xI q371.1]) rfl rfl ?_
                                    refine sx_icmp_eq (tgt := 1147) dc_La_law_561 (by decide) (fun c376 => ?_) (fun c376 => ?_)
                                    · replace hk := hk.t c376
                                      exact jk253 q374.2 hk _ _ (by omega) (by omega)
                                    · replace hk := hk.f c376
                                      refine sx_iconst (v := (0 : Int32)) dc_La_law_564 (by decide) ?_
                                      exact sx_retT (v := (0 : Int32)) dc_La_law_565 (Or.inl ⟨rfl, rfl⟩) (by decide) hk.val
                                  · replace hk := hk.f c377
                                    by_cases c385 : ((Z.2 a3.toNatClampNeg) &&& (63 : Int32)) = (14 : Int32)
                                    · replace hk := hk.t c385
                                      refine sx_tabIn (off := 533) (tgt := 566) dc_La_law_33 (by rw [c385]; decide) (by rw [c385]; decide) (by rw [c385]; rfl) (by decide) ?_
                                      refine sx_aload_n dc_La_law_566 rfl ?_
                                      refine sx_aload_n dc_La_law_567 rfl ?_
                                      refine sx_iload_n dc_La_law_568 rfl ?_
                                      refine sx_iconst (v := (1 : Int32)) dc_La_law_569 (by decide) ?_
                                      refine sx_iadd dc_La_law_570 ?_
                                      obtain ⟨g378, hk⟩ := hk.g
                                      refine sx_sld g378 dc_La_law_571 ?_
                                      obtain ⟨g380, hk⟩ := hk.g
                                      obtain ⟨q379, eq379, hk⟩ := hk.bind
                                      refine sx_callV (d2 := d - 1) (mc2 := 0) (ms2 := 0) (as := [xI (Z.2 (a3 + (1 : Int32)).toNatClampNeg)]) mk_Ma_noneLeft rfl (x_rk (ci := 10) g380 rfl rfl) wM_La_74 mi_Ma_noneLeft me_Ma_noneLeft rfl (Nat.le_of_ble_eq_true rfl) (Nat.le_of_ble_eq_true rfl) dc_La_law_572 (by omega) (Nat.zero_le _) (Nat.zero_le _) ?_
                                      refine t_Ma_noneLeft (by omega) ⟨q379, eq379, ?_⟩
                                      refine sx_eq0 (lc2 := [some (xS 14), some (xR a1), some (xR a2), some (xI a3)]) (st2 := [xI q379.1]) rfl rfl ?_
                                      refine sx_aload_n dc_La_law_575 rfl ?_
                                      refine sx_aload_n dc_La_law_576 rfl ?_
                                      refine sx_iload_n dc_La_law_577 rfl ?_
                                      refine sx_iconst (v := (1 : Int32)) dc_La_law_578 (by decide) ?_
                                      refine sx_iadd dc_La_law_579 ?_
                                      obtain ⟨g381, hk⟩ := hk.g
                                      refine sx_sld g381 dc_La_law_580 ?_
                                      obtain ⟨g383, hk⟩ := hk.g
                                      obtain ⟨q382, eq382, hk⟩ := hk.bind
                                      refine sx_callV (d2 := d - 1) (mc2 := 0) (ms2 := 0) (as := [xI (Z.2 (a3 + (1 : Int32)).toNatClampNeg)]) mk_Mo_noneLeft rfl (x_rk (ci := 11) g383 rfl rfl) wM_La_77 mi_Mo_noneLeft me_Mo_noneLeft rfl (Nat.le_of_ble_eq_true rfl) (Nat.le_of_ble_eq_true rfl) dc_La_law_581 (by omega) (Nat.zero_le _) (Nat.zero_le _) ?_
                                      refine t_Mo_noneLeft (by omega) ⟨q382, eq382, ?_⟩
                                      refine sx_eq0 (lc2 := [some (xS 14), some (xR a1), some (xR a2), some (xI a3)]) (st2 := [xI q382.1, xI q379.1]) rfl rfl ?_
                                      refine sx_icmp_eq (tgt := 1147) dc_La_law_584 (by decide) (fun c384 => ?_) (fun c384 => ?_)
                                      · replace hk := hk.t c384
                                        exact jk253 q382.2 hk _ _ (by omega) (by omega)
                                      · replace hk := hk.f c384
                                        refine sx_iconst (v := (0 : Int32)) dc_La_law_587 (by decide) ?_
                                        exact sx_retT (v := (0 : Int32)) dc_La_law_588 (Or.inl ⟨rfl, rfl⟩) (by decide) hk.val
                                    · replace hk := hk.f c385
                                      by_cases c395 : ((Z.2 a3.toNatClampNeg) &&& (63 : Int32)) = (15 : Int32)
                                      · replace hk := hk.t c395
                                        refine sx_tabIn (off := 556) (tgt := 589) dc_La_law_33 (by rw [c395]; decide) (by rw [c395]; decide) (by rw [c395]; rfl) (by decide) ?_
                                        refine sx_aload_n dc_La_law_589 rfl ?_
                                        refine sx_aload_n dc_La_law_590 rfl ?_
                                        refine sx_iload_n dc_La_law_591 rfl ?_
                                        refine sx_iconst (v := (1 : Int32)) dc_La_law_592 (by decide) ?_
                                        refine sx_iadd dc_La_law_593 ?_
                                        obtain ⟨g386, hk⟩ := hk.g
                                        refine sx_sld g386 dc_La_law_594 ?_
                                        refine sx_aload_n dc_La_law_595 rfl ?_
                                        refine sx_iload_n dc_La_law_596 rfl ?_
                                        refine sx_iconst (v := (2 : Int32)) dc_La_law_597 (by decide) ?_
                                        refine sx_iadd dc_La_law_598 ?_
                                        obtain ⟨g387, hk⟩ := hk.g
                                        refine sx_sld g387 dc_La_law_599 ?_
                                        obtain ⟨g389, hk⟩ := hk.g
                                        obtain ⟨q388, eq388, hk⟩ := hk.bind
                                        refine sx_callV (d2 := d - 1) (mc2 := 0) (ms2 := 0) (as := [xI (Z.2 (a3 + (1 : Int32)).toNatClampNeg), xI (Z.2 (a3 + (2 : Int32)).toNatClampNeg)]) mk_Ma_all rfl (x_rk (ci := 10) g389 rfl rfl) wM_La_78 mi_Ma_all me_Ma_all rfl (Nat.le_of_ble_eq_true rfl) (Nat.le_of_ble_eq_true rfl) dc_La_law_600 (by omega) (Nat.zero_le _) (Nat.zero_le _) ?_
                                        refine t_Ma_all (by omega) ⟨q388, eq388, ?_⟩
                                        refine sx_eq0 (lc2 := [some (xS 14), some (xR a1), some (xR a2), some (xI a3)]) (st2 := [xI q388.1]) rfl rfl ?_
                                        refine sx_aload_n dc_La_law_603 rfl ?_
                                        refine sx_aload_n dc_La_law_604 rfl ?_
                                        refine sx_iload_n dc_La_law_605 rfl ?_
                                        refine sx_iconst (v := (1 : Int32)) dc_La_law_606 (by decide) ?_
                                        refine sx_iadd dc_La_law_607 ?_
                                        obtain ⟨g390, hk⟩ := hk.g
                                        refine sx_sld g390 dc_La_law_608 ?_
                                        refine sx_aload_n dc_La_law_609 rfl ?_
                                        refine sx_iload_n dc_La_law_610 rfl ?_
                                        refine sx_iconst (v := (2 : Int32)) dc_La_law_611 (by decide) ?_
                                        refine sx_iadd dc_La_law_612 ?_
                                        obtain ⟨g391, hk⟩ := hk.g
                                        refine sx_sld g391 dc_La_law_613 ?_
                                        obtain ⟨g393, hk⟩ := hk.g
                                        obtain ⟨q392, eq392, hk⟩ := hk.bind
                                        refine sx_callV (d2 := d - 1) (mc2 := 0) (ms2 := 0) (as := [xI (Z.2 (a3 + (1 : Int32)).toNatClampNeg), xI (Z.2 (a3 + (2 : Int32)).toNatClampNeg)]) mk_Mo_all rfl (x_rk (ci := 11) g393 rfl rfl) wM_La_81 mi_Mo_all me_Mo_all rfl (Nat.le_of_ble_eq_true rfl) (Nat.le_of_ble_eq_true rfl) dc_La_law_614 (by omega) (Nat.zero_le _) (Nat.zero_le _) ?_
                                        refine t_Mo_all (by omega) ⟨q392, eq392, ?_⟩
                                        refine sx_eq0 (lc2 := [some (xS 14), some (xR a1), some (xR a2), some (xI a3)]) (st2 := [xI q392.1, xI q388.1]) rfl rfl ?_
                                        refine sx_icmp_eq (tgt := 1147) dc_La_law_617 (by decide) (fun c394 => ?_) (fun c394 => ?_)
                                        · replace hk := hk.t c394
                                          exact jk253 q392.2 hk _ _ (by omega) (by omega)
                                        · replace hk := hk.f c394
                                          refine sx_iconst (v := (0 : Int32)) dc_La_law_620 (by decide) ?_
                                          exact sx_retT (v := (0 : Int32)) dc_La_law_621 (Or.inl ⟨rfl, rfl⟩) (by decide) hk.val
                                      · replace hk := hk.f c395
                                        by_cases c403 : ((Z.2 a3.toNatClampNeg) &&& (63 : Int32)) = (16 : Int32)
                                        · replace hk := hk.t c403
                                          refine sx_tabIn (off := 589) (tgt := 622) dc_La_law_33 (by rw [c403]; decide) (by rw [c403]; decide) (by rw [c403]; rfl) (by decide) ?_
                                          refine sx_aload_n dc_La_law_622 rfl ?_
                                          refine sx_aload_n dc_La_law_623 rfl ?_
                                          refine sx_iload_n dc_La_law_624 rfl ?_
                                          refine sx_iconst (v := (1 : Int32)) dc_La_law_625 (by decide) ?_
                                          refine sx_iadd dc_La_law_626 ?_
                                          obtain ⟨g396, hk⟩ := hk.g
                                          refine sx_sld g396 dc_La_law_627 ?_
                                          obtain ⟨g398, hk⟩ := hk.g
                                          obtain ⟨q397, eq397, hk⟩ := hk.bind
                                          refine sx_callV (d2 := d - 1) (mc2 := 0) (ms2 := 0) (as := [xI (Z.2 (a3 + (1 : Int32)).toNatClampNeg)]) mk_Ma_halved rfl (x_rk (ci := 10) g398 rfl rfl) wM_La_82 mi_Ma_halved me_Ma_halved rfl (Nat.le_of_ble_eq_true rfl) (Nat.le_of_ble_eq_true rfl) dc_La_law_628 (by omega) (Nat.zero_le _) (Nat.zero_le _) ?_
                                          refine t_Ma_halved (by omega) ⟨q397, eq397, ?_⟩
                                          refine sx_eq0 (lc2 := [some (xS 14), some (xR a1), some (xR a2), some (xI a3)]) (st2 := [xI q397.1]) rfl rfl ?_
                                          refine sx_aload_n dc_La_law_631 rfl ?_
                                          refine sx_aload_n dc_La_law_632 rfl ?_
                                          refine sx_iload_n dc_La_law_633 rfl ?_
                                          refine sx_iconst (v := (1 : Int32)) dc_La_law_634 (by decide) ?_
                                          refine sx_iadd dc_La_law_635 ?_
                                          obtain ⟨g399, hk⟩ := hk.g
                                          refine sx_sld g399 dc_La_law_636 ?_
                                          obtain ⟨g401, hk⟩ := hk.g
                                          obtain ⟨q400, eq400, hk⟩ := hk.bind
                                          refine sx_callV (d2 := d - 1) (mc2 := 0) (ms2 := 0) (as := [xI (Z.2 (a3 + (1 : Int32)).toNatClampNeg)]) mk_Mo_halved rfl (x_rk (ci := 11) g401 rfl rfl) wM_La_85 mi_Mo_halved me_Mo_halved rfl (Nat.le_of_ble_eq_true rfl) (Nat.le_of_ble_eq_true rfl) dc_La_law_637 (by omega) (Nat.zero_le _) (Nat.zero_le _) ?_
                                          refine t_Mo_halved (by omega) ⟨q400, eq400, ?_⟩
                                          refine sx_eq0 (lc2 := [some (xS 14), some (xR a1), some (xR a2), some (xI a3)]) (st2 := [xI q400.1, xI q397.1]) rfl rfl ?_
                                          refine sx_icmp_eq (tgt := 1147) dc_La_law_640 (by decide) (fun c402 => ?_) (fun c402 => ?_)
                                          · replace hk := hk.t c402
                                            exact jk253 q400.2 hk _ _ (by omega) (by omega)
                                          · replace hk := hk.f c402
                                            refine sx_iconst (v := (0 : Int32)) dc_La_law_643 (by decide) ?_
                                            exact sx_retT (v := (0 : Int32)) dc_La_law_644 (Or.inl ⟨rfl, rfl⟩) (by decide) hk.val
                                        · replace hk := hk.f c403
                                          by_cases c409 : ((Z.2 a3.toNatClampNeg) &&& (63 : Int32)) = (17 : Int32)
                                          · replace hk := hk.t c409
                                            refine sx_tabIn (off := 612) (tgt := 645) dc_La_law_33 (by rw [c409]; decide) (by rw [c409]; decide) (by rw [c409]; rfl) (by decide) ?_
                                            refine sx_aload_n dc_La_law_645 rfl ?_
                                            obtain ⟨g405, hk⟩ := hk.g
                                            obtain ⟨q404, eq404, hk⟩ := hk.bind
                                            refine sx_callV (d2 := d - 1) (mc2 := 0) (ms2 := 0) (as := []) mk_Ma_fours rfl (x_rk (ci := 10) g405 rfl rfl) wM_La_86 mi_Ma_fours me_Ma_fours rfl (Nat.le_of_ble_eq_true rfl) (Nat.le_of_ble_eq_true rfl) dc_La_law_646 (by omega) (Nat.zero_le _) (Nat.zero_le _) ?_
                                            refine t_Ma_fours (by omega) ⟨q404, eq404, ?_⟩
                                            refine sx_eq0 (lc2 := [some (xS 14), some (xR a1), some (xR a2), some (xI a3)]) (st2 := [xI q404.1]) rfl rfl ?_
                                            refine sx_aload_n dc_La_law_649 rfl ?_
                                            obtain ⟨g407, hk⟩ := hk.g
                                            obtain ⟨q406, eq406, hk⟩ := hk.bind
                                            refine sx_callV (d2 := d - 1) (mc2 := 0) (ms2 := 0) (as := []) mk_Mo_fours rfl (x_rk (ci := 11) g407 rfl rfl) wM_La_89 mi_Mo_fours me_Mo_fours rfl (Nat.le_of_ble_eq_true rfl) (Nat.le_of_ble_eq_true rfl) dc_La_law_650 (by omega) (Nat.zero_le _) (Nat.zero_le _) ?_
                                            refine t_Mo_fours (by omega) ⟨q406, eq406, ?_⟩
                                            refine sx_eq0 (lc2 := [some (xS 14), some (xR a1), some (xR a2), some (xI a3)]) (st2 := [xI q406.1, xI q404.1]) rfl rfl ?_
                                            refine sx_icmp_eq (tgt := 1147) dc_La_law_653 (by decide) (fun c408 => ?_) (fun c408 => ?_)
                                            · replace hk := hk.t c408
                                              exact jk253 q406.2 hk _ _ (by omega) (by omega)
                                            · replace hk := hk.f c408
                                              refine sx_iconst (v := (0 : Int32)) dc_La_law_656 (by decide) ?_
                                              exact sx_retT (v := (0 : Int32)) dc_La_law_657 (Or.inl ⟨rfl, rfl⟩) (by decide) hk.val
                                          · replace hk := hk.f c409
                                            by_cases c417 : ((Z.2 a3.toNatClampNeg) &&& (63 : Int32)) = (18 : Int32)
                                            · replace hk := hk.t c417
                                              refine sx_tabIn (off := 625) (tgt := 658) dc_La_law_33 (by rw [c417]; decide) (by rw [c417]; decide) (by rw [c417]; rfl) (by decide) ?_
                                              refine sx_aload_n dc_La_law_658 rfl ?_
                                              refine sx_aload_n dc_La_law_659 rfl ?_
                                              refine sx_iload_n dc_La_law_660 rfl ?_
                                              refine sx_iconst (v := (1 : Int32)) dc_La_law_661 (by decide) ?_
                                              refine sx_iadd dc_La_law_662 ?_
                                              obtain ⟨g410, hk⟩ := hk.g
                                              refine sx_sld g410 dc_La_law_663 ?_
                                              obtain ⟨g412, hk⟩ := hk.g
                                              obtain ⟨q411, eq411, hk⟩ := hk.bind
                                              refine sx_callV (d2 := d - 1) (mc2 := 0) (ms2 := 0) (as := [xI (Z.2 (a3 + (1 : Int32)).toNatClampNeg)]) mk_Ma_common rfl (x_rk (ci := 10) g412 rfl rfl) wM_La_90 mi_Ma_common me_Ma_common rfl (Nat.le_of_ble_eq_true rfl) (Nat.le_of_ble_eq_true rfl) dc_La_law_664 (by omega) (Nat.zero_le _) (Nat.zero_le _) ?_
                                              refine t_Ma_common (by omega) ⟨q411, eq411, ?_⟩
                                              refine sx_eq0 (lc2 := [some (xS 14), some (xR a1), some (xR a2), some (xI a3)]) (st2 := [xI q411.1]) rfl rfl ?_
                                              refine sx_aload_n dc_La_law_667 rfl ?_
                                              refine sx_aload_n dc_La_law_668 rfl ?_
                                              refine sx_iload_n dc_La_law_669 rfl ?_
                                              refine sx_iconst (v := (1 : Int32)) dc_La_law_670 (by decide) ?_
                                              refine sx_iadd dc_La_law_671 ?_
                                              obtain ⟨g413, hk⟩ := hk.g
                                              refine sx_sld g413 dc_La_law_672 ?_
                                              obtain ⟨g415, hk⟩ := hk.g
                                              obtain ⟨q414, eq414, hk⟩ := hk.bind
                                              refine sx_callV (d2 := d - 1) (mc2 := 0) (ms2 := 0) (as := [xI (Z.2 (a3 + (1 : Int32)).toNatClampNeg)]) mk_Mo_common rfl (x_rk (ci := 11) g415 rfl rfl) wM_La_93 mi_Mo_common me_Mo_common rfl (Nat.le_of_ble_eq_true rfl) (Nat.le_of_ble_eq_true rfl) dc_La_law_673 (by omega) (Nat.zero_le _) (Nat.zero_le _) ?_
                                              refine t_Mo_common (by omega) ⟨q414, eq414, ?_⟩
                                              refine sx_eq0 (lc2 := [some (xS 14), some (xR a1), some (xR a2), some (xI a3)]) (st2 := [xI q414.1, xI q411.1]) rfl rfl ?_
                                              refine sx_icmp_eq (tgt := 1147) dc_La_law_676 (by decide) (fun c416 => ?_) (fun c416 => ?_)
                                              · replace hk := hk.t c416
                                                exact jk253 q414.2 hk _ _ (by omega) (by omega)
                                              · replace hk := hk.f c416
                                                refine sx_iconst (v := (0 : Int32)) dc_La_law_679 (by decide) ?_
                                                exact sx_retT (v := (0 : Int32)) dc_La_law_680 (Or.inl ⟨rfl, rfl⟩) (by decide) hk.val
                                            · replace hk := hk.f c417
                                              by_cases c427 : ((Z.2 a3.toNatClampNeg) &&& (63 : Int32)) = (19 : Int32)
                                              · replace hk := hk.t c427
                                                refine sx_tabIn (off := 648) (tgt := 681) dc_La_law_33 (by rw [c427]; decide) (by rw [c427]; decide) (by rw [c427]; rfl) (by decide) ?_
                                                refine sx_aload_n dc_La_law_681 rfl ?_
                                                refine sx_aload_n dc_La_law_682 rfl ?_
                                                refine sx_iload_n dc_La_law_683 rfl ?_
                                                refine sx_iconst (v := (1 : Int32)) dc_La_law_684 (by decide) ?_
                                                refine sx_iadd dc_La_law_685 ?_
                                                obtain ⟨g418, hk⟩ := hk.g
                                                refine sx_sld g418 dc_La_law_686 ?_
                                                refine sx_aload_n dc_La_law_687 rfl ?_
                                                refine sx_iload_n dc_La_law_688 rfl ?_
                                                refine sx_iconst (v := (2 : Int32)) dc_La_law_689 (by decide) ?_
                                                refine sx_iadd dc_La_law_690 ?_
                                                obtain ⟨g419, hk⟩ := hk.g
                                                refine sx_sld g419 dc_La_law_691 ?_
                                                obtain ⟨g421, hk⟩ := hk.g
                                                obtain ⟨q420, eq420, hk⟩ := hk.bind
                                                refine sx_callV (d2 := d - 1) (mc2 := 0) (ms2 := 0) (as := [xI (Z.2 (a3 + (1 : Int32)).toNatClampNeg), xI (Z.2 (a3 + (2 : Int32)).toNatClampNeg)]) mk_Ma_without rfl (x_rk (ci := 10) g421 rfl rfl) wM_La_94 mi_Ma_without me_Ma_without rfl (Nat.le_of_ble_eq_true rfl) (Nat.le_of_ble_eq_true rfl) dc_La_law_692 (by omega) (Nat.zero_le _) (Nat.zero_le _) ?_
                                                refine t_Ma_without (by omega) ⟨q420, eq420, ?_⟩
                                                refine sx_eq0 (lc2 := [some (xS 14), some (xR a1), some (xR a2), some (xI a3)]) (st2 := [xI q420.1]) rfl rfl ?_
                                                refine sx_aload_n dc_La_law_695 rfl ?_
                                                refine sx_aload_n dc_La_law_696 rfl ?_
                                                refine sx_iload_n dc_La_law_697 rfl ?_
                                                refine sx_iconst (v := (1 : Int32)) dc_La_law_698 (by decide) ?_
                                                refine sx_iadd dc_La_law_699 ?_
                                                obtain ⟨g422, hk⟩ := hk.g
                                                refine sx_sld g422 dc_La_law_700 ?_
                                                refine sx_aload_n dc_La_law_701 rfl ?_
                                                refine sx_iload_n dc_La_law_702 rfl ?_
                                                refine sx_iconst (v := (2 : Int32)) dc_La_law_703 (by decide) ?_
                                                refine sx_iadd dc_La_law_704 ?_
                                                obtain ⟨g423, hk⟩ := hk.g
                                                refine sx_sld g423 dc_La_law_705 ?_
                                                obtain ⟨g425, hk⟩ := hk.g
                                                obtain ⟨q424, eq424, hk⟩ := hk.bind
                                                refine sx_callV (d2 := d - 1) (mc2 := 0) (ms2 := 0) (as := [xI (Z.2 (a3 + (1 : Int32)).toNatClampNeg), xI (Z.2 (a3 + (2 : Int32)).toNatClampNeg)]) mk_Mo_without rfl (x_rk (ci := 11) g425 rfl rfl) wM_La_97 mi_Mo_without me_Mo_without rfl (Nat.le_of_ble_eq_true rfl) (Nat.le_of_ble_eq_true rfl) dc_La_law_706 (by omega) (Nat.zero_le _) (Nat.zero_le _) ?_
                                                refine t_Mo_without (by omega) ⟨q424, eq424, ?_⟩
                                                refine sx_eq0 (lc2 := [some (xS 14), some (xR a1), some (xR a2), some (xI a3)]) (st2 := [xI q424.1, xI q420.1]) rfl rfl ?_
                                                refine sx_icmp_eq (tgt := 1147) dc_La_law_709 (by decide) (fun c426 => ?_) (fun c426 => ?_)
                                                · replace hk := hk.t c426
                                                  exact jk253 q424.2 hk _ _ (by omega) (by omega)
                                                · replace hk := hk.f c426
                                                  refine sx_iconst (v := (0 : Int32)) dc_La_law_712 (by decide) ?_
                                                  exact sx_retT (v := (0 : Int32)) dc_La_law_713 (Or.inl ⟨rfl, rfl⟩) (by decide) hk.val
                                              · replace hk := hk.f c427
                                                by_cases c435 : ((Z.2 a3.toNatClampNeg) &&& (63 : Int32)) = (20 : Int32)
                                                · replace hk := hk.t c435
                                                  refine sx_tabIn (off := 681) (tgt := 714) dc_La_law_33 (by rw [c435]; decide) (by rw [c435]; decide) (by rw [c435]; rfl) (by decide) ?_
                                                  refine sx_aload_n dc_La_law_714 rfl ?_
                                                  refine sx_aload_n dc_La_law_715 rfl ?_
                                                  refine sx_iload_n dc_La_law_716 rfl ?_
                                                  refine sx_iconst (v := (1 : Int32)) dc_La_law_717 (by decide) ?_
                                                  refine sx_iadd dc_La_law_718 ?_
                                                  obtain ⟨g428, hk⟩ := hk.g
                                                  refine sx_sld g428 dc_La_law_719 ?_
                                                  obtain ⟨g430, hk⟩ := hk.g
                                                  obtain ⟨q429, eq429, hk⟩ := hk.bind
                                                  refine sx_callV (d2 := d - 1) (mc2 := 0) (ms2 := 0) (as := [xI (Z.2 (a3 + (1 : Int32)).toNatClampNeg)]) mk_Ma_half rfl (x_rk (ci := 10) g430 rfl rfl) wM_La_98 mi_Ma_half me_Ma_half rfl (Nat.le_of_ble_eq_true rfl) (Nat.le_of_ble_eq_true rfl) dc_La_law_720 (by omega) (Nat.zero_le _) (Nat.zero_le _) ?_
                                                  refine t_Ma_half (by omega) ⟨q429, eq429, ?_⟩
                                                  refine sx_eq0 (lc2 := [some (xS 14), some (xR a1), some (xR a2), some (xI a3)]) (st2 := [xI q429.1]) rfl rfl ?_
                                                  refine sx_aload_n dc_La_law_723 rfl ?_
                                                  refine sx_aload_n dc_La_law_724 rfl ?_
                                                  refine sx_iload_n dc_La_law_725 rfl ?_
                                                  refine sx_iconst (v := (1 : Int32)) dc_La_law_726 (by decide) ?_
                                                  refine sx_iadd dc_La_law_727 ?_
                                                  obtain ⟨g431, hk⟩ := hk.g
                                                  refine sx_sld g431 dc_La_law_728 ?_
                                                  obtain ⟨g433, hk⟩ := hk.g
                                                  obtain ⟨q432, eq432, hk⟩ := hk.bind
                                                  refine sx_callV (d2 := d - 1) (mc2 := 0) (ms2 := 0) (as := [xI (Z.2 (a3 + (1 : Int32)).toNatClampNeg)]) mk_Mo_half rfl (x_rk (ci := 11) g433 rfl rfl) wM_La_101 mi_Mo_half me_Mo_half rfl (Nat.le_of_ble_eq_true rfl) (Nat.le_of_ble_eq_true rfl) dc_La_law_729 (by omega) (Nat.zero_le _) (Nat.zero_le _) ?_
                                                  refine t_Mo_half (by omega) ⟨q432, eq432, ?_⟩
                                                  refine sx_eq0 (lc2 := [some (xS 14), some (xR a1), some (xR a2), some (xI a3)]) (st2 := [xI q432.1, xI q429.1]) rfl rfl ?_
                                                  refine sx_icmp_eq (tgt := 1147) dc_La_law_732 (by decide) (fun c434 => ?_) (fun c434 => ?_)
                                                  · replace hk := hk.t c434
                                                    exact jk253 q432.2 hk _ _ (by omega) (by omega)
                                                  · replace hk := hk.f c434
                                                    refine sx_iconst (v := (0 : Int32)) dc_La_law_735 (by decide) ?_
                                                    exact sx_retT (v := (0 : Int32)) dc_La_law_736 (Or.inl ⟨rfl, rfl⟩) (by decide) hk.val
                                                · replace hk := hk.f c435
                                                  by_cases c443 : ((Z.2 a3.toNatClampNeg) &&& (63 : Int32)) = (21 : Int32)
                                                  · replace hk := hk.t c443
                                                    refine sx_tabIn (off := 704) (tgt := 737) dc_La_law_33 (by rw [c443]; decide) (by rw [c443]; decide) (by rw [c443]; rfl) (by decide) ?_
                                                    refine sx_aload_n dc_La_law_737 rfl ?_
                                                    refine sx_aload_n dc_La_law_738 rfl ?_
                                                    refine sx_iload_n dc_La_law_739 rfl ?_
                                                    refine sx_iconst (v := (1 : Int32)) dc_La_law_740 (by decide) ?_
                                                    refine sx_iadd dc_La_law_741 ?_
                                                    obtain ⟨g436, hk⟩ := hk.g
                                                    refine sx_sld g436 dc_La_law_742 ?_
                                                    obtain ⟨g438, hk⟩ := hk.g
                                                    obtain ⟨q437, eq437, hk⟩ := hk.bind
                                                    refine sx_callV (d2 := d - 1) (mc2 := 0) (ms2 := 0) (as := [xI (Z.2 (a3 + (1 : Int32)).toNatClampNeg)]) mk_Ma_chance rfl (x_rk (ci := 10) g438 rfl rfl) wM_La_102 mi_Ma_chance me_Ma_chance rfl (Nat.le_of_ble_eq_true rfl) (Nat.le_of_ble_eq_true rfl) dc_La_law_743 (by omega) (Nat.zero_le _) (Nat.zero_le _) ?_
                                                    refine t_Ma_chance (by omega) ⟨q437, eq437, ?_⟩
                                                    refine sx_eq0 (lc2 := [some (xS 14), some (xR a1), some (xR a2), some (xI a3)]) (st2 := [xJ q437.1]) rfl rfl ?_
                                                    refine sx_aload_n dc_La_law_746 rfl ?_
                                                    refine sx_aload_n dc_La_law_747 rfl ?_
                                                    refine sx_iload_n dc_La_law_748 rfl ?_
                                                    refine sx_iconst (v := (1 : Int32)) dc_La_law_749 (by decide) ?_
                                                    refine sx_iadd dc_La_law_750 ?_
                                                    obtain ⟨g439, hk⟩ := hk.g
                                                    refine sx_sld g439 dc_La_law_751 ?_
                                                    obtain ⟨g441, hk⟩ := hk.g
                                                    obtain ⟨q440, eq440, hk⟩ := hk.bind
                                                    refine sx_callV (d2 := d - 1) (mc2 := 0) (ms2 := 0) (as := [xI (Z.2 (a3 + (1 : Int32)).toNatClampNeg)]) mk_Mo_chance rfl (x_rk (ci := 11) g441 rfl rfl) wM_La_106 mi_Mo_chance me_Mo_chance rfl (Nat.le_of_ble_eq_true rfl) (Nat.le_of_ble_eq_true rfl) dc_La_law_752 (by omega) (Nat.zero_le _) (Nat.zero_le _) ?_
                                                    refine t_Mo_chance (by omega) ⟨q440, eq440, ?_⟩
                                                    refine sx_eq0 (lc2 := [some (xS 14), some (xR a1), some (xR a2), some (xI a3)]) (st2 := [xJ q440.1, xJ q437.1]) rfl rfl ?_
                                                    refine sx_lcmp dc_La_law_755 ?_
                                                    refine sx_if_eq (tgt := 1147) dc_La_law_756 (by decide) (fun c442 => ?_) (fun c442 => ?_)
                                                    · replace hk := hk.t c442
                                                      exact jk253 q440.2 hk _ _ (by omega) (by omega)
                                                    · replace hk := hk.f c442
                                                      refine sx_iconst (v := (0 : Int32)) dc_La_law_759 (by decide) ?_
                                                      exact sx_retT (v := (0 : Int32)) dc_La_law_760 (Or.inl ⟨rfl, rfl⟩) (by decide) hk.val
                                                  · replace hk := hk.f c443
                                                    by_cases c451 : ((Z.2 a3.toNatClampNeg) &&& (63 : Int32)) = (22 : Int32)
                                                    · replace hk := hk.t c451
                                                      refine sx_tabIn (off := 728) (tgt := 761) dc_La_law_33 (by rw [c451]; decide) (by rw [c451]; decide) (by rw [c451]; rfl) (by decide) ?_
                                                      refine sx_aload_n dc_La_law_761 rfl ?_
                                                      refine sx_aload_n dc_La_law_762 rfl ?_
                                                      refine sx_iload_n dc_La_law_763 rfl ?_
                                                      refine sx_iconst (v := (1 : Int32)) dc_La_law_764 (by decide) ?_
                                                      refine sx_iadd dc_La_law_765 ?_
                                                      obtain ⟨g444, hk⟩ := hk.g
                                                      refine sx_sld g444 dc_La_law_766 ?_
                                                      obtain ⟨g446, hk⟩ := hk.g
                                                      obtain ⟨q445, eq445, hk⟩ := hk.bind
                                                      refine sx_callV (d2 := d - 1) (mc2 := 0) (ms2 := 0) (as := [xI (Z.2 (a3 + (1 : Int32)).toNatClampNeg)]) mk_Ma_game rfl (x_rk (ci := 10) g446 rfl rfl) wM_La_107 mi_Ma_game me_Ma_game rfl (Nat.le_of_ble_eq_true rfl) (Nat.le_of_ble_eq_true rfl) dc_La_law_767 (by omega) (Nat.zero_le _) (Nat.zero_le _) ?_
                                                      refine t_Ma_game (by omega) ⟨q445, eq445, ?_⟩
                                                      refine sx_eq0 (lc2 := [some (xS 14), some (xR a1), some (xR a2), some (xI a3)]) (st2 := [xI q445.1]) rfl rfl ?_
                                                      refine sx_aload_n dc_La_law_770 rfl ?_
                                                      refine sx_aload_n dc_La_law_771 rfl ?_
                                                      refine sx_iload_n dc_La_law_772 rfl ?_
                                                      refine sx_iconst (v := (1 : Int32)) dc_La_law_773 (by decide) ?_
                                                      refine sx_iadd dc_La_law_774 ?_
                                                      obtain ⟨g447, hk⟩ := hk.g
                                                      refine sx_sld g447 dc_La_law_775 ?_
                                                      obtain ⟨g449, hk⟩ := hk.g
                                                      obtain ⟨q448, eq448, hk⟩ := hk.bind
                                                      refine sx_callV (d2 := d - 1) (mc2 := 0) (ms2 := 0) (as := [xI (Z.2 (a3 + (1 : Int32)).toNatClampNeg)]) mk_Mo_game rfl (x_rk (ci := 11) g449 rfl rfl) wM_La_110 mi_Mo_game me_Mo_game rfl (Nat.le_of_ble_eq_true rfl) (Nat.le_of_ble_eq_true rfl) dc_La_law_776 (by omega) (Nat.zero_le _) (Nat.zero_le _) ?_
                                                      refine t_Mo_game (by omega) ⟨q448, eq448, ?_⟩
                                                      refine sx_eq0 (lc2 := [some (xS 14), some (xR a1), some (xR a2), some (xI a3)]) (st2 := [xI q448.1, xI q445.1]) rfl rfl ?_
                                                      refine sx_icmp_eq (tgt := 1147) dc_La_law_779 (by decide) (fun c450 => ?_) (fun c450 => ?_)
                                                      · replace hk := hk.t c450
                                                        exact jk253 q448.2 hk _ _ (by omega) (by omega)
                                                      · replace hk := hk.f c450
                                                        refine sx_iconst (v := (0 : Int32)) dc_La_law_782 (by decide) ?_
                                                        exact sx_retT (v := (0 : Int32)) dc_La_law_783 (Or.inl ⟨rfl, rfl⟩) (by decide) hk.val
                                                    · replace hk := hk.f c451
                                                      by_cases c461 : ((Z.2 a3.toNatClampNeg) &&& (63 : Int32)) = (23 : Int32)
                                                      · replace hk := hk.t c461
                                                        refine sx_tabIn (off := 751) (tgt := 784) dc_La_law_33 (by rw [c461]; decide) (by rw [c461]; decide) (by rw [c461]; rfl) (by decide) ?_
                                                        refine sx_aload_n dc_La_law_784 rfl ?_
                                                        refine sx_aload_n dc_La_law_785 rfl ?_
                                                        refine sx_iload_n dc_La_law_786 rfl ?_
                                                        refine sx_iconst (v := (1 : Int32)) dc_La_law_787 (by decide) ?_
                                                        refine sx_iadd dc_La_law_788 ?_
                                                        obtain ⟨g452, hk⟩ := hk.g
                                                        refine sx_sld g452 dc_La_law_789 ?_
                                                        refine sx_aload_n dc_La_law_790 rfl ?_
                                                        refine sx_iload_n dc_La_law_791 rfl ?_
                                                        refine sx_iconst (v := (2 : Int32)) dc_La_law_792 (by decide) ?_
                                                        refine sx_iadd dc_La_law_793 ?_
                                                        obtain ⟨g453, hk⟩ := hk.g
                                                        refine sx_sld g453 dc_La_law_794 ?_
                                                        obtain ⟨g455, hk⟩ := hk.g
                                                        obtain ⟨q454, eq454, hk⟩ := hk.bind
                                                        refine sx_callV (d2 := d - 1) (mc2 := 0) (ms2 := 0) (as := [xI (Z.2 (a3 + (1 : Int32)).toNatClampNeg), xI (Z.2 (a3 + (2 : Int32)).toNatClampNeg)]) mk_Ma_judge rfl (x_rk (ci := 10) g455 rfl rfl) wM_La_111 mi_Ma_judge me_Ma_judge rfl (Nat.le_of_ble_eq_true rfl) (Nat.le_of_ble_eq_true rfl) dc_La_law_795 (by omega) (Nat.zero_le _) (Nat.zero_le _) ?_
                                                        refine t_Ma_judge (by omega) ⟨q454, eq454, ?_⟩
                                                        refine sx_eq0 (lc2 := [some (xS 14), some (xR a1), some (xR a2), some (xI a3)]) (st2 := [xI q454.1]) rfl rfl ?_
                                                        refine sx_aload_n dc_La_law_798 rfl ?_
                                                        refine sx_aload_n dc_La_law_799 rfl ?_
                                                        refine sx_iload_n dc_La_law_800 rfl ?_
                                                        refine sx_iconst (v := (1 : Int32)) dc_La_law_801 (by decide) ?_
                                                        refine sx_iadd dc_La_law_802 ?_
                                                        obtain ⟨g456, hk⟩ := hk.g
                                                        refine sx_sld g456 dc_La_law_803 ?_
                                                        refine sx_aload_n dc_La_law_804 rfl ?_
                                                        refine sx_iload_n dc_La_law_805 rfl ?_
                                                        refine sx_iconst (v := (2 : Int32)) dc_La_law_806 (by decide) ?_
                                                        refine sx_iadd dc_La_law_807 ?_
                                                        obtain ⟨g457, hk⟩ := hk.g
                                                        refine sx_sld g457 dc_La_law_808 ?_
                                                        obtain ⟨g459, hk⟩ := hk.g
                                                        obtain ⟨q458, eq458, hk⟩ := hk.bind
                                                        refine sx_callV (d2 := d - 1) (mc2 := 0) (ms2 := 0) (as := [xI (Z.2 (a3 + (1 : Int32)).toNatClampNeg), xI (Z.2 (a3 + (2 : Int32)).toNatClampNeg)]) mk_Mo_judge rfl (x_rk (ci := 11) g459 rfl rfl) wM_La_114 mi_Mo_judge me_Mo_judge rfl (Nat.le_of_ble_eq_true rfl) (Nat.le_of_ble_eq_true rfl) dc_La_law_809 (by omega) (Nat.zero_le _) (Nat.zero_le _) ?_
                                                        refine t_Mo_judge (by omega) ⟨q458, eq458, ?_⟩
                                                        refine sx_eq0 (lc2 := [some (xS 14), some (xR a1), some (xR a2), some (xI a3)]) (st2 := [xI q458.1, xI q454.1]) rfl rfl ?_
                                                        refine sx_icmp_eq (tgt := 1147) dc_La_law_812 (by decide) (fun c460 => ?_) (fun c460 => ?_)
                                                        · replace hk := hk.t c460
                                                          exact jk253 q458.2 hk _ _ (by omega) (by omega)
                                                        · replace hk := hk.f c460
                                                          refine sx_iconst (v := (0 : Int32)) dc_La_law_815 (by decide) ?_
                                                          exact sx_retT (v := (0 : Int32)) dc_La_law_816 (Or.inl ⟨rfl, rfl⟩) (by decide) hk.val
                                                      · replace hk := hk.f c461
                                                        by_cases c469 : ((Z.2 a3.toNatClampNeg) &&& (63 : Int32)) = (24 : Int32)
                                                        · replace hk := hk.t c469
                                                          refine sx_tabIn (off := 784) (tgt := 817) dc_La_law_33 (by rw [c469]; decide) (by rw [c469]; decide) (by rw [c469]; rfl) (by decide) ?_
                                                          refine sx_aload_n dc_La_law_817 rfl ?_
                                                          refine sx_aload_n dc_La_law_818 rfl ?_
                                                          refine sx_iload_n dc_La_law_819 rfl ?_
                                                          refine sx_iconst (v := (1 : Int32)) dc_La_law_820 (by decide) ?_
                                                          refine sx_iadd dc_La_law_821 ?_
                                                          obtain ⟨g462, hk⟩ := hk.g
                                                          refine sx_sld g462 dc_La_law_822 ?_
                                                          obtain ⟨g464, hk⟩ := hk.g
                                                          obtain ⟨q463, eq463, hk⟩ := hk.bind
                                                          refine sx_callV (d2 := d - 1) (mc2 := 0) (ms2 := 0) (as := [xI (Z.2 (a3 + (1 : Int32)).toNatClampNeg)]) mk_Ma_drawn rfl (x_rk (ci := 10) g464 rfl rfl) wM_La_115 mi_Ma_drawn me_Ma_drawn rfl (Nat.le_of_ble_eq_true rfl) (Nat.le_of_ble_eq_true rfl) dc_La_law_823 (by omega) (Nat.zero_le _) (Nat.zero_le _) ?_
                                                          refine t_Ma_drawn (by omega) ⟨q463, eq463, ?_⟩
                                                          refine sx_eq0 (lc2 := [some (xS 14), some (xR a1), some (xR a2), some (xI a3)]) (st2 := [xI q463.1]) rfl rfl ?_
                                                          refine sx_aload_n dc_La_law_826 rfl ?_
                                                          refine sx_aload_n dc_La_law_827 rfl ?_
                                                          refine sx_iload_n dc_La_law_828 rfl ?_
                                                          refine sx_iconst (v := (1 : Int32)) dc_La_law_829 (by decide) ?_
                                                          refine sx_iadd dc_La_law_830 ?_
                                                          obtain ⟨g465, hk⟩ := hk.g
                                                          refine sx_sld g465 dc_La_law_831 ?_
                                                          obtain ⟨g467, hk⟩ := hk.g
                                                          obtain ⟨q466, eq466, hk⟩ := hk.bind
                                                          refine sx_callV (d2 := d - 1) (mc2 := 0) (ms2 := 0) (as := [xI (Z.2 (a3 + (1 : Int32)).toNatClampNeg)]) mk_Mo_drawn rfl (x_rk (ci := 11) g467 rfl rfl) wM_La_118 mi_Mo_drawn me_Mo_drawn rfl (Nat.le_of_ble_eq_true rfl) (Nat.le_of_ble_eq_true rfl) dc_La_law_832 (by omega) (Nat.zero_le _) (Nat.zero_le _) ?_
                                                          refine t_Mo_drawn (by omega) ⟨q466, eq466, ?_⟩
                                                          refine sx_eq0 (lc2 := [some (xS 14), some (xR a1), some (xR a2), some (xI a3)]) (st2 := [xI q466.1, xI q463.1]) rfl rfl ?_
                                                          refine sx_icmp_eq (tgt := 1147) dc_La_law_835 (by decide) (fun c468 => ?_) (fun c468 => ?_)
                                                          · replace hk := hk.t c468
                                                            exact jk253 q466.2 hk _ _ (by omega) (by omega)
                                                          · replace hk := hk.f c468
                                                            refine sx_iconst (v := (0 : Int32)) dc_La_law_838 (by decide) ?_
                                                            exact sx_retT (v := (0 : Int32)) dc_La_law_839 (Or.inl ⟨rfl, rfl⟩) (by decide) hk.val
                                                        · replace hk := hk.f c469
                                                          by_cases c477 : ((Z.2 a3.toNatClampNeg) &&& (63 : Int32)) = (25 : Int32)
                                                          · replace hk := hk.t c477
                                                            refine sx_tabIn (off := 807) (tgt := 840) dc_La_law_33 (by rw [c477]; decide) (by rw [c477]; decide) (by rw [c477]; rfl) (by decide) ?_
                                                            refine sx_aload_n dc_La_law_840 rfl ?_
                                                            refine sx_aload_n dc_La_law_841 rfl ?_
                                                            refine sx_iload_n dc_La_law_842 rfl ?_
                                                            refine sx_iconst (v := (1 : Int32)) dc_La_law_843 (by decide) ?_
                                                            refine sx_iadd dc_La_law_844 ?_
                                                            obtain ⟨g470, hk⟩ := hk.g
                                                            refine sx_sld g470 dc_La_law_845 ?_
                                                            obtain ⟨g472, hk⟩ := hk.g
                                                            obtain ⟨q471, eq471, hk⟩ := hk.bind
                                                            refine sx_callV (d2 := d - 1) (mc2 := 0) (ms2 := 0) (as := [xI (Z.2 (a3 + (1 : Int32)).toNatClampNeg)]) mk_Ma_like rfl (x_rk (ci := 10) g472 rfl rfl) wM_La_119 mi_Ma_like me_Ma_like rfl (Nat.le_of_ble_eq_true rfl) (Nat.le_of_ble_eq_true rfl) dc_La_law_846 (by omega) (Nat.zero_le _) (Nat.zero_le _) ?_
                                                            refine t_Ma_like (by omega) ⟨q471, eq471, ?_⟩
                                                            refine sx_eq0 (lc2 := [some (xS 14), some (xR a1), some (xR a2), some (xI a3)]) (st2 := [xI q471.1]) rfl rfl ?_
                                                            refine sx_aload_n dc_La_law_849 rfl ?_
                                                            refine sx_aload_n dc_La_law_850 rfl ?_
                                                            refine sx_iload_n dc_La_law_851 rfl ?_
                                                            refine sx_iconst (v := (1 : Int32)) dc_La_law_852 (by decide) ?_
                                                            refine sx_iadd dc_La_law_853 ?_
                                                            obtain ⟨g473, hk⟩ := hk.g
                                                            refine sx_sld g473 dc_La_law_854 ?_
                                                            obtain ⟨g475, hk⟩ := hk.g
                                                            obtain ⟨q474, eq474, hk⟩ := hk.bind
                                                            refine sx_callV (d2 := d - 1) (mc2 := 0) (ms2 := 0) (as := [xI (Z.2 (a3 + (1 : Int32)).toNatClampNeg)]) mk_Mo_like rfl (x_rk (ci := 11) g475 rfl rfl) wM_La_122 mi_Mo_like me_Mo_like rfl (Nat.le_of_ble_eq_true rfl) (Nat.le_of_ble_eq_true rfl) dc_La_law_855 (by omega) (Nat.zero_le _) (Nat.zero_le _) ?_
                                                            refine t_Mo_like (by omega) ⟨q474, eq474, ?_⟩
                                                            refine sx_eq0 (lc2 := [some (xS 14), some (xR a1), some (xR a2), some (xI a3)]) (st2 := [xI q474.1, xI q471.1]) rfl rfl ?_
                                                            refine sx_icmp_eq (tgt := 1147) dc_La_law_858 (by decide) (fun c476 => ?_) (fun c476 => ?_)
                                                            · replace hk := hk.t c476
                                                              exact jk253 q474.2 hk _ _ (by omega) (by omega)
                                                            · replace hk := hk.f c476
                                                              refine sx_iconst (v := (0 : Int32)) dc_La_law_861 (by decide) ?_
                                                              exact sx_retT (v := (0 : Int32)) dc_La_law_862 (Or.inl ⟨rfl, rfl⟩) (by decide) hk.val
                                                          · replace hk := hk.f c477
                                                            by_cases c483 : ((Z.2 a3.toNatClampNeg) &&& (63 : Int32)) = (26 : Int32)
                                                            · replace hk := hk.t c483
                                                              refine sx_tabIn (off := 830) (tgt := 863) dc_La_law_33 (by rw [c483]; decide) (by rw [c483]; decide) (by rw [c483]; rfl) (by decide) ?_
                                                              refine sx_aload_n dc_La_law_863 rfl ?_
                                                              obtain ⟨g479, hk⟩ := hk.g
                                                              obtain ⟨q478, eq478, hk⟩ := hk.bind
                                                              refine sx_callV (d2 := d - 1) (mc2 := 0) (ms2 := 0) (as := []) mk_Ma_image rfl (x_rk (ci := 10) g479 rfl rfl) wM_La_123 mi_Ma_image me_Ma_image rfl (Nat.le_of_ble_eq_true rfl) (Nat.le_of_ble_eq_true rfl) dc_La_law_864 (by omega) (Nat.zero_le _) (Nat.zero_le _) ?_
                                                              refine t_Ma_image (by omega) ⟨q478, eq478, ?_⟩
                                                              refine sx_eq0 (lc2 := [some (xS 14), some (xR a1), some (xR a2), some (xI a3)]) (st2 := [xI q478.1]) rfl rfl ?_
                                                              refine sx_aload_n dc_La_law_867 rfl ?_
                                                              obtain ⟨g481, hk⟩ := hk.g
                                                              obtain ⟨q480, eq480, hk⟩ := hk.bind
                                                              refine sx_callV (d2 := d - 1) (mc2 := 0) (ms2 := 0) (as := []) mk_Mo_image rfl (x_rk (ci := 11) g481 rfl rfl) wM_La_126 mi_Mo_image me_Mo_image rfl (Nat.le_of_ble_eq_true rfl) (Nat.le_of_ble_eq_true rfl) dc_La_law_868 (by omega) (Nat.zero_le _) (Nat.zero_le _) ?_
                                                              refine t_Mo_image (by omega) ⟨q480, eq480, ?_⟩
                                                              refine sx_eq0 (lc2 := [some (xS 14), some (xR a1), some (xR a2), some (xI a3)]) (st2 := [xI q480.1, xI q478.1]) rfl rfl ?_
                                                              refine sx_icmp_eq (tgt := 1147) dc_La_law_871 (by decide) (fun c482 => ?_) (fun c482 => ?_)
                                                              · replace hk := hk.t c482
                                                                exact jk253 q480.2 hk _ _ (by omega) (by omega)
                                                              · replace hk := hk.f c482
                                                                refine sx_iconst (v := (0 : Int32)) dc_La_law_874 (by decide) ?_
                                                                exact sx_retT (v := (0 : Int32)) dc_La_law_875 (Or.inl ⟨rfl, rfl⟩) (by decide) hk.val
                                                            · replace hk := hk.f c483
                                                              by_cases c489 : ((Z.2 a3.toNatClampNeg) &&& (63 : Int32)) = (27 : Int32)
                                                              · replace hk := hk.t c489
                                                                refine sx_tabIn (off := 843) (tgt := 876) dc_La_law_33 (by rw [c489]; decide) (by rw [c489]; decide) (by rw [c489]; rfl) (by decide) ?_
                                                                refine sx_aload_n dc_La_law_876 rfl ?_
                                                                obtain ⟨g485, hk⟩ := hk.g
                                                                obtain ⟨q484, eq484, hk⟩ := hk.bind
                                                                refine sx_callV (d2 := d - 1) (mc2 := 0) (ms2 := 0) (as := []) mk_Ma_back rfl (x_rk (ci := 10) g485 rfl rfl) wM_La_127 mi_Ma_back me_Ma_back rfl (Nat.le_of_ble_eq_true rfl) (Nat.le_of_ble_eq_true rfl) dc_La_law_877 (by omega) (Nat.zero_le _) (Nat.zero_le _) ?_
                                                                refine t_Ma_back (by omega) ⟨q484, eq484, ?_⟩
                                                                refine sx_eq0 (lc2 := [some (xS 14), some (xR a1), some (xR a2), some (xI a3)]) (st2 := [xI q484.1]) rfl rfl ?_
                                                                refine sx_aload_n dc_La_law_880 rfl ?_
                                                                obtain ⟨g487, hk⟩ := hk.g
                                                                obtain ⟨q486, eq486, hk⟩ := hk.bind
                                                                refine sx_callV (d2 := d - 1) (mc2 := 0) (ms2 := 0) (as := []) mk_Mo_back rfl (x_rk (ci := 11) g487 rfl rfl) wM_La_130 mi_Mo_back me_Mo_back rfl (Nat.le_of_ble_eq_true rfl) (Nat.le_of_ble_eq_true rfl) dc_La_law_881 (by omega) (Nat.zero_le _) (Nat.zero_le _) ?_
                                                                refine t_Mo_back (by omega) ⟨q486, eq486, ?_⟩
                                                                refine sx_eq0 (lc2 := [some (xS 14), some (xR a1), some (xR a2), some (xI a3)]) (st2 := [xI q486.1, xI q484.1]) rfl rfl ?_
                                                                refine sx_icmp_eq (tgt := 1147) dc_La_law_884 (by decide) (fun c488 => ?_) (fun c488 => ?_)
                                                                · replace hk := hk.t c488
                                                                  exact jk253 q486.2 hk _ _ (by omega) (by omega)
                                                                · replace hk := hk.f c488
                                                                  refine sx_iconst (v := (0 : Int32)) dc_La_law_887 (by decide) ?_
                                                                  exact sx_retT (v := (0 : Int32)) dc_La_law_888 (Or.inl ⟨rfl, rfl⟩) (by decide) hk.val
                                                              · replace hk := hk.f c489
                                                                by_cases c497 : ((Z.2 a3.toNatClampNeg) &&& (63 : Int32)) = (28 : Int32)
                                                                · replace hk := hk.t c497
                                                                  refine sx_tabIn (off := 856) (tgt := 889) dc_La_law_33 (by rw [c497]; decide) (by rw [c497]; decide) (by rw [c497]; rfl) (by decide) ?_
                                                                  refine sx_aload_n dc_La_law_889 rfl ?_
                                                                  refine sx_aload_n dc_La_law_890 rfl ?_
                                                                  refine sx_iload_n dc_La_law_891 rfl ?_
                                                                  refine sx_iconst (v := (1 : Int32)) dc_La_law_892 (by decide) ?_
                                                                  refine sx_iadd dc_La_law_893 ?_
                                                                  obtain ⟨g490, hk⟩ := hk.g
                                                                  refine sx_sld g490 dc_La_law_894 ?_
                                                                  obtain ⟨g492, hk⟩ := hk.g
                                                                  obtain ⟨q491, eq491, hk⟩ := hk.bind
                                                                  refine sx_callV (d2 := d - 1) (mc2 := 0) (ms2 := 0) (as := [xI (Z.2 (a3 + (1 : Int32)).toNatClampNeg)]) mk_Ma_count rfl (x_rk (ci := 10) g492 rfl rfl) wM_La_131 mi_Ma_count me_Ma_count rfl (Nat.le_of_ble_eq_true rfl) (Nat.le_of_ble_eq_true rfl) dc_La_law_895 (by omega) (Nat.zero_le _) (Nat.zero_le _) ?_
                                                                  refine t_Ma_count (by omega) ⟨q491, eq491, ?_⟩
                                                                  refine sx_eq0 (lc2 := [some (xS 14), some (xR a1), some (xR a2), some (xI a3)]) (st2 := [xI q491.1]) rfl rfl ?_
                                                                  refine sx_aload_n dc_La_law_898 rfl ?_
                                                                  refine sx_aload_n dc_La_law_899 rfl ?_
                                                                  refine sx_iload_n dc_La_law_900 rfl ?_
                                                                  refine sx_iconst (v := (1 : Int32)) dc_La_law_901 (by decide) ?_
                                                                  refine sx_iadd dc_La_law_902 ?_
                                                                  obtain ⟨g493, hk⟩ := hk.g
                                                                  refine sx_sld g493 dc_La_law_903 ?_
                                                                  obtain ⟨g495, hk⟩ := hk.g
                                                                  obtain ⟨q494, eq494, hk⟩ := hk.bind
                                                                  refine sx_callV (d2 := d - 1) (mc2 := 0) (ms2 := 0) (as := [xI (Z.2 (a3 + (1 : Int32)).toNatClampNeg)]) mk_Mo_count rfl (x_rk (ci := 11) g495 rfl rfl) wM_La_134 mi_Mo_count me_Mo_count rfl (Nat.le_of_ble_eq_true rfl) (Nat.le_of_ble_eq_true rfl) dc_La_law_904 (by omega) (Nat.zero_le _) (Nat.zero_le _) ?_
                                                                  refine t_Mo_count (by omega) ⟨q494, eq494, ?_⟩
                                                                  refine sx_eq0 (lc2 := [some (xS 14), some (xR a1), some (xR a2), some (xI a3)]) (st2 := [xI q494.1, xI q491.1]) rfl rfl ?_
                                                                  refine sx_icmp_eq (tgt := 1147) dc_La_law_907 (by decide) (fun c496 => ?_) (fun c496 => ?_)
                                                                  · replace hk := hk.t c496
                                                                    exact jk253 q494.2 hk _ _ (by omega) (by omega)
                                                                  · replace hk := hk.f c496
                                                                    refine sx_iconst (v := (0 : Int32)) dc_La_law_910 (by decide) ?_
                                                                    exact sx_retT (v := (0 : Int32)) dc_La_law_911 (Or.inl ⟨rfl, rfl⟩) (by decide) hk.val
                                                                · replace hk := hk.f c497
                                                                  by_cases c509 : ((Z.2 a3.toNatClampNeg) &&& (63 : Int32)) = (29 : Int32)
                                                                  · replace hk := hk.t c509
                                                                    refine sx_tabIn (off := 879) (tgt := 912) dc_La_law_33 (by rw [c509]; decide) (by rw [c509]; decide) (by rw [c509]; rfl) (by decide) ?_
                                                                    refine sx_aload_n dc_La_law_912 rfl ?_
                                                                    refine sx_aload_n dc_La_law_913 rfl ?_
                                                                    refine sx_iload_n dc_La_law_914 rfl ?_
                                                                    refine sx_iconst (v := (1 : Int32)) dc_La_law_915 (by decide) ?_
                                                                    refine sx_iadd dc_La_law_916 ?_
                                                                    obtain ⟨g498, hk⟩ := hk.g
                                                                    refine sx_sld g498 dc_La_law_917 ?_
                                                                    refine sx_aload_n dc_La_law_918 rfl ?_
                                                                    refine sx_iload_n dc_La_law_919 rfl ?_
                                                                    refine sx_iconst (v := (2 : Int32)) dc_La_law_920 (by decide) ?_
                                                                    refine sx_iadd dc_La_law_921 ?_
                                                                    obtain ⟨g499, hk⟩ := hk.g
                                                                    refine sx_sld g499 dc_La_law_922 ?_
                                                                    refine sx_aload_n dc_La_law_923 rfl ?_
                                                                    refine sx_iload_n dc_La_law_924 rfl ?_
                                                                    refine sx_iconst (v := (3 : Int32)) dc_La_law_925 (by decide) ?_
                                                                    refine sx_iadd dc_La_law_926 ?_
                                                                    obtain ⟨g500, hk⟩ := hk.g
                                                                    refine sx_sld g500 dc_La_law_927 ?_
                                                                    obtain ⟨g502, hk⟩ := hk.g
                                                                    obtain ⟨q501, eq501, hk⟩ := hk.bind
                                                                    refine sx_callV (d2 := d - 1) (mc2 := 0) (ms2 := 0) (as := [xI (Z.2 (a3 + (1 : Int32)).toNatClampNeg), xI (Z.2 (a3 + (2 : Int32)).toNatClampNeg), xI (Z.2 (a3 + (3 : Int32)).toNatClampNeg)]) mk_Ma_sheet rfl (x_rk (ci := 10) g502 rfl rfl) wM_La_135 mi_Ma_sheet me_Ma_sheet rfl (Nat.le_of_ble_eq_true rfl) (Nat.le_of_ble_eq_true rfl) dc_La_law_928 (by omega) (Nat.zero_le _) (Nat.zero_le _) ?_
                                                                    refine t_Ma_sheet (by omega) ⟨q501, eq501, ?_⟩
                                                                    refine sx_eq0 (lc2 := [some (xS 14), some (xR a1), some (xR a2), some (xI a3)]) (st2 := [xI q501.1]) rfl rfl ?_
                                                                    refine sx_aload_n dc_La_law_931 rfl ?_
                                                                    refine sx_aload_n dc_La_law_932 rfl ?_
                                                                    refine sx_iload_n dc_La_law_933 rfl ?_
                                                                    refine sx_iconst (v := (1 : Int32)) dc_La_law_934 (by decide) ?_
                                                                    refine sx_iadd dc_La_law_935 ?_
                                                                    obtain ⟨g503, hk⟩ := hk.g
                                                                    refine sx_sld g503 dc_La_law_936 ?_
                                                                    refine sx_aload_n dc_La_law_937 rfl ?_
                                                                    refine sx_iload_n dc_La_law_938 rfl ?_
                                                                    refine sx_iconst (v := (2 : Int32)) dc_La_law_939 (by decide) ?_
                                                                    refine sx_iadd dc_La_law_940 ?_
                                                                    obtain ⟨g504, hk⟩ := hk.g
                                                                    refine sx_sld g504 dc_La_law_941 ?_
                                                                    refine sx_aload_n dc_La_law_942 rfl ?_
                                                                    refine sx_iload_n dc_La_law_943 rfl ?_
                                                                    refine sx_iconst (v := (3 : Int32)) dc_La_law_944 (by decide) ?_
                                                                    refine sx_iadd dc_La_law_945 ?_
                                                                    obtain ⟨g505, hk⟩ := hk.g
                                                                    refine sx_sld g505 dc_La_law_946 ?_
                                                                    obtain ⟨g507, hk⟩ := hk.g
                                                                    obtain ⟨q506, eq506, hk⟩ := hk.bind
                                                                    refine sx_callV (d2 := d - 1) (mc2 := 0) (ms2 := 0) (as := [xI (Z.2 (a3 + (1 : Int32)).toNatClampNeg), xI (Z.2 (a3 + (2 : Int32)).toNatClampNeg), xI (Z.2 (a3 + (3 : Int32)).toNatClampNeg)]) mk_Mo_sheet rfl (x_rk (ci := 11) g507 rfl rfl) wM_La_138 mi_Mo_sheet me_Mo_sheet rfl (Nat.le_of_ble_eq_true rfl) (Nat.le_of_ble_eq_true rfl) dc_La_law_947 (by omega) (Nat.zero_le _) (Nat.zero_le _) ?_
                                                                    refine t_Mo_sheet (by omega) ⟨q506, eq506, ?_⟩
                                                                    refine sx_eq0 (lc2 := [some (xS 14), some (xR a1), some (xR a2), some (xI a3)]) (st2 := [xI q506.1, xI q501.1]) rfl rfl ?_
                                                                    refine sx_icmp_eq (tgt := 1147) dc_La_law_950 (by decide) (fun c508 => ?_) (fun c508 => ?_)
                                                                    · replace hk := hk.t c508
                                                                      exact jk253 q506.2 hk _ _ (by omega) (by omega)
                                                                    · replace hk := hk.f c508
                                                                      refine sx_iconst (v := (0 : Int32)) dc_La_law_953 (by decide) ?_
                                                                      exact sx_retT (v := (0 : Int32)) dc_La_law_954 (Or.inl ⟨rfl, rfl⟩) (by decide) hk.val
                                                                  · replace hk := hk.f c509
                                                                    by_cases c521 : ((Z.2 a3.toNatClampNeg) &&& (63 : Int32)) = (30 : Int32)
                                                                    · replace hk := hk.t c521
                                                                      refine sx_tabIn (off := 922) (tgt := 955) dc_La_law_33 (by rw [c521]; decide) (by rw [c521]; decide) (by rw [c521]; rfl) (by decide) ?_
                                                                      refine sx_aload_n dc_La_law_955 rfl ?_
                                                                      refine sx_aload_n dc_La_law_956 rfl ?_
                                                                      refine sx_iload_n dc_La_law_957 rfl ?_
                                                                      refine sx_iconst (v := (1 : Int32)) dc_La_law_958 (by decide) ?_
                                                                      refine sx_iadd dc_La_law_959 ?_
                                                                      obtain ⟨g510, hk⟩ := hk.g
                                                                      refine sx_sld g510 dc_La_law_960 ?_
                                                                      refine sx_aload_n dc_La_law_961 rfl ?_
                                                                      refine sx_iload_n dc_La_law_962 rfl ?_
                                                                      refine sx_iconst (v := (2 : Int32)) dc_La_law_963 (by decide) ?_
                                                                      refine sx_iadd dc_La_law_964 ?_
                                                                      obtain ⟨g511, hk⟩ := hk.g
                                                                      refine sx_sld g511 dc_La_law_965 ?_
                                                                      refine sx_aload_n dc_La_law_966 rfl ?_
                                                                      refine sx_iload_n dc_La_law_967 rfl ?_
                                                                      refine sx_iconst (v := (3 : Int32)) dc_La_law_968 (by decide) ?_
                                                                      refine sx_iadd dc_La_law_969 ?_
                                                                      obtain ⟨g512, hk⟩ := hk.g
                                                                      refine sx_sld g512 dc_La_law_970 ?_
                                                                      obtain ⟨g514, hk⟩ := hk.g
                                                                      obtain ⟨q513, eq513, hk⟩ := hk.bind
                                                                      refine sx_callV (d2 := d - 1) (mc2 := 0) (ms2 := 0) (as := [xI (Z.2 (a3 + (1 : Int32)).toNatClampNeg), xI (Z.2 (a3 + (2 : Int32)).toNatClampNeg), xI (Z.2 (a3 + (3 : Int32)).toNatClampNeg)]) mk_Ma_cell rfl (x_rk (ci := 10) g514 rfl rfl) wM_La_139 mi_Ma_cell me_Ma_cell rfl (Nat.le_of_ble_eq_true rfl) (Nat.le_of_ble_eq_true rfl) dc_La_law_971 (by omega) (Nat.zero_le _) (Nat.zero_le _) ?_
                                                                      refine t_Ma_cell (by omega) ⟨q513, eq513, ?_⟩
                                                                      refine sx_eq0 (lc2 := [some (xS 14), some (xR a1), some (xR a2), some (xI a3)]) (st2 := [xI q513.1]) rfl rfl ?_
                                                                      refine sx_aload_n dc_La_law_974 rfl ?_
                                                                      refine sx_aload_n dc_La_law_975 rfl ?_
                                                                      refine sx_iload_n dc_La_law_976 rfl ?_
                                                                      refine sx_iconst (v := (1 : Int32)) dc_La_law_977 (by decide) ?_
                                                                      refine sx_iadd dc_La_law_978 ?_
                                                                      obtain ⟨g515, hk⟩ := hk.g
                                                                      refine sx_sld g515 dc_La_law_979 ?_
                                                                      refine sx_aload_n dc_La_law_980 rfl ?_
                                                                      refine sx_iload_n dc_La_law_981 rfl ?_
                                                                      refine sx_iconst (v := (2 : Int32)) dc_La_law_982 (by decide) ?_
                                                                      refine sx_iadd dc_La_law_983 ?_
                                                                      obtain ⟨g516, hk⟩ := hk.g
                                                                      refine sx_sld g516 dc_La_law_984 ?_
                                                                      refine sx_aload_n dc_La_law_985 rfl ?_
                                                                      refine sx_iload_n dc_La_law_986 rfl ?_
                                                                      refine sx_iconst (v := (3 : Int32)) dc_La_law_987 (by decide) ?_
                                                                      refine sx_iadd dc_La_law_988 ?_
                                                                      obtain ⟨g517, hk⟩ := hk.g
                                                                      refine sx_sld g517 dc_La_law_989 ?_
                                                                      obtain ⟨g519, hk⟩ := hk.g
                                                                      obtain ⟨q518, eq518, hk⟩ := hk.bind
                                                                      refine sx_callV (d2 := d - 1) (mc2 := 0) (ms2 := 0) (as := [xI (Z.2 (a3 + (1 : Int32)).toNatClampNeg), xI (Z.2 (a3 + (2 : Int32)).toNatClampNeg), xI (Z.2 (a3 + (3 : Int32)).toNatClampNeg)]) mk_Mo_cell rfl (x_rk (ci := 11) g519 rfl rfl) wM_La_142 mi_Mo_cell me_Mo_cell rfl (Nat.le_of_ble_eq_true rfl) (Nat.le_of_ble_eq_true rfl) dc_La_law_990 (by omega) (Nat.zero_le _) (Nat.zero_le _) ?_
                                                                      refine t_Mo_cell (by omega) ⟨q518, eq518, ?_⟩
                                                                      refine sx_eq0 (lc2 := [some (xS 14), some (xR a1), some (xR a2), some (xI a3)]) (st2 := [xI q518.1, xI q513.1]) rfl rfl ?_
                                                                      refine sx_icmp_eq (tgt := 1147) dc_La_law_993 (by decide) (fun c520 => ?_) (fun c520 => ?_)
                                                                      · replace hk := hk.t c520
                                                                        exact jk253 q518.2 hk _ _ (by omega) (by omega)
                                                                      · replace hk := hk.f c520
                                                                        refine sx_iconst (v := (0 : Int32)) dc_La_law_996 (by decide) ?_
                                                                        exact sx_retT (v := (0 : Int32)) dc_La_law_997 (Or.inl ⟨rfl, rfl⟩) (by decide) hk.val
                                                                    · replace hk := hk.f c521
                                                                      by_cases c537 : ((Z.2 a3.toNatClampNeg) &&& (63 : Int32)) = (31 : Int32)
                                                                      · replace hk := hk.t c537
                                                                        refine sx_tabIn (off := 965) (tgt := 998) dc_La_law_33 (by rw [c537]; decide) (by rw [c537]; decide) (by rw [c537]; rfl) (by decide) ?_
                                                                        refine sx_aload_n dc_La_law_998 rfl ?_
                                                                        refine sx_aload_n dc_La_law_999 rfl ?_
                                                                        refine sx_iload_n dc_La_law_1000 rfl ?_
                                                                        refine sx_iconst (v := (1 : Int32)) dc_La_law_1001 (by decide) ?_
                                                                        refine sx_iadd dc_La_law_1002 ?_
                                                                        obtain ⟨g522, hk⟩ := hk.g
                                                                        refine sx_sld g522 dc_La_law_1003 ?_
                                                                        refine sx_aload_n dc_La_law_1004 rfl ?_
                                                                        refine sx_iload_n dc_La_law_1005 rfl ?_
                                                                        refine sx_iconst (v := (2 : Int32)) dc_La_law_1006 (by decide) ?_
                                                                        refine sx_iadd dc_La_law_1007 ?_
                                                                        obtain ⟨g523, hk⟩ := hk.g
                                                                        refine sx_sld g523 dc_La_law_1008 ?_
                                                                        refine sx_aload_n dc_La_law_1009 rfl ?_
                                                                        refine sx_iload_n dc_La_law_1010 rfl ?_
                                                                        refine sx_iconst (v := (3 : Int32)) dc_La_law_1011 (by decide) ?_
                                                                        refine sx_iadd dc_La_law_1012 ?_
                                                                        obtain ⟨g524, hk⟩ := hk.g
                                                                        refine sx_sld g524 dc_La_law_1013 ?_
                                                                        refine sx_aload_n dc_La_law_1014 rfl ?_
                                                                        refine sx_iload_n dc_La_law_1015 rfl ?_
                                                                        refine sx_iconst (v := (4 : Int32)) dc_La_law_1016 (by decide) ?_
                                                                        refine sx_iadd dc_La_law_1017 ?_
                                                                        obtain ⟨g525, hk⟩ := hk.g
                                                                        refine sx_sld g525 dc_La_law_1018 ?_
                                                                        refine sx_aload_n dc_La_law_1019 rfl ?_
                                                                        refine sx_iload_n dc_La_law_1020 rfl ?_
                                                                        refine sx_iconst (v := (5 : Int32)) dc_La_law_1021 (by decide) ?_
                                                                        refine sx_iadd dc_La_law_1022 ?_
                                                                        obtain ⟨g526, hk⟩ := hk.g
                                                                        refine sx_sld g526 dc_La_law_1023 ?_
                                                                        obtain ⟨g528, hk⟩ := hk.g
                                                                        obtain ⟨q527, eq527, hk⟩ := hk.bind
                                                                        refine sx_callV (d2 := d - 1) (mc2 := 0) (ms2 := 0) (as := [xI (Z.2 (a3 + (1 : Int32)).toNatClampNeg), xI (Z.2 (a3 + (2 : Int32)).toNatClampNeg), xI (Z.2 (a3 + (3 : Int32)).toNatClampNeg), xI (Z.2 (a3 + (4 : Int32)).toNatClampNeg), xI (Z.2 (a3 + (5 : Int32)).toNatClampNeg)]) mk_Ma_copy rfl (x_rk (ci := 10) g528 rfl rfl) wM_La_143 mi_Ma_copy me_Ma_copy rfl (Nat.le_of_ble_eq_true rfl) (Nat.le_of_ble_eq_true rfl) dc_La_law_1024 (by omega) (Nat.zero_le _) (Nat.zero_le _) ?_
                                                                        refine t_Ma_copy (by omega) ⟨q527, eq527, ?_⟩
                                                                        refine sx_eq0 (lc2 := [some (xS 14), some (xR a1), some (xR a2), some (xI a3)]) (st2 := [xI q527.1]) rfl rfl ?_
                                                                        refine sx_aload_n dc_La_law_1027 rfl ?_
                                                                        refine sx_aload_n dc_La_law_1028 rfl ?_
                                                                        refine sx_iload_n dc_La_law_1029 rfl ?_
                                                                        refine sx_iconst (v := (1 : Int32)) dc_La_law_1030 (by decide) ?_
                                                                        refine sx_iadd dc_La_law_1031 ?_
                                                                        obtain ⟨g529, hk⟩ := hk.g
                                                                        refine sx_sld g529 dc_La_law_1032 ?_
                                                                        refine sx_aload_n dc_La_law_1033 rfl ?_
                                                                        refine sx_iload_n dc_La_law_1034 rfl ?_
                                                                        refine sx_iconst (v := (2 : Int32)) dc_La_law_1035 (by decide) ?_
                                                                        refine sx_iadd dc_La_law_1036 ?_
                                                                        obtain ⟨g530, hk⟩ := hk.g
                                                                        refine sx_sld g530 dc_La_law_1037 ?_
                                                                        refine sx_aload_n dc_La_law_1038 rfl ?_
                                                                        refine sx_iload_n dc_La_law_1039 rfl ?_
                                                                        refine sx_iconst (v := (3 : Int32)) dc_La_law_1040 (by decide) ?_
                                                                        refine sx_iadd dc_La_law_1041 ?_
                                                                        obtain ⟨g531, hk⟩ := hk.g
                                                                        refine sx_sld g531 dc_La_law_1042 ?_
                                                                        refine sx_aload_n dc_La_law_1043 rfl ?_
                                                                        refine sx_iload_n dc_La_law_1044 rfl ?_
                                                                        refine sx_iconst (v := (4 : Int32)) dc_La_law_1045 (by decide) ?_
                                                                        refine sx_iadd dc_La_law_1046 ?_
                                                                        obtain ⟨g532, hk⟩ := hk.g
                                                                        refine sx_sld g532 dc_La_law_1047 ?_
                                                                        refine sx_aload_n dc_La_law_1048 rfl ?_
                                                                        refine sx_iload_n dc_La_law_1049 rfl ?_
                                                                        refine sx_iconst (v := (5 : Int32)) dc_La_law_1050 (by decide) ?_
                                                                        refine sx_iadd dc_La_law_1051 ?_
                                                                        obtain ⟨g533, hk⟩ := hk.g
                                                                        refine sx_sld g533 dc_La_law_1052 ?_
                                                                        obtain ⟨g535, hk⟩ := hk.g
                                                                        obtain ⟨q534, eq534, hk⟩ := hk.bind
                                                                        refine sx_callV (d2 := d - 1) (mc2 := 0) (ms2 := 0) (as := [xI (Z.2 (a3 + (1 : Int32)).toNatClampNeg), xI (Z.2 (a3 + (2 : Int32)).toNatClampNeg), xI (Z.2 (a3 + (3 : Int32)).toNatClampNeg), xI (Z.2 (a3 + (4 : Int32)).toNatClampNeg), xI (Z.2 (a3 + (5 : Int32)).toNatClampNeg)]) mk_Mo_copy rfl (x_rk (ci := 11) g535 rfl rfl) wM_La_147 mi_Mo_copy me_Mo_copy rfl (Nat.le_of_ble_eq_true rfl) (Nat.le_of_ble_eq_true rfl) dc_La_law_1053 (by omega) (Nat.zero_le _) (Nat.zero_le _) ?_
                                                                        refine t_Mo_copy (by omega) ⟨q534, eq534, ?_⟩
                                                                        refine sx_eq0 (lc2 := [some (xS 14), some (xR a1), some (xR a2), some (xI a3)]) (st2 := [xI q534.1, xI q527.1]) rfl rfl ?_
                                                                        refine sx_icmp_eq (tgt := 1147) dc_La_law_1056 (by decide) (fun c536 => ?_) (fun c536 => ?_)
                                                                        · replace hk := hk.t c536
                                                                          exact jk253 q534.2 hk _ _ (by omega) (by omega)
                                                                        · replace hk := hk.f c536
                                                                          refine sx_iconst (v := (0 : Int32)) dc_La_law_1059 (by decide) ?_
                                                                          exact sx_retT (v := (0 : Int32)) dc_La_law_1060 (Or.inl ⟨rfl, rfl⟩) (by decide) hk.val
                                                                      · replace hk := hk.f c537
                                                                        by_cases c551 : ((Z.2 a3.toNatClampNeg) &&& (63 : Int32)) = (32 : Int32)
                                                                        · replace hk := hk.t c551
                                                                          refine sx_tabIn (off := 1028) (tgt := 1061) dc_La_law_33 (by rw [c551]; decide) (by rw [c551]; decide) (by rw [c551]; rfl) (by decide) ?_
                                                                          refine sx_aload_n dc_La_law_1061 rfl ?_
                                                                          refine sx_aload_n dc_La_law_1062 rfl ?_
                                                                          refine sx_iload_n dc_La_law_1063 rfl ?_
                                                                          refine sx_iconst (v := (1 : Int32)) dc_La_law_1064 (by decide) ?_
                                                                          refine sx_iadd dc_La_law_1065 ?_
                                                                          obtain ⟨g538, hk⟩ := hk.g
                                                                          refine sx_sld g538 dc_La_law_1066 ?_
                                                                          refine sx_aload_n dc_La_law_1067 rfl ?_
                                                                          refine sx_iload_n dc_La_law_1068 rfl ?_
                                                                          refine sx_iconst (v := (2 : Int32)) dc_La_law_1069 (by decide) ?_
                                                                          refine sx_iadd dc_La_law_1070 ?_
                                                                          obtain ⟨g539, hk⟩ := hk.g
                                                                          refine sx_sld g539 dc_La_law_1071 ?_
                                                                          refine sx_aload_n dc_La_law_1072 rfl ?_
                                                                          refine sx_iload_n dc_La_law_1073 rfl ?_
                                                                          refine sx_iconst (v := (3 : Int32)) dc_La_law_1074 (by decide) ?_
                                                                          refine sx_iadd dc_La_law_1075 ?_
                                                                          obtain ⟨g540, hk⟩ := hk.g
                                                                          refine sx_sld g540 dc_La_law_1076 ?_
                                                                          refine sx_aload_n dc_La_law_1077 rfl ?_
                                                                          refine sx_iload_n dc_La_law_1078 rfl ?_
                                                                          refine sx_iconst (v := (4 : Int32)) dc_La_law_1079 (by decide) ?_
                                                                          refine sx_iadd dc_La_law_1080 ?_
                                                                          obtain ⟨g541, hk⟩ := hk.g
                                                                          refine sx_sld g541 dc_La_law_1081 ?_
                                                                          obtain ⟨g543, hk⟩ := hk.g
                                                                          obtain ⟨q542, eq542, hk⟩ := hk.bind
                                                                          refine sx_callV (d2 := d - 1) (mc2 := 0) (ms2 := 0) (as := [xI (Z.2 (a3 + (1 : Int32)).toNatClampNeg), xI (Z.2 (a3 + (2 : Int32)).toNatClampNeg), xI (Z.2 (a3 + (3 : Int32)).toNatClampNeg), xI (Z.2 (a3 + (4 : Int32)).toNatClampNeg)]) mk_Ma_pairs rfl (x_rk (ci := 10) g543 rfl rfl) wM_La_148 mi_Ma_pairs me_Ma_pairs rfl (Nat.le_of_ble_eq_true rfl) (Nat.le_of_ble_eq_true rfl) dc_La_law_1082 (by omega) (Nat.zero_le _) (Nat.zero_le _) ?_
                                                                          refine t_Ma_pairs (by omega) ⟨q542, eq542, ?_⟩
                                                                          refine sx_eq0 (lc2 := [some (xS 14), some (xR a1), some (xR a2), some (xI a3)]) (st2 := [xI q542.1]) rfl rfl ?_
                                                                          refine sx_aload_n dc_La_law_1085 rfl ?_
                                                                          refine sx_aload_n dc_La_law_1086 rfl ?_
                                                                          refine sx_iload_n dc_La_law_1087 rfl ?_
                                                                          refine sx_iconst (v := (1 : Int32)) dc_La_law_1088 (by decide) ?_
                                                                          refine sx_iadd dc_La_law_1089 ?_
                                                                          obtain ⟨g544, hk⟩ := hk.g
                                                                          refine sx_sld g544 dc_La_law_1090 ?_
                                                                          refine sx_aload_n dc_La_law_1091 rfl ?_
                                                                          refine sx_iload_n dc_La_law_1092 rfl ?_
                                                                          refine sx_iconst (v := (2 : Int32)) dc_La_law_1093 (by decide) ?_
                                                                          refine sx_iadd dc_La_law_1094 ?_
                                                                          obtain ⟨g545, hk⟩ := hk.g
                                                                          refine sx_sld g545 dc_La_law_1095 ?_
                                                                          refine sx_aload_n dc_La_law_1096 rfl ?_
                                                                          refine sx_iload_n dc_La_law_1097 rfl ?_
                                                                          refine sx_iconst (v := (3 : Int32)) dc_La_law_1098 (by decide) ?_
                                                                          refine sx_iadd dc_La_law_1099 ?_
                                                                          obtain ⟨g546, hk⟩ := hk.g
                                                                          refine sx_sld g546 dc_La_law_1100 ?_
                                                                          refine sx_aload_n dc_La_law_1101 rfl ?_
                                                                          refine sx_iload_n dc_La_law_1102 rfl ?_
                                                                          refine sx_iconst (v := (4 : Int32)) dc_La_law_1103 (by decide) ?_
                                                                          refine sx_iadd dc_La_law_1104 ?_
                                                                          obtain ⟨g547, hk⟩ := hk.g
                                                                          refine sx_sld g547 dc_La_law_1105 ?_
                                                                          obtain ⟨g549, hk⟩ := hk.g
                                                                          obtain ⟨q548, eq548, hk⟩ := hk.bind
                                                                          refine sx_callV (d2 := d - 1) (mc2 := 0) (ms2 := 0) (as := [xI (Z.2 (a3 + (1 : Int32)).toNatClampNeg), xI (Z.2 (a3 + (2 : Int32)).toNatClampNeg), xI (Z.2 (a3 + (3 : Int32)).toNatClampNeg), xI (Z.2 (a3 + (4 : Int32)).toNatClampNeg)]) mk_Mo_pairs rfl (x_rk (ci := 11) g549 rfl rfl) wM_La_151 mi_Mo_pairs me_Mo_pairs rfl (Nat.le_of_ble_eq_true rfl) (Nat.le_of_ble_eq_true rfl) dc_La_law_1106 (by omega) (Nat.zero_le _) (Nat.zero_le _) ?_
                                                                          refine t_Mo_pairs (by omega) ⟨q548, eq548, ?_⟩
                                                                          refine sx_eq0 (lc2 := [some (xS 14), some (xR a1), some (xR a2), some (xI a3)]) (st2 := [xI q548.1, xI q542.1]) rfl rfl ?_
                                                                          refine sx_icmp_eq (tgt := 1147) dc_La_law_1109 (by decide) (fun c550 => ?_) (fun c550 => ?_)
                                                                          · replace hk := hk.t c550
                                                                            exact jk253 q548.2 hk _ _ (by omega) (by omega)
                                                                          · replace hk := hk.f c550
                                                                            refine sx_iconst (v := (0 : Int32)) dc_La_law_1112 (by decide) ?_
                                                                            exact sx_retT (v := (0 : Int32)) dc_La_law_1113 (Or.inl ⟨rfl, rfl⟩) (by decide) hk.val
                                                                        · replace hk := hk.f c551
                                                                          by_cases c561 : ((Z.2 a3.toNatClampNeg) &&& (63 : Int32)) = (33 : Int32)
                                                                          · replace hk := hk.t c561
                                                                            refine sx_tabIn (off := 1081) (tgt := 1114) dc_La_law_33 (by rw [c561]; decide) (by rw [c561]; decide) (by rw [c561]; rfl) (by decide) ?_
                                                                            refine sx_aload_n dc_La_law_1114 rfl ?_
                                                                            refine sx_aload_n dc_La_law_1115 rfl ?_
                                                                            refine sx_iload_n dc_La_law_1116 rfl ?_
                                                                            refine sx_iconst (v := (1 : Int32)) dc_La_law_1117 (by decide) ?_
                                                                            refine sx_iadd dc_La_law_1118 ?_
                                                                            obtain ⟨g552, hk⟩ := hk.g
                                                                            refine sx_sld g552 dc_La_law_1119 ?_
                                                                            refine sx_aload_n dc_La_law_1120 rfl ?_
                                                                            refine sx_iload_n dc_La_law_1121 rfl ?_
                                                                            refine sx_iconst (v := (2 : Int32)) dc_La_law_1122 (by decide) ?_
                                                                            refine sx_iadd dc_La_law_1123 ?_
                                                                            obtain ⟨g553, hk⟩ := hk.g
                                                                            refine sx_sld g553 dc_La_law_1124 ?_
                                                                            obtain ⟨g555, hk⟩ := hk.g
                                                                            obtain ⟨q554, eq554, hk⟩ := hk.bind
                                                                            refine sx_callV (d2 := d - 1) (mc2 := 0) (ms2 := 0) (as := [xI (Z.2 (a3 + (1 : Int32)).toNatClampNeg), xI (Z.2 (a3 + (2 : Int32)).toNatClampNeg)]) mk_Ma_taken rfl (x_rk (ci := 10) g555 rfl rfl) wM_La_152 mi_Ma_taken me_Ma_taken rfl (Nat.le_of_ble_eq_true rfl) (Nat.le_of_ble_eq_true rfl) dc_La_law_1125 (by omega) (Nat.zero_le _) (Nat.zero_le _) ?_
                                                                            refine t_Ma_taken (by omega) ⟨q554, eq554, ?_⟩
                                                                            refine sx_eq0 (lc2 := [some (xS 14), some (xR a1), some (xR a2), some (xI a3)]) (st2 := [xI q554.1]) rfl rfl ?_
                                                                            refine sx_aload_n dc_La_law_1128 rfl ?_
                                                                            refine sx_aload_n dc_La_law_1129 rfl ?_
                                                                            refine sx_iload_n dc_La_law_1130 rfl ?_
                                                                            refine sx_iconst (v := (1 : Int32)) dc_La_law_1131 (by decide) ?_
                                                                            refine sx_iadd dc_La_law_1132 ?_
                                                                            obtain ⟨g556, hk⟩ := hk.g
                                                                            refine sx_sld g556 dc_La_law_1133 ?_
                                                                            refine sx_aload_n dc_La_law_1134 rfl ?_
                                                                            refine sx_iload_n dc_La_law_1135 rfl ?_
                                                                            refine sx_iconst (v := (2 : Int32)) dc_La_law_1136 (by decide) ?_
                                                                            refine sx_iadd dc_La_law_1137 ?_
                                                                            obtain ⟨g557, hk⟩ := hk.g
                                                                            refine sx_sld g557 dc_La_law_1138 ?_
                                                                            obtain ⟨g559, hk⟩ := hk.g
                                                                            obtain ⟨q558, eq558, hk⟩ := hk.bind
                                                                            refine sx_callV (d2 := d - 1) (mc2 := 0) (ms2 := 0) (as := [xI (Z.2 (a3 + (1 : Int32)).toNatClampNeg), xI (Z.2 (a3 + (2 : Int32)).toNatClampNeg)]) mk_Mo_taken rfl (x_rk (ci := 11) g559 rfl rfl) wM_La_155 mi_Mo_taken me_Mo_taken rfl (Nat.le_of_ble_eq_true rfl) (Nat.le_of_ble_eq_true rfl) dc_La_law_1139 (by omega) (Nat.zero_le _) (Nat.zero_le _) ?_
                                                                            refine t_Mo_taken (by omega) ⟨q558, eq558, ?_⟩
                                                                            refine sx_eq0 (lc2 := [some (xS 14), some (xR a1), some (xR a2), some (xI a3)]) (st2 := [xI q558.1, xI q554.1]) rfl rfl ?_
                                                                            refine sx_icmp_eq (tgt := 1147) dc_La_law_1142 (by decide) (fun c560 => ?_) (fun c560 => ?_)
                                                                            · replace hk := hk.t c560
                                                                              exact jk253 q558.2 hk _ _ (by omega) (by omega)
                                                                            · replace hk := hk.f c560
                                                                              refine sx_iconst (v := (0 : Int32)) dc_La_law_1145 (by decide) ?_
                                                                              exact sx_retT (v := (0 : Int32)) dc_La_law_1146 (Or.inl ⟨rfl, rfl⟩) (by decide) hk.val
                                                                          · replace hk := hk.f c561
                                                                            refine sx_tabOut (tgt := 1147) dc_La_law_33 (sw_out (fun k h1 h2 => ?_)) (by decide) ?_
                                                                            · have h3 : k = 0 ∨ k = 1 ∨ k = 2 ∨ k = 3 ∨ k = 4 ∨ k = 5 ∨ k = 6 ∨ k = 7 ∨ k = 8 ∨ k = 9 ∨ k = 10 ∨ k = 11 ∨ k = 12 ∨ k = 13 ∨ k = 14 ∨ k = 15 ∨ k = 16 ∨ k = 17 ∨ k = 18 ∨ k = 19 ∨ k = 20 ∨ k = 21 ∨ k = 22 ∨ k = 23 ∨ k = 24 ∨ k = 25 ∨ k = 26 ∨ k = 27 ∨ k = 28 ∨ k = 29 ∨ k = 30 ∨ k = 31 ∨ k = 32 ∨ k = 33 := by omega
                                                                              rcases h3 with rfl | rfl | rfl | rfl | rfl | rfl | rfl | rfl | rfl | rfl | rfl | rfl | rfl | rfl | rfl | rfl | rfl | rfl | rfl | rfl | rfl | rfl | rfl | rfl | rfl | rfl | rfl | rfl | rfl | rfl | rfl | rfl | rfl | rfl
                                                                              · exact c261
                                                                              · exact c273
                                                                              · exact c283
                                                                              · exact c293
                                                                              · exact c301
                                                                              · exact c315
                                                                              · exact c323
                                                                              · exact c329
                                                                              · exact c337
                                                                              · exact c345
                                                                              · exact c355
                                                                              · exact c361
                                                                              · exact c369
                                                                              · exact c377
                                                                              · exact c385
                                                                              · exact c395
                                                                              · exact c403
                                                                              · exact c409
                                                                              · exact c417
                                                                              · exact c427
                                                                              · exact c435
                                                                              · exact c443
                                                                              · exact c451
                                                                              · exact c461
                                                                              · exact c469
                                                                              · exact c477
                                                                              · exact c483
                                                                              · exact c489
                                                                              · exact c497
                                                                              · exact c509
                                                                              · exact c521
                                                                              · exact c537
                                                                              · exact c551
                                                                              · exact c561
                                                                            · exact jk253 h hk _ _ (by omega) (by omega)
theorem t_La_law {l : Launch} {Z : xZ} {d mc ms : Nat} {Ph : Option xV → xH → Prop}  {h : xH} (hd : 388 ≤ d) (hmc : 6050 ≤ mc) (hms : 807012 ≤ ms) (hk : OK (f_La_law Z h) (fun q => Ph (some (xI q.1)) q.2)) : Sx l Z d mc ms M_La_law 0 (x_en [xS 14] 4) [] h Ph := by
  unfold f_La_law at hk
  refine sx_eq (lc2 := [some (xS 14), none, none, none]) rfl rfl ?_
  refine sx_newN (ci := 10) (N := 15) rfl rfl wC_La_7 wI_Ma wT_Ma dc_La_law_0 (by omega) (by omega) ?_
  obtain ⟨h244, eh244, hk⟩ := hk.h
  refine sx_hp eh244 ?_
  have g245 : hK h244 (hN h) = 10 := by rw [eh244]; exact (show hK (hNw h 10 0) (hN h) = 10 from if_pos rfl)
  refine sx_dup dc_La_law_3 rfl ?_
  obtain ⟨q246, eq246, hk⟩ := hk.bind
  refine sx_callI (d2 := d - 1) (mc2 := 34) (ms2 := 1483) (as := []) mk_Ma_init rfl wM_La_9 mi_Ma_init ⟨rfl, rfl⟩ g245 (by decide) rfl (Nat.le_of_ble_eq_true rfl) (Nat.le_of_ble_eq_true rfl) dc_La_law_4 (by omega) (by omega) (by omega) ?_
  refine t_Ma_init (by omega) (by omega) (by omega) ⟨q246, eq246, ?_⟩
  refine sx_eq (lc2 := [some (xS 14), none, none, none]) (st2 := [xR (hN h)]) rfl rfl ?_
  refine sx_astore_n dc_La_law_7 (by decide) (sx_eq (lc2 := [some (xS 14), some (xR (hN h)), none, none]) rfl rfl ?_)
  refine sx_newN (ci := 11) (N := 45) rfl rfl wC_La_10 wI_Mo wT_Mo dc_La_law_8 (by omega) (by omega) ?_
  obtain ⟨h247, eh247, hk⟩ := hk.h
  refine sx_hp eh247 ?_
  have g248 : hK h247 (hN q246.2) = 11 := by rw [eh247]; exact (show hK (hNw q246.2 11 0) (hN q246.2) = 11 from if_pos rfl)
  refine sx_dup dc_La_law_11 rfl ?_
  obtain ⟨q249, eq249, hk⟩ := hk.bind
  refine sx_callI (d2 := d - 1) (mc2 := 14) (ms2 := 1469) (as := []) mk_Mo_init rfl wM_La_12 mi_Mo_init ⟨rfl, rfl⟩ g248 (by decide) rfl (Nat.le_of_ble_eq_true rfl) (Nat.le_of_ble_eq_true rfl) dc_La_law_12 (by omega) (by omega) (by omega) ?_
  refine t_Mo_init (by omega) (by omega) (by omega) ⟨q249, eq249, ?_⟩
  refine sx_eq (lc2 := [some (xS 14), some (xR (hN h)), none, none]) (st2 := [xR (hN q246.2)]) rfl rfl ?_
  refine sx_astore_n dc_La_law_15 (by decide) (sx_eq (lc2 := [some (xS 14), some (xR (hN h)), some (xR (hN q246.2)), none]) rfl rfl ?_)
  refine sx_iconst (v := (0 : Int32)) dc_La_law_16 (by decide) ?_
  refine sx_istore_n dc_La_law_17 (by decide) (sx_eq (lc2 := [some (xS 14), some (xR (hN h)), some (xR (hN q246.2)), some (xI (0 : Int32))]) rfl rfl ?_)
  refine t_La_law_L18 (by omega) _ (by unfold fu; omega) (by unfold fu; omega) _ _ _ hk (fun v562 h563 hk => ?_)
  refine sx_iconst (v := (1 : Int32)) dc_La_law_1153 (by decide) ?_
  exact sx_retT (v := (1 : Int32)) dc_La_law_1154 (Or.inl ⟨rfl, rfl⟩) (by decide) hk.val

theorem dc_Mo_byteAt_0 : decode M_Mo_byteAt.2.1 0 = .ok (.iload_n 1, 1) := by decide +kernel
theorem dc_Mo_byteAt_1 : decode M_Mo_byteAt.2.1 1 = .ok (.aload_n 0, 1) := by decide +kernel
theorem dc_Mo_byteAt_2 : decode M_Mo_byteAt.2.1 2 = .ok (.getfield 129, 3) := by decide +kernel
theorem dc_Mo_byteAt_5 : decode M_Mo_byteAt.2.1 5 = .ok (.if_icmp .ge 17, 3) := by decide +kernel
theorem dc_Mo_byteAt_8 : decode M_Mo_byteAt.2.1 8 = .ok (.aload_n 0, 1) := by decide +kernel
theorem dc_Mo_byteAt_9 : decode M_Mo_byteAt.2.1 9 = .ok (.getfield 13, 3) := by decide +kernel
theorem dc_Mo_byteAt_12 : decode M_Mo_byteAt.2.1 12 = .ok (.aload_n 0, 1) := by decide +kernel
theorem dc_Mo_byteAt_13 : decode M_Mo_byteAt.2.1 13 = .ok (.getfield 132, 3) := by decide +kernel
theorem dc_Mo_byteAt_16 : decode M_Mo_byteAt.2.1 16 = .ok (.iload_n 1, 1) := by decide +kernel
theorem dc_Mo_byteAt_17 : decode M_Mo_byteAt.2.1 17 = .ok (.iadd, 1) := by decide +kernel
theorem dc_Mo_byteAt_18 : decode M_Mo_byteAt.2.1 18 = .ok (.iaload, 1) := by decide +kernel
theorem dc_Mo_byteAt_19 : decode M_Mo_byteAt.2.1 19 = .ok (.goto 4, 3) := by decide +kernel
theorem dc_Mo_byteAt_22 : decode M_Mo_byteAt.2.1 22 = .ok (.iconst (-1), 1) := by decide +kernel
theorem dc_Mo_byteAt_23 : decode M_Mo_byteAt.2.1 23 = .ok (.ireturn, 1) := by decide +kernel
def f_Mo_byteAt (a0 : Nat) (a1 : Int32) (h : xH) : Option (Int32 × xH) := gd (hK h a0 = 11) (jn (fun (x5 : Int32) => some (x5, h)) (fun k6 => if (hI h a0 20) ≤ a1 then k6 (-1 : Int32) else gd (hK h (hR h a0 1) = 12) (gd (¬ (((hI h a0 19) + a1) < 0 ∨ hL h (hR h a0 1) ≤ ((hI h a0 19) + a1).toNatClampNeg)) (k6 (hI h (hR h a0 1) ((hI h a0 19) + a1).toNatClampNeg)))))
theorem t_Mo_byteAt {l : Launch} {z : xZ} {d mc ms : Nat} {Ph : Option xV → xH → Prop} {a0 : Nat} {a1 : Int32}  {h : xH} (hd : 1 ≤ d) (hk : OK (f_Mo_byteAt a0 a1 h) (fun q => Ph (some (xI q.1)) q.2)) : Sx l z d mc ms M_Mo_byteAt 0 (x_en [xR a0, xI a1] 2) [] h Ph := by
  unfold f_Mo_byteAt at hk
  refine sx_eq (lc2 := [some (xR a0), some (xI a1)]) rfl rfl ?_
  refine sx_iload_n dc_Mo_byteAt_0 rfl ?_
  refine sx_aload_n dc_Mo_byteAt_1 rfl ?_
  obtain ⟨g4, hk⟩ := hk.g
  refine sx_get (ci := 11) (k := 20) rfl (by decide) wF_Mo_129 g4 dc_Mo_byteAt_2 ?_
  refine hk.j (X := fun x5 => Sx l z d mc ms M_Mo_byteAt 23 [some (xR a0), some (xI a1)] [xI x5] h Ph) (fun x5 hk => ?_) (fun k6 jk6 hk => ?_)
  · exact sx_retI dc_Mo_byteAt_23 rfl hk.val
  · refine sx_icmp_ge (tgt := 22) dc_Mo_byteAt_5 (by decide) (fun c7 => ?_) (fun c7 => ?_)
    · replace hk := hk.t c7
      refine sx_iconst (v := (-1 : Int32)) dc_Mo_byteAt_22 (by decide) ?_
      exact jk6 (-1 : Int32) hk
    · replace hk := hk.f c7
      refine sx_aload_n dc_Mo_byteAt_8 rfl ?_
      refine sx_get (ci := 11) (k := 1) rfl (by decide) wF_Mo_13 g4 dc_Mo_byteAt_9 ?_
      refine sx_aload_n dc_Mo_byteAt_12 rfl ?_
      refine sx_get (ci := 11) (k := 19) rfl (by decide) wF_Mo_132 g4 dc_Mo_byteAt_13 ?_
      refine sx_iload_n dc_Mo_byteAt_16 rfl ?_
      refine sx_iadd dc_Mo_byteAt_17 ?_
      obtain ⟨g8, hk⟩ := hk.g
      obtain ⟨g9, hk⟩ := hk.g
      refine sx_iald g8 g9 dc_Mo_byteAt_18 ?_
      refine sx_goto (tgt := 23) dc_Mo_byteAt_19 (by decide) ?_
      exact jk6 (hI h (hR h a0 1) ((hI h a0 19) + a1).toNatClampNeg) hk
theorem dc_Mo_next_0 : decode M_Mo_next.2.1 0 = .ok (.aload_n 0, 1) := by decide +kernel
theorem dc_Mo_next_1 : decode M_Mo_next.2.1 1 = .ok (.aload_n 0, 1) := by decide +kernel
theorem dc_Mo_next_2 : decode M_Mo_next.2.1 2 = .ok (.getfield 135, 3) := by decide +kernel
theorem dc_Mo_next_5 : decode M_Mo_next.2.1 5 = .ok (.invokevirtual 138, 3) := by decide +kernel
theorem dc_Mo_next_8 : decode M_Mo_next.2.1 8 = .ok (.bipush 32, 2) := by decide +kernel
theorem dc_Mo_next_10 : decode M_Mo_next.2.1 10 = .ok (.if_icmp .eq 16, 3) := by decide +kernel
theorem dc_Mo_next_13 : decode M_Mo_next.2.1 13 = .ok (.aload_n 0, 1) := by decide +kernel
theorem dc_Mo_next_14 : decode M_Mo_next.2.1 14 = .ok (.aload_n 0, 1) := by decide +kernel
theorem dc_Mo_next_15 : decode M_Mo_next.2.1 15 = .ok (.getfield 135, 3) := by decide +kernel
theorem dc_Mo_next_18 : decode M_Mo_next.2.1 18 = .ok (.invokevirtual 138, 3) := by decide +kernel
theorem dc_Mo_next_21 : decode M_Mo_next.2.1 21 = .ok (.bipush 10, 2) := by decide +kernel
theorem dc_Mo_next_23 : decode M_Mo_next.2.1 23 = .ok (.if_icmp .ne 16, 3) := by decide +kernel
theorem dc_Mo_next_26 : decode M_Mo_next.2.1 26 = .ok (.aload_n 0, 1) := by decide +kernel
theorem dc_Mo_next_27 : decode M_Mo_next.2.1 27 = .ok (.dup, 1) := by decide +kernel
theorem dc_Mo_next_28 : decode M_Mo_next.2.1 28 = .ok (.getfield 135, 3) := by decide +kernel
theorem dc_Mo_next_31 : decode M_Mo_next.2.1 31 = .ok (.iconst 1, 1) := by decide +kernel
theorem dc_Mo_next_32 : decode M_Mo_next.2.1 32 = .ok (.iadd, 1) := by decide +kernel
theorem dc_Mo_next_33 : decode M_Mo_next.2.1 33 = .ok (.putfield 135, 3) := by decide +kernel
theorem dc_Mo_next_36 : decode M_Mo_next.2.1 36 = .ok (.goto (-36), 3) := by decide +kernel
theorem dc_Mo_next_39 : decode M_Mo_next.2.1 39 = .ok (.aload_n 0, 1) := by decide +kernel
theorem dc_Mo_next_40 : decode M_Mo_next.2.1 40 = .ok (.aload_n 0, 1) := by decide +kernel
theorem dc_Mo_next_41 : decode M_Mo_next.2.1 41 = .ok (.getfield 135, 3) := by decide +kernel
theorem dc_Mo_next_44 : decode M_Mo_next.2.1 44 = .ok (.putfield 141, 3) := by decide +kernel
theorem dc_Mo_next_47 : decode M_Mo_next.2.1 47 = .ok (.aload_n 0, 1) := by decide +kernel
theorem dc_Mo_next_48 : decode M_Mo_next.2.1 48 = .ok (.aload_n 0, 1) := by decide +kernel
theorem dc_Mo_next_49 : decode M_Mo_next.2.1 49 = .ok (.getfield 135, 3) := by decide +kernel
theorem dc_Mo_next_52 : decode M_Mo_next.2.1 52 = .ok (.invokevirtual 138, 3) := by decide +kernel
theorem dc_Mo_next_55 : decode M_Mo_next.2.1 55 = .ok (.istore_n 1, 1) := by decide +kernel
theorem dc_Mo_next_56 : decode M_Mo_next.2.1 56 = .ok (.aload_n 0, 1) := by decide +kernel
theorem dc_Mo_next_57 : decode M_Mo_next.2.1 57 = .ok (.iconst 4, 1) := by decide +kernel
theorem dc_Mo_next_58 : decode M_Mo_next.2.1 58 = .ok (.putfield 144, 3) := by decide +kernel
theorem dc_Mo_next_61 : decode M_Mo_next.2.1 61 = .ok (.iload_n 1, 1) := by decide +kernel
theorem dc_Mo_next_62 : decode M_Mo_next.2.1 62 = .ok (.ifCond .ge 19, 3) := by decide +kernel
theorem dc_Mo_next_65 : decode M_Mo_next.2.1 65 = .ok (.aload_n 0, 1) := by decide +kernel
theorem dc_Mo_next_66 : decode M_Mo_next.2.1 66 = .ok (.iconst 0, 1) := by decide +kernel
theorem dc_Mo_next_67 : decode M_Mo_next.2.1 67 = .ok (.putfield 144, 3) := by decide +kernel
theorem dc_Mo_next_70 : decode M_Mo_next.2.1 70 = .ok (.aload_n 0, 1) := by decide +kernel
theorem dc_Mo_next_71 : decode M_Mo_next.2.1 71 = .ok (.aload_n 0, 1) := by decide +kernel
theorem dc_Mo_next_72 : decode M_Mo_next.2.1 72 = .ok (.getfield 129, 3) := by decide +kernel
theorem dc_Mo_next_75 : decode M_Mo_next.2.1 75 = .ok (.putfield 141, 3) := by decide +kernel
theorem dc_Mo_next_78 : decode M_Mo_next.2.1 78 = .ok (.goto 243, 3) := by decide +kernel
theorem dc_Mo_next_81 : decode M_Mo_next.2.1 81 = .ok (.iload_n 1, 1) := by decide +kernel
theorem dc_Mo_next_82 : decode M_Mo_next.2.1 82 = .ok (.i2l, 1) := by decide +kernel
theorem dc_Mo_next_83 : decode M_Mo_next.2.1 83 = .ok (.ldc2_w 147, 3) := by decide +kernel
theorem dc_Mo_next_86 : decode M_Mo_next.2.1 86 = .ok (.ldc2_w 149, 3) := by decide +kernel
theorem dc_Mo_next_89 : decode M_Mo_next.2.1 89 = .ok (.invokestatic 73, 3) := by decide +kernel
theorem dc_Mo_next_92 : decode M_Mo_next.2.1 92 = .ok (.ifCond .eq 42, 3) := by decide +kernel
theorem dc_Mo_next_95 : decode M_Mo_next.2.1 95 = .ok (.aload_n 0, 1) := by decide +kernel
theorem dc_Mo_next_96 : decode M_Mo_next.2.1 96 = .ok (.iconst 1, 1) := by decide +kernel
theorem dc_Mo_next_97 : decode M_Mo_next.2.1 97 = .ok (.putfield 144, 3) := by decide +kernel
theorem dc_Mo_next_100 : decode M_Mo_next.2.1 100 = .ok (.aload_n 0, 1) := by decide +kernel
theorem dc_Mo_next_101 : decode M_Mo_next.2.1 101 = .ok (.aload_n 0, 1) := by decide +kernel
theorem dc_Mo_next_102 : decode M_Mo_next.2.1 102 = .ok (.getfield 135, 3) := by decide +kernel
theorem dc_Mo_next_105 : decode M_Mo_next.2.1 105 = .ok (.invokevirtual 138, 3) := by decide +kernel
theorem dc_Mo_next_108 : decode M_Mo_next.2.1 108 = .ok (.i2l, 1) := by decide +kernel
theorem dc_Mo_next_109 : decode M_Mo_next.2.1 109 = .ok (.ldc2_w 147, 3) := by decide +kernel
theorem dc_Mo_next_112 : decode M_Mo_next.2.1 112 = .ok (.ldc2_w 149, 3) := by decide +kernel
theorem dc_Mo_next_115 : decode M_Mo_next.2.1 115 = .ok (.invokestatic 73, 3) := by decide +kernel
theorem dc_Mo_next_118 : decode M_Mo_next.2.1 118 = .ok (.ifCond .eq 203, 3) := by decide +kernel
theorem dc_Mo_next_121 : decode M_Mo_next.2.1 121 = .ok (.aload_n 0, 1) := by decide +kernel
theorem dc_Mo_next_122 : decode M_Mo_next.2.1 122 = .ok (.dup, 1) := by decide +kernel
theorem dc_Mo_next_123 : decode M_Mo_next.2.1 123 = .ok (.getfield 135, 3) := by decide +kernel
theorem dc_Mo_next_126 : decode M_Mo_next.2.1 126 = .ok (.iconst 1, 1) := by decide +kernel
theorem dc_Mo_next_127 : decode M_Mo_next.2.1 127 = .ok (.iadd, 1) := by decide +kernel
theorem dc_Mo_next_128 : decode M_Mo_next.2.1 128 = .ok (.putfield 135, 3) := by decide +kernel
theorem dc_Mo_next_131 : decode M_Mo_next.2.1 131 = .ok (.goto (-31), 3) := by decide +kernel
theorem dc_Mo_next_134 : decode M_Mo_next.2.1 134 = .ok (.iload_n 1, 1) := by decide +kernel
theorem dc_Mo_next_135 : decode M_Mo_next.2.1 135 = .ok (.i2l, 1) := by decide +kernel
theorem dc_Mo_next_136 : decode M_Mo_next.2.1 136 = .ok (.ldc2_w 151, 3) := by decide +kernel
theorem dc_Mo_next_139 : decode M_Mo_next.2.1 139 = .ok (.ldc2_w 153, 3) := by decide +kernel
theorem dc_Mo_next_142 : decode M_Mo_next.2.1 142 = .ok (.invokestatic 73, 3) := by decide +kernel
theorem dc_Mo_next_145 : decode M_Mo_next.2.1 145 = .ok (.ifCond .eq 107, 3) := by decide +kernel
theorem dc_Mo_next_148 : decode M_Mo_next.2.1 148 = .ok (.aload_n 0, 1) := by decide +kernel
theorem dc_Mo_next_149 : decode M_Mo_next.2.1 149 = .ok (.iconst 2, 1) := by decide +kernel
theorem dc_Mo_next_150 : decode M_Mo_next.2.1 150 = .ok (.putfield 144, 3) := by decide +kernel
theorem dc_Mo_next_153 : decode M_Mo_next.2.1 153 = .ok (.aload_n 0, 1) := by decide +kernel
theorem dc_Mo_next_154 : decode M_Mo_next.2.1 154 = .ok (.lconst 0, 1) := by decide +kernel
theorem dc_Mo_next_155 : decode M_Mo_next.2.1 155 = .ok (.putfield 155, 3) := by decide +kernel
theorem dc_Mo_next_158 : decode M_Mo_next.2.1 158 = .ok (.iconst 0, 1) := by decide +kernel
theorem dc_Mo_next_159 : decode M_Mo_next.2.1 159 = .ok (.istore_n 2, 1) := by decide +kernel
theorem dc_Mo_next_160 : decode M_Mo_next.2.1 160 = .ok (.aload_n 0, 1) := by decide +kernel
theorem dc_Mo_next_161 : decode M_Mo_next.2.1 161 = .ok (.aload_n 0, 1) := by decide +kernel
theorem dc_Mo_next_162 : decode M_Mo_next.2.1 162 = .ok (.getfield 135, 3) := by decide +kernel
theorem dc_Mo_next_165 : decode M_Mo_next.2.1 165 = .ok (.invokevirtual 138, 3) := by decide +kernel
theorem dc_Mo_next_168 : decode M_Mo_next.2.1 168 = .ok (.i2l, 1) := by decide +kernel
theorem dc_Mo_next_169 : decode M_Mo_next.2.1 169 = .ok (.ldc2_w 151, 3) := by decide +kernel
theorem dc_Mo_next_172 : decode M_Mo_next.2.1 172 = .ok (.ldc2_w 153, 3) := by decide +kernel
theorem dc_Mo_next_175 : decode M_Mo_next.2.1 175 = .ok (.invokestatic 73, 3) := by decide +kernel
theorem dc_Mo_next_178 : decode M_Mo_next.2.1 178 = .ok (.ifCond .eq 57, 3) := by decide +kernel
theorem dc_Mo_next_181 : decode M_Mo_next.2.1 181 = .ok (.aload_n 0, 1) := by decide +kernel
theorem dc_Mo_next_182 : decode M_Mo_next.2.1 182 = .ok (.iload_n 2, 1) := by decide +kernel
theorem dc_Mo_next_183 : decode M_Mo_next.2.1 183 = .ok (.iconst 4, 1) := by decide +kernel
theorem dc_Mo_next_184 : decode M_Mo_next.2.1 184 = .ok (.if_icmp .ge 28, 3) := by decide +kernel
theorem dc_Mo_next_187 : decode M_Mo_next.2.1 187 = .ok (.ldc2_w 159, 3) := by decide +kernel
theorem dc_Mo_next_190 : decode M_Mo_next.2.1 190 = .ok (.aload_n 0, 1) := by decide +kernel
theorem dc_Mo_next_191 : decode M_Mo_next.2.1 191 = .ok (.getfield 155, 3) := by decide +kernel
theorem dc_Mo_next_194 : decode M_Mo_next.2.1 194 = .ok (.lmul, 1) := by decide +kernel
theorem dc_Mo_next_195 : decode M_Mo_next.2.1 195 = .ok (.aload_n 0, 1) := by decide +kernel
theorem dc_Mo_next_196 : decode M_Mo_next.2.1 196 = .ok (.aload_n 0, 1) := by decide +kernel
theorem dc_Mo_next_197 : decode M_Mo_next.2.1 197 = .ok (.getfield 135, 3) := by decide +kernel
theorem dc_Mo_next_200 : decode M_Mo_next.2.1 200 = .ok (.invokevirtual 138, 3) := by decide +kernel
theorem dc_Mo_next_203 : decode M_Mo_next.2.1 203 = .ok (.i2l, 1) := by decide +kernel
theorem dc_Mo_next_204 : decode M_Mo_next.2.1 204 = .ok (.ladd, 1) := by decide +kernel
theorem dc_Mo_next_205 : decode M_Mo_next.2.1 205 = .ok (.ldc2_w 151, 3) := by decide +kernel
theorem dc_Mo_next_208 : decode M_Mo_next.2.1 208 = .ok (.lsub, 1) := by decide +kernel
theorem dc_Mo_next_209 : decode M_Mo_next.2.1 209 = .ok (.goto 7, 3) := by decide +kernel
theorem dc_Mo_next_212 : decode M_Mo_next.2.1 212 = .ok (.aload_n 0, 1) := by decide +kernel
theorem dc_Mo_next_213 : decode M_Mo_next.2.1 213 = .ok (.getfield 155, 3) := by decide +kernel
theorem dc_Mo_next_216 : decode M_Mo_next.2.1 216 = .ok (.putfield 155, 3) := by decide +kernel
theorem dc_Mo_next_219 : decode M_Mo_next.2.1 219 = .ok (.iinc 2 1, 3) := by decide +kernel
theorem dc_Mo_next_222 : decode M_Mo_next.2.1 222 = .ok (.aload_n 0, 1) := by decide +kernel
theorem dc_Mo_next_223 : decode M_Mo_next.2.1 223 = .ok (.dup, 1) := by decide +kernel
theorem dc_Mo_next_224 : decode M_Mo_next.2.1 224 = .ok (.getfield 135, 3) := by decide +kernel
theorem dc_Mo_next_227 : decode M_Mo_next.2.1 227 = .ok (.iconst 1, 1) := by decide +kernel
theorem dc_Mo_next_228 : decode M_Mo_next.2.1 228 = .ok (.iadd, 1) := by decide +kernel
theorem dc_Mo_next_229 : decode M_Mo_next.2.1 229 = .ok (.putfield 135, 3) := by decide +kernel
theorem dc_Mo_next_232 : decode M_Mo_next.2.1 232 = .ok (.goto (-72), 3) := by decide +kernel
theorem dc_Mo_next_235 : decode M_Mo_next.2.1 235 = .ok (.aload_n 0, 1) := by decide +kernel
theorem dc_Mo_next_236 : decode M_Mo_next.2.1 236 = .ok (.iload_n 2, 1) := by decide +kernel
theorem dc_Mo_next_237 : decode M_Mo_next.2.1 237 = .ok (.iconst 4, 1) := by decide +kernel
theorem dc_Mo_next_238 : decode M_Mo_next.2.1 238 = .ok (.if_icmp .le 7, 3) := by decide +kernel
theorem dc_Mo_next_241 : decode M_Mo_next.2.1 241 = .ok (.iconst 4, 1) := by decide +kernel
theorem dc_Mo_next_242 : decode M_Mo_next.2.1 242 = .ok (.goto 4, 3) := by decide +kernel
theorem dc_Mo_next_245 : decode M_Mo_next.2.1 245 = .ok (.iconst 2, 1) := by decide +kernel
theorem dc_Mo_next_246 : decode M_Mo_next.2.1 246 = .ok (.putfield 144, 3) := by decide +kernel
theorem dc_Mo_next_249 : decode M_Mo_next.2.1 249 = .ok (.goto 72, 3) := by decide +kernel
theorem dc_Mo_next_252 : decode M_Mo_next.2.1 252 = .ok (.iload_n 1, 1) := by decide +kernel
theorem dc_Mo_next_253 : decode M_Mo_next.2.1 253 = .ok (.bipush 40, 2) := by decide +kernel
theorem dc_Mo_next_255 : decode M_Mo_next.2.1 255 = .ok (.if_icmp .eq 45, 3) := by decide +kernel
theorem dc_Mo_next_258 : decode M_Mo_next.2.1 258 = .ok (.iload_n 1, 1) := by decide +kernel
theorem dc_Mo_next_259 : decode M_Mo_next.2.1 259 = .ok (.bipush 41, 2) := by decide +kernel
theorem dc_Mo_next_261 : decode M_Mo_next.2.1 261 = .ok (.if_icmp .eq 39, 3) := by decide +kernel
theorem dc_Mo_next_264 : decode M_Mo_next.2.1 264 = .ok (.iload_n 1, 1) := by decide +kernel
theorem dc_Mo_next_265 : decode M_Mo_next.2.1 265 = .ok (.bipush 59, 2) := by decide +kernel
theorem dc_Mo_next_267 : decode M_Mo_next.2.1 267 = .ok (.if_icmp .eq 33, 3) := by decide +kernel
theorem dc_Mo_next_270 : decode M_Mo_next.2.1 270 = .ok (.iload_n 1, 1) := by decide +kernel
theorem dc_Mo_next_271 : decode M_Mo_next.2.1 271 = .ok (.bipush 43, 2) := by decide +kernel
theorem dc_Mo_next_273 : decode M_Mo_next.2.1 273 = .ok (.if_icmp .eq 27, 3) := by decide +kernel
theorem dc_Mo_next_276 : decode M_Mo_next.2.1 276 = .ok (.iload_n 1, 1) := by decide +kernel
theorem dc_Mo_next_277 : decode M_Mo_next.2.1 277 = .ok (.bipush 45, 2) := by decide +kernel
theorem dc_Mo_next_279 : decode M_Mo_next.2.1 279 = .ok (.if_icmp .eq 21, 3) := by decide +kernel
theorem dc_Mo_next_282 : decode M_Mo_next.2.1 282 = .ok (.iload_n 1, 1) := by decide +kernel
theorem dc_Mo_next_283 : decode M_Mo_next.2.1 283 = .ok (.bipush 42, 2) := by decide +kernel
theorem dc_Mo_next_285 : decode M_Mo_next.2.1 285 = .ok (.if_icmp .eq 15, 3) := by decide +kernel
theorem dc_Mo_next_288 : decode M_Mo_next.2.1 288 = .ok (.iload_n 1, 1) := by decide +kernel
theorem dc_Mo_next_289 : decode M_Mo_next.2.1 289 = .ok (.bipush 60, 2) := by decide +kernel
theorem dc_Mo_next_291 : decode M_Mo_next.2.1 291 = .ok (.if_icmp .eq 9, 3) := by decide +kernel
theorem dc_Mo_next_294 : decode M_Mo_next.2.1 294 = .ok (.iload_n 1, 1) := by decide +kernel
theorem dc_Mo_next_295 : decode M_Mo_next.2.1 295 = .ok (.bipush 61, 2) := by decide +kernel
theorem dc_Mo_next_297 : decode M_Mo_next.2.1 297 = .ok (.if_icmp .ne 24, 3) := by decide +kernel
theorem dc_Mo_next_300 : decode M_Mo_next.2.1 300 = .ok (.aload_n 0, 1) := by decide +kernel
theorem dc_Mo_next_301 : decode M_Mo_next.2.1 301 = .ok (.iconst 3, 1) := by decide +kernel
theorem dc_Mo_next_302 : decode M_Mo_next.2.1 302 = .ok (.putfield 144, 3) := by decide +kernel
theorem dc_Mo_next_305 : decode M_Mo_next.2.1 305 = .ok (.aload_n 0, 1) := by decide +kernel
theorem dc_Mo_next_306 : decode M_Mo_next.2.1 306 = .ok (.iload_n 1, 1) := by decide +kernel
theorem dc_Mo_next_307 : decode M_Mo_next.2.1 307 = .ok (.i2l, 1) := by decide +kernel
theorem dc_Mo_next_308 : decode M_Mo_next.2.1 308 = .ok (.putfield 155, 3) := by decide +kernel
theorem dc_Mo_next_311 : decode M_Mo_next.2.1 311 = .ok (.aload_n 0, 1) := by decide +kernel
theorem dc_Mo_next_312 : decode M_Mo_next.2.1 312 = .ok (.dup, 1) := by decide +kernel
theorem dc_Mo_next_313 : decode M_Mo_next.2.1 313 = .ok (.getfield 135, 3) := by decide +kernel
theorem dc_Mo_next_316 : decode M_Mo_next.2.1 316 = .ok (.iconst 1, 1) := by decide +kernel
theorem dc_Mo_next_317 : decode M_Mo_next.2.1 317 = .ok (.iadd, 1) := by decide +kernel
theorem dc_Mo_next_318 : decode M_Mo_next.2.1 318 = .ok (.putfield 135, 3) := by decide +kernel
theorem dc_Mo_next_321 : decode M_Mo_next.2.1 321 = .ok (.return_, 1) := by decide +kernel
def f_Mo_next_L0 (a0 : Nat) : Nat → xH → (xH → Option (Unit × xH)) → Option (Unit × xH)
  | 0, _, _ => none
  | n + 1, h, K => gd (hK h a0 = 11) (Option.bind (f_Mo_byteAt a0 (hI h a0 21) h) (fun q27 => jn (fun (x28 : xH) => gd (hK x28 a0 = 11) (f_Mo_next_L0 a0 n (hIu x28 a0 21 ((hI x28 a0 21) + (1 : Int32))) K)) (fun k29 => if q27.1 = (32 : Int32) then k29 q27.2 else gd (hK q27.2 a0 = 11) (Option.bind (f_Mo_byteAt a0 (hI q27.2 a0 21) q27.2) (fun q33 => if q33.1 = (10 : Int32) then k29 q33.2 else K q33.2)))))
def f_Mo_next_L160 (a0 : Nat) (a1 : Int32) : Nat → Int32 → xH → (Int32 → xH → Option (Unit × xH)) → Option (Unit × xH)
  | 0, _, _, _ => none
  | n + 1, a2, h, K => gd (hK h a0 = 11) (Option.bind (f_Mo_byteAt a0 (hI h a0 21) h) (fun q63 => Option.bind (f_Mo_in q63.1.toInt64 (48 : Int64) (57 : Int64) q63.2) (fun q64 => if q64.1 = 0 then K a2 q64.2 else jn (fun (x66 : Int64 × xH) => gd (hK x66.2 a0 = 11) (gd (x66.1.toInt32.toInt64 = x66.1) (f_Mo_next_L160 a0 a1 n (a2 + (1 : Int32)) (hIu (hIu x66.2 a0 24 x66.1.toInt32) a0 21 ((hI (hIu x66.2 a0 24 x66.1.toInt32) a0 21) + (1 : Int32))) K))) (fun k67 => if (4 : Int32) ≤ a2 then gd (hK q64.2 a0 = 11) (k67 (((hI q64.2 a0 24).toInt64), q64.2)) else gd (hK q64.2 a0 = 11) (Option.bind (f_Mo_byteAt a0 (hI q64.2 a0 21) q64.2) (fun q73 => k67 (((((10 : Int64) * ((hI q64.2 a0 24).toInt64)) + q73.1.toInt64) - (48 : Int64)), q73.2)))))))
def f_Mo_next_L100 (a0 : Nat) (a1 : Int32) : Nat → xH → (xH → Option (Unit × xH)) → Option (Unit × xH)
  | 0, _, _ => none
  | n + 1, h, K => gd (hK h a0 = 11) (Option.bind (f_Mo_byteAt a0 (hI h a0 21) h) (fun q81 => Option.bind (f_Mo_in q81.1.toInt64 (97 : Int64) (122 : Int64) q81.2) (fun q82 => if q82.1 = 0 then K q82.2 else gd (hK q82.2 a0 = 11) (f_Mo_next_L100 a0 a1 n (hIu q82.2 a0 21 ((hI q82.2 a0 21) + (1 : Int32))) K))))
def f_Mo_next (a0 : Nat) (h : xH) : Option (Unit × xH) := f_Mo_next_L0 a0 fu h (fun h35 => gd (hK h35 a0 = 11) (Option.bind (f_Mo_byteAt a0 (hI (hIu h35 a0 23 (hI h35 a0 21)) a0 21) (hIu h35 a0 23 (hI h35 a0 21))) (fun q37 => gd (hK q37.2 a0 = 11) (jn (fun (x39 : xH) => some ((), x39)) (fun k40 => if 0 ≤ q37.1 then Option.bind (f_Mo_in q37.1.toInt64 (97 : Int64) (122 : Int64) (hIu q37.2 a0 22 (4 : Int32))) (fun q42 => if q42.1 = 0 then Option.bind (f_Mo_in q37.1.toInt64 (48 : Int64) (57 : Int64) q42.2) (fun q44 => if q44.1 = 0 then jn (fun (x46 : Unit) => gd (hK q44.2 a0 = 11) (gd (q37.1.toInt64.toInt32.toInt64 = q37.1.toInt64) (hp (hIu (hIu (hIu q44.2 a0 22 (3 : Int32)) a0 24 q37.1.toInt64.toInt32) a0 21 ((hI (hIu (hIu q44.2 a0 22 (3 : Int32)) a0 24 q37.1.toInt64.toInt32) a0 21) + (1 : Int32))) (fun h50 => k40 h50)))) (fun k47 => if q37.1 = (40 : Int32) then k47 () else if q37.1 = (41 : Int32) then k47 () else if q37.1 = (59 : Int32) then k47 () else if q37.1 = (43 : Int32) then k47 () else if q37.1 = (45 : Int32) then k47 () else if q37.1 = (42 : Int32) then k47 () else if q37.1 = (60 : Int32) then k47 () else if q37.1 = (61 : Int32) then k47 () else k40 q44.2) else gd (hK q44.2 a0 = 11) (gd ((0 : Int64).toInt32.toInt64 = (0 : Int64)) (f_Mo_next_L160 a0 q37.1 fu (0 : Int32) (hIu (hIu q44.2 a0 22 (2 : Int32)) a0 24 (0 : Int64).toInt32) (fun v74 h75 => gd (hK h75 a0 = 11) (k40 (hIu h75 a0 22 (if v74 ≤ (4 : Int32) then (2 : Int32) else (4 : Int32)))))))) else gd (hK q42.2 a0 = 11) (f_Mo_next_L100 a0 q37.1 fu (hIu q42.2 a0 22 (1 : Int32)) (fun h85 => k40 h85))) else k40 (hIu (hIu (hIu q37.2 a0 22 (4 : Int32)) a0 22 (0 : Int32)) a0 23 (hI (hIu (hIu q37.2 a0 22 (4 : Int32)) a0 22 (0 : Int32)) a0 20)))))))
theorem t_Mo_next_L0 {l : Launch} {z : xZ} {d mc ms : Nat} {Ph : Option xV → xH → Prop} {a0 : Nat}  (hd : 2 ≤ d) : ∀ (n : Nat)  (h : xH) (K : xH → Option (Unit × xH)), OK (f_Mo_next_L0 a0 n h K) (fun q => Ph (none) q.2) → (∀  (h : xH), OK (K  h) (fun q => Ph (none) q.2) → Sx l z d mc ms M_Mo_next 39 [some (xR a0), none, none] [] h Ph) → Sx l z d mc ms M_Mo_next 0 [some (xR a0), none, none] [] h Ph := by
  intro n
  induction n with
  | zero => intro  h K hk hE; exact hk.no
  | succ n ih =>
    intro  h K hk hE
    rw [f_Mo_next_L0] at hk
    refine sx_aload_n dc_Mo_next_0 rfl ?_
    refine sx_aload_n dc_Mo_next_1 rfl ?_
    obtain ⟨g26, hk⟩ := hk.g
    refine sx_get (ci := 11) (k := 21) rfl (by decide) wF_Mo_135 g26 dc_Mo_next_2 ?_
    obtain ⟨q27, eq27, hk⟩ := hk.bind
    refine sx_callV (d2 := d - 1) (mc2 := 0) (ms2 := 0) (as := [xI (hI h a0 21)]) mk_Mo_byteAt rfl (x_rk (ci := 11) g26 rfl rfl) wM_Mo_138 mi_Mo_byteAt me_Mo_byteAt rfl (Nat.le_of_ble_eq_true rfl) (Nat.le_of_ble_eq_true rfl) dc_Mo_next_5 (by omega) (Nat.zero_le _) (Nat.zero_le _) ?_
    refine t_Mo_byteAt (by omega) ⟨q27, eq27, ?_⟩
    refine sx_eq0 (lc2 := [some (xR a0), none, none]) (st2 := [xI q27.1]) rfl rfl ?_
    refine sx_bipush (v := (32 : Int32)) dc_Mo_next_8 (by decide) ?_
    refine hk.j (X := fun x28 => Sx l z d mc ms M_Mo_next 26 [some (xR a0), none, none] [] x28 Ph) (fun x28 hk => ?_) (fun k29 jk29 hk => ?_)
    · refine sx_aload_n dc_Mo_next_26 rfl ?_
      refine sx_dup dc_Mo_next_27 rfl ?_
      obtain ⟨g30, hk⟩ := hk.g
      refine sx_get (ci := 11) (k := 21) rfl (by decide) wF_Mo_135 g30 dc_Mo_next_28 ?_
      refine sx_iconst (v := (1 : Int32)) dc_Mo_next_31 (by decide) ?_
      refine sx_iadd dc_Mo_next_32 ?_
      refine sx_putI (ci := 11) (k := 21) rfl (by decide) wF_Mo_135 rfl g30 (Or.inl rfl) dc_Mo_next_33 ?_
      refine sx_goto (tgt := 0) dc_Mo_next_36 (by decide) ?_
      exact ih  (hIu x28 a0 21 ((hI x28 a0 21) + (1 : Int32))) _ hk hE
    · refine sx_icmp_eq (tgt := 26) dc_Mo_next_10 (by decide) (fun c31 => ?_) (fun c31 => ?_)
      · replace hk := hk.t c31
        exact jk29 q27.2 hk
      · replace hk := hk.f c31
        refine sx_aload_n dc_Mo_next_13 rfl ?_
        refine sx_aload_n dc_Mo_next_14 rfl ?_
        obtain ⟨g32, hk⟩ := hk.g
        refine sx_get (ci := 11) (k := 21) rfl (by decide) wF_Mo_135 g32 dc_Mo_next_15 ?_
        obtain ⟨q33, eq33, hk⟩ := hk.bind
        refine sx_callV (d2 := d - 1) (mc2 := 0) (ms2 := 0) (as := [xI (hI q27.2 a0 21)]) mk_Mo_byteAt rfl (x_rk (ci := 11) g32 rfl rfl) wM_Mo_138 mi_Mo_byteAt me_Mo_byteAt rfl (Nat.le_of_ble_eq_true rfl) (Nat.le_of_ble_eq_true rfl) dc_Mo_next_18 (by omega) (Nat.zero_le _) (Nat.zero_le _) ?_
        refine t_Mo_byteAt (by omega) ⟨q33, eq33, ?_⟩
        refine sx_eq0 (lc2 := [some (xR a0), none, none]) (st2 := [xI q33.1]) rfl rfl ?_
        refine sx_bipush (v := (10 : Int32)) dc_Mo_next_21 (by decide) ?_
        refine sx_icmp_ne (tgt := 39) dc_Mo_next_23 (by decide) (fun c34 => ?_) (fun c34 => ?_)
        · replace hk := hk.f c34
          exact hE  q33.2 hk
        · replace hk := hk.t c34
          exact jk29 q33.2 hk
theorem t_Mo_next_L160 {l : Launch} {z : xZ} {d mc ms : Nat} {Ph : Option xV → xH → Prop} {a0 : Nat} {a1 : Int32}  (hd : 2 ≤ d) : ∀ (n : Nat) (a2 : Int32) (h : xH) (K : Int32 → xH → Option (Unit × xH)), OK (f_Mo_next_L160 a0 a1 n a2 h K) (fun q => Ph (none) q.2) → (∀ (a2 : Int32) (h : xH), OK (K a2 h) (fun q => Ph (none) q.2) → Sx l z d mc ms M_Mo_next 235 [some (xR a0), some (xI a1), some (xI a2)] [] h Ph) → Sx l z d mc ms M_Mo_next 160 [some (xR a0), some (xI a1), some (xI a2)] [] h Ph := by
  intro n
  induction n with
  | zero => intro a2 h K hk hE; exact hk.no
  | succ n ih =>
    intro a2 h K hk hE
    rw [f_Mo_next_L160] at hk
    refine sx_aload_n dc_Mo_next_160 rfl ?_
    refine sx_aload_n dc_Mo_next_161 rfl ?_
    obtain ⟨g62, hk⟩ := hk.g
    refine sx_get (ci := 11) (k := 21) rfl (by decide) wF_Mo_135 g62 dc_Mo_next_162 ?_
    obtain ⟨q63, eq63, hk⟩ := hk.bind
    refine sx_callV (d2 := d - 1) (mc2 := 0) (ms2 := 0) (as := [xI (hI h a0 21)]) mk_Mo_byteAt rfl (x_rk (ci := 11) g62 rfl rfl) wM_Mo_138 mi_Mo_byteAt me_Mo_byteAt rfl (Nat.le_of_ble_eq_true rfl) (Nat.le_of_ble_eq_true rfl) dc_Mo_next_165 (by omega) (Nat.zero_le _) (Nat.zero_le _) ?_
    refine t_Mo_byteAt (by omega) ⟨q63, eq63, ?_⟩
    refine sx_eq0 (lc2 := [some (xR a0), some (xI a1), some (xI a2)]) (st2 := [xI q63.1]) rfl rfl ?_
    refine sx_i2l dc_Mo_next_168 ?_
    refine sx_ldc2 (v := 48) wJ_Mo_151 dc_Mo_next_169 ?_
    refine sx_ldc2 (v := 57) wJ_Mo_153 dc_Mo_next_172 ?_
    obtain ⟨q64, eq64, hk⟩ := hk.bind
    refine sx_callS (d2 := d - 1) (mc2 := 0) (ms2 := 0) (as := [xJ q63.1.toInt64, xJ (48 : Int64), xJ (57 : Int64)]) mk_Mo_in rfl wM_Mo_73 mt_Mo_in rfl (Nat.le_of_ble_eq_true rfl) (Nat.le_of_ble_eq_true rfl) dc_Mo_next_175 (by omega) (Nat.zero_le _) (Nat.zero_le _) ?_
    refine t_Mo_in (by omega) ⟨q64, eq64, ?_⟩
    refine sx_eq0 (lc2 := [some (xR a0), some (xI a1), some (xI a2)]) (st2 := [xI q64.1]) rfl rfl ?_
    refine sx_if_eq (tgt := 235) dc_Mo_next_178 (by decide) (fun c65 => ?_) (fun c65 => ?_)
    · replace hk := hk.t c65
      exact hE a2 q64.2 hk
    · replace hk := hk.f c65
      refine sx_aload_n dc_Mo_next_181 rfl ?_
      refine sx_iload_n dc_Mo_next_182 rfl ?_
      refine sx_iconst (v := (4 : Int32)) dc_Mo_next_183 (by decide) ?_
      refine hk.j (X := fun x66 => Sx l z d mc ms M_Mo_next 216 [some (xR a0), some (xI a1), some (xI a2)] [xJ x66.1, xR a0] x66.2 Ph) (fun x66 hk => ?_) (fun k67 jk67 hk => ?_)
      · obtain ⟨g68, hk⟩ := hk.g
        obtain ⟨g69, hk⟩ := hk.g
        refine sx_putJ (ci := 11) (k := 24) rfl (by decide) wF_Mo_155 rfl g68 ⟨rfl, g69⟩ dc_Mo_next_216 ?_
        refine sx_iinc (v := (1 : Int32)) dc_Mo_next_219 rfl (by decide) (by decide) (sx_eq (lc2 := [some (xR a0), some (xI a1), some (xI (a2 + (1 : Int32)))]) rfl rfl ?_)
        refine sx_aload_n dc_Mo_next_222 rfl ?_
        refine sx_dup dc_Mo_next_223 rfl ?_
        refine sx_get (ci := 11) (k := 21) rfl (by decide) wF_Mo_135 g68 dc_Mo_next_224 ?_
        refine sx_iconst (v := (1 : Int32)) dc_Mo_next_227 (by decide) ?_
        refine sx_iadd dc_Mo_next_228 ?_
        refine sx_putI (ci := 11) (k := 21) rfl (by decide) wF_Mo_135 rfl g68 (Or.inl rfl) dc_Mo_next_229 ?_
        refine sx_goto (tgt := 160) dc_Mo_next_232 (by decide) ?_
        exact ih (a2 + (1 : Int32)) (hIu (hIu x66.2 a0 24 x66.1.toInt32) a0 21 ((hI (hIu x66.2 a0 24 x66.1.toInt32) a0 21) + (1 : Int32))) _ hk hE
      · refine sx_icmp_ge (tgt := 212) dc_Mo_next_184 (by decide) (fun c70 => ?_) (fun c70 => ?_)
        · replace hk := hk.t c70
          refine sx_aload_n dc_Mo_next_212 rfl ?_
          obtain ⟨g71, hk⟩ := hk.g
          refine sx_get (ci := 11) (k := 24) rfl (by decide) wF_Mo_155 g71 dc_Mo_next_213 ?_
          exact jk67 (((hI q64.2 a0 24).toInt64), q64.2) hk
        · replace hk := hk.f c70
          refine sx_ldc2 (v := 10) wJ_Mo_159 dc_Mo_next_187 ?_
          refine sx_aload_n dc_Mo_next_190 rfl ?_
          obtain ⟨g72, hk⟩ := hk.g
          refine sx_get (ci := 11) (k := 24) rfl (by decide) wF_Mo_155 g72 dc_Mo_next_191 ?_
          refine sx_lmul dc_Mo_next_194 ?_
          refine sx_aload_n dc_Mo_next_195 rfl ?_
          refine sx_aload_n dc_Mo_next_196 rfl ?_
          refine sx_get (ci := 11) (k := 21) rfl (by decide) wF_Mo_135 g72 dc_Mo_next_197 ?_
          obtain ⟨q73, eq73, hk⟩ := hk.bind
          refine sx_callV (d2 := d - 1) (mc2 := 0) (ms2 := 0) (as := [xI (hI q64.2 a0 21)]) mk_Mo_byteAt rfl (x_rk (ci := 11) g72 rfl rfl) wM_Mo_138 mi_Mo_byteAt me_Mo_byteAt rfl (Nat.le_of_ble_eq_true rfl) (Nat.le_of_ble_eq_true rfl) dc_Mo_next_200 (by omega) (Nat.zero_le _) (Nat.zero_le _) ?_
          refine t_Mo_byteAt (by omega) ⟨q73, eq73, ?_⟩
          refine sx_eq0 (lc2 := [some (xR a0), some (xI a1), some (xI a2)]) (st2 := [xI q73.1, xJ ((10 : Int64) * ((hI q64.2 a0 24).toInt64)), xR a0]) rfl rfl ?_
          refine sx_i2l dc_Mo_next_203 ?_
          refine sx_ladd dc_Mo_next_204 ?_
          refine sx_ldc2 (v := 48) wJ_Mo_151 dc_Mo_next_205 ?_
          refine sx_lsub dc_Mo_next_208 ?_
          refine sx_goto (tgt := 216) dc_Mo_next_209 (by decide) ?_
          exact jk67 (((((10 : Int64) * ((hI q64.2 a0 24).toInt64)) + q73.1.toInt64) - (48 : Int64)), q73.2) hk
theorem t_Mo_next_L100 {l : Launch} {z : xZ} {d mc ms : Nat} {Ph : Option xV → xH → Prop} {a0 : Nat} {a1 : Int32}  (hd : 2 ≤ d) : ∀ (n : Nat)  (h : xH) (K : xH → Option (Unit × xH)), OK (f_Mo_next_L100 a0 a1 n h K) (fun q => Ph (none) q.2) → (∀  (h : xH), OK (K  h) (fun q => Ph (none) q.2) → Sx l z d mc ms M_Mo_next 321 [some (xR a0), some (xI a1), none] [] h Ph) → Sx l z d mc ms M_Mo_next 100 [some (xR a0), some (xI a1), none] [] h Ph := by
  intro n
  induction n with
  | zero => intro  h K hk hE; exact hk.no
  | succ n ih =>
    intro  h K hk hE
    rw [f_Mo_next_L100] at hk
    refine sx_aload_n dc_Mo_next_100 rfl ?_
    refine sx_aload_n dc_Mo_next_101 rfl ?_
    obtain ⟨g80, hk⟩ := hk.g
    refine sx_get (ci := 11) (k := 21) rfl (by decide) wF_Mo_135 g80 dc_Mo_next_102 ?_
    obtain ⟨q81, eq81, hk⟩ := hk.bind
    refine sx_callV (d2 := d - 1) (mc2 := 0) (ms2 := 0) (as := [xI (hI h a0 21)]) mk_Mo_byteAt rfl (x_rk (ci := 11) g80 rfl rfl) wM_Mo_138 mi_Mo_byteAt me_Mo_byteAt rfl (Nat.le_of_ble_eq_true rfl) (Nat.le_of_ble_eq_true rfl) dc_Mo_next_105 (by omega) (Nat.zero_le _) (Nat.zero_le _) ?_
    refine t_Mo_byteAt (by omega) ⟨q81, eq81, ?_⟩
    refine sx_eq0 (lc2 := [some (xR a0), some (xI a1), none]) (st2 := [xI q81.1]) rfl rfl ?_
    refine sx_i2l dc_Mo_next_108 ?_
    refine sx_ldc2 (v := 97) wJ_Mo_147 dc_Mo_next_109 ?_
    refine sx_ldc2 (v := 122) wJ_Mo_149 dc_Mo_next_112 ?_
    obtain ⟨q82, eq82, hk⟩ := hk.bind
    refine sx_callS (d2 := d - 1) (mc2 := 0) (ms2 := 0) (as := [xJ q81.1.toInt64, xJ (97 : Int64), xJ (122 : Int64)]) mk_Mo_in rfl wM_Mo_73 mt_Mo_in rfl (Nat.le_of_ble_eq_true rfl) (Nat.le_of_ble_eq_true rfl) dc_Mo_next_115 (by omega) (Nat.zero_le _) (Nat.zero_le _) ?_
    refine t_Mo_in (by omega) ⟨q82, eq82, ?_⟩
    refine sx_eq0 (lc2 := [some (xR a0), some (xI a1), none]) (st2 := [xI q82.1]) rfl rfl ?_
    refine sx_if_eq (tgt := 321) dc_Mo_next_118 (by decide) (fun c83 => ?_) (fun c83 => ?_)
    · replace hk := hk.t c83
      exact hE  q82.2 hk
    · replace hk := hk.f c83
      refine sx_aload_n dc_Mo_next_121 rfl ?_
      refine sx_dup dc_Mo_next_122 rfl ?_
      obtain ⟨g84, hk⟩ := hk.g
      refine sx_get (ci := 11) (k := 21) rfl (by decide) wF_Mo_135 g84 dc_Mo_next_123 ?_
      refine sx_iconst (v := (1 : Int32)) dc_Mo_next_126 (by decide) ?_
      refine sx_iadd dc_Mo_next_127 ?_
      refine sx_putI (ci := 11) (k := 21) rfl (by decide) wF_Mo_135 rfl g84 (Or.inl rfl) dc_Mo_next_128 ?_
      refine sx_goto (tgt := 100) dc_Mo_next_131 (by decide) ?_
      exact ih  (hIu q82.2 a0 21 ((hI q82.2 a0 21) + (1 : Int32))) _ hk hE
theorem t_Mo_next {l : Launch} {z : xZ} {d mc ms : Nat} {Ph : Option xV → xH → Prop} {a0 : Nat}  {h : xH} (hd : 2 ≤ d) (hk : OK (f_Mo_next a0 h) (fun q => Ph (none) q.2)) : Sx l z d mc ms M_Mo_next 0 (x_en [xR a0] 3) [] h Ph := by
  unfold f_Mo_next at hk
  refine sx_eq (lc2 := [some (xR a0), none, none]) rfl rfl ?_
  refine t_Mo_next_L0 (by omega) _  _ _ hk (fun  h35 hk => ?_)
  refine sx_aload_n dc_Mo_next_39 rfl ?_
  refine sx_aload_n dc_Mo_next_40 rfl ?_
  obtain ⟨g36, hk⟩ := hk.g
  refine sx_get (ci := 11) (k := 21) rfl (by decide) wF_Mo_135 g36 dc_Mo_next_41 ?_
  refine sx_putI (ci := 11) (k := 23) rfl (by decide) wF_Mo_141 rfl g36 (Or.inl rfl) dc_Mo_next_44 ?_
  refine sx_aload_n dc_Mo_next_47 rfl ?_
  refine sx_aload_n dc_Mo_next_48 rfl ?_
  refine sx_get (ci := 11) (k := 21) rfl (by decide) wF_Mo_135 g36 dc_Mo_next_49 ?_
  obtain ⟨q37, eq37, hk⟩ := hk.bind
  refine sx_callV (d2 := d - 1) (mc2 := 0) (ms2 := 0) (as := [xI (hI (hIu h35 a0 23 (hI h35 a0 21)) a0 21)]) mk_Mo_byteAt rfl (x_rk (ci := 11) g36 rfl rfl) wM_Mo_138 mi_Mo_byteAt me_Mo_byteAt rfl (Nat.le_of_ble_eq_true rfl) (Nat.le_of_ble_eq_true rfl) dc_Mo_next_52 (by omega) (Nat.zero_le _) (Nat.zero_le _) ?_
  refine t_Mo_byteAt (by omega) ⟨q37, eq37, ?_⟩
  refine sx_eq0 (lc2 := [some (xR a0), none, none]) (st2 := [xI q37.1]) rfl rfl ?_
  refine sx_istore_n dc_Mo_next_55 (by decide) (sx_eq (lc2 := [some (xR a0), some (xI q37.1), none]) rfl rfl ?_)
  refine sx_aload_n dc_Mo_next_56 rfl ?_
  refine sx_iconst (v := (4 : Int32)) dc_Mo_next_57 (by decide) ?_
  obtain ⟨g38, hk⟩ := hk.g
  refine sx_putI (ci := 11) (k := 22) rfl (by decide) wF_Mo_144 rfl g38 (Or.inl rfl) dc_Mo_next_58 ?_
  refine sx_iload_n dc_Mo_next_61 rfl ?_
  refine hk.j (X := fun x39 => Sx l z d mc ms M_Mo_next 321 [some (xR a0), some (xI q37.1), none] [] x39 Ph) (fun x39 hk => ?_) (fun k40 jk40 hk => ?_)
  · exact sx_retV dc_Mo_next_321 rfl hk.val
  · refine sx_if_ge (tgt := 81) dc_Mo_next_62 (by decide) (fun c41 => ?_) (fun c41 => ?_)
    · replace hk := hk.t c41
      refine sx_iload_n dc_Mo_next_81 rfl ?_
      refine sx_i2l dc_Mo_next_82 ?_
      refine sx_ldc2 (v := 97) wJ_Mo_147 dc_Mo_next_83 ?_
      refine sx_ldc2 (v := 122) wJ_Mo_149 dc_Mo_next_86 ?_
      obtain ⟨q42, eq42, hk⟩ := hk.bind
      refine sx_callS (d2 := d - 1) (mc2 := 0) (ms2 := 0) (as := [xJ q37.1.toInt64, xJ (97 : Int64), xJ (122 : Int64)]) mk_Mo_in rfl wM_Mo_73 mt_Mo_in rfl (Nat.le_of_ble_eq_true rfl) (Nat.le_of_ble_eq_true rfl) dc_Mo_next_89 (by omega) (Nat.zero_le _) (Nat.zero_le _) ?_
      refine t_Mo_in (by omega) ⟨q42, eq42, ?_⟩
      refine sx_eq0 (lc2 := [some (xR a0), some (xI q37.1), none]) (st2 := [xI q42.1]) rfl rfl ?_
      refine sx_if_eq (tgt := 134) dc_Mo_next_92 (by decide) (fun c43 => ?_) (fun c43 => ?_)
      · replace hk := hk.t c43
        refine sx_iload_n dc_Mo_next_134 rfl ?_
        refine sx_i2l dc_Mo_next_135 ?_
        refine sx_ldc2 (v := 48) wJ_Mo_151 dc_Mo_next_136 ?_
        refine sx_ldc2 (v := 57) wJ_Mo_153 dc_Mo_next_139 ?_
        obtain ⟨q44, eq44, hk⟩ := hk.bind
        refine sx_callS (d2 := d - 1) (mc2 := 0) (ms2 := 0) (as := [xJ q37.1.toInt64, xJ (48 : Int64), xJ (57 : Int64)]) mk_Mo_in rfl wM_Mo_73 mt_Mo_in rfl (Nat.le_of_ble_eq_true rfl) (Nat.le_of_ble_eq_true rfl) dc_Mo_next_142 (by omega) (Nat.zero_le _) (Nat.zero_le _) ?_
        refine t_Mo_in (by omega) ⟨q44, eq44, ?_⟩
        refine sx_eq0 (lc2 := [some (xR a0), some (xI q37.1), none]) (st2 := [xI q44.1]) rfl rfl ?_
        refine sx_if_eq (tgt := 252) dc_Mo_next_145 (by decide) (fun c45 => ?_) (fun c45 => ?_)
        · replace hk := hk.t c45
          refine sx_iload_n dc_Mo_next_252 rfl ?_
          refine sx_bipush (v := (40 : Int32)) dc_Mo_next_253 (by decide) ?_
          refine hk.j (X := fun x46 => Sx l z d mc ms M_Mo_next 300 [some (xR a0), some (xI q37.1), none] [] q44.2 Ph) (fun x46 hk => ?_) (fun k47 jk47 hk => ?_)
          · refine sx_aload_n dc_Mo_next_300 rfl ?_
            refine sx_iconst (v := (3 : Int32)) dc_Mo_next_301 (by decide) ?_
            obtain ⟨g48, hk⟩ := hk.g
            refine sx_putI (ci := 11) (k := 22) rfl (by decide) wF_Mo_144 rfl g48 (Or.inl rfl) dc_Mo_next_302 ?_
            refine sx_aload_n dc_Mo_next_305 rfl ?_
            refine sx_iload_n dc_Mo_next_306 rfl ?_
            refine sx_i2l dc_Mo_next_307 ?_
            obtain ⟨g49, hk⟩ := hk.g
            refine sx_putJ (ci := 11) (k := 24) rfl (by decide) wF_Mo_155 rfl g48 ⟨rfl, g49⟩ dc_Mo_next_308 ?_
            refine sx_aload_n dc_Mo_next_311 rfl ?_
            refine sx_dup dc_Mo_next_312 rfl ?_
            refine sx_get (ci := 11) (k := 21) rfl (by decide) wF_Mo_135 g48 dc_Mo_next_313 ?_
            refine sx_iconst (v := (1 : Int32)) dc_Mo_next_316 (by decide) ?_
            refine sx_iadd dc_Mo_next_317 ?_
            refine sx_putI (ci := 11) (k := 21) rfl (by decide) wF_Mo_135 rfl g48 (Or.inl rfl) dc_Mo_next_318 ?_
            obtain ⟨h50, eh50, hk⟩ := hk.h
            refine sx_hp eh50 ?_
            have g51 : hK h50 a0 = 11 := by rw [eh50]; exact g48
            exact jk40 h50 hk
          · refine sx_icmp_eq (tgt := 300) dc_Mo_next_255 (by decide) (fun c52 => ?_) (fun c52 => ?_)
            · replace hk := hk.t c52
              exact jk47 () hk
            · replace hk := hk.f c52
              refine sx_iload_n dc_Mo_next_258 rfl ?_
              refine sx_bipush (v := (41 : Int32)) dc_Mo_next_259 (by decide) ?_
              refine sx_icmp_eq (tgt := 300) dc_Mo_next_261 (by decide) (fun c53 => ?_) (fun c53 => ?_)
              · replace hk := hk.t c53
                exact jk47 () hk
              · replace hk := hk.f c53
                refine sx_iload_n dc_Mo_next_264 rfl ?_
                refine sx_bipush (v := (59 : Int32)) dc_Mo_next_265 (by decide) ?_
                refine sx_icmp_eq (tgt := 300) dc_Mo_next_267 (by decide) (fun c54 => ?_) (fun c54 => ?_)
                · replace hk := hk.t c54
                  exact jk47 () hk
                · replace hk := hk.f c54
                  refine sx_iload_n dc_Mo_next_270 rfl ?_
                  refine sx_bipush (v := (43 : Int32)) dc_Mo_next_271 (by decide) ?_
                  refine sx_icmp_eq (tgt := 300) dc_Mo_next_273 (by decide) (fun c55 => ?_) (fun c55 => ?_)
                  · replace hk := hk.t c55
                    exact jk47 () hk
                  · replace hk := hk.f c55
                    refine sx_iload_n dc_Mo_next_276 rfl ?_
                    refine sx_bipush (v := (45 : Int32)) dc_Mo_next_277 (by decide) ?_
                    refine sx_icmp_eq (tgt := 300) dc_Mo_next_279 (by decide) (fun c56 => ?_) (fun c56 => ?_)
                    · replace hk := hk.t c56
                      exact jk47 () hk
                    · replace hk := hk.f c56
                      refine sx_iload_n dc_Mo_next_282 rfl ?_
                      refine sx_bipush (v := (42 : Int32)) dc_Mo_next_283 (by decide) ?_
                      refine sx_icmp_eq (tgt := 300) dc_Mo_next_285 (by decide) (fun c57 => ?_) (fun c57 => ?_)
                      · replace hk := hk.t c57
                        exact jk47 () hk
                      · replace hk := hk.f c57
                        refine sx_iload_n dc_Mo_next_288 rfl ?_
                        refine sx_bipush (v := (60 : Int32)) dc_Mo_next_289 (by decide) ?_
                        refine sx_icmp_eq (tgt := 300) dc_Mo_next_291 (by decide) (fun c58 => ?_) (fun c58 => ?_)
                        · replace hk := hk.t c58
                          exact jk47 () hk
                        · replace hk := hk.f c58
                          refine sx_iload_n dc_Mo_next_294 rfl ?_
                          refine sx_bipush (v := (61 : Int32)) dc_Mo_next_295 (by decide) ?_
                          refine sx_icmp_ne (tgt := 321) dc_Mo_next_297 (by decide) (fun c59 => ?_) (fun c59 => ?_)
                          · replace hk := hk.f c59
                            exact jk40 q44.2 hk
                          · replace hk := hk.t c59
                            exact jk47 () hk
        · replace hk := hk.f c45
          refine sx_aload_n dc_Mo_next_148 rfl ?_
          refine sx_iconst (v := (2 : Int32)) dc_Mo_next_149 (by decide) ?_
          obtain ⟨g60, hk⟩ := hk.g
          refine sx_putI (ci := 11) (k := 22) rfl (by decide) wF_Mo_144 rfl g60 (Or.inl rfl) dc_Mo_next_150 ?_
          refine sx_aload_n dc_Mo_next_153 rfl ?_
          refine sx_lconst (v := 0) dc_Mo_next_154 (by decide) ?_
          obtain ⟨g61, hk⟩ := hk.g
          refine sx_putJ (ci := 11) (k := 24) rfl (by decide) wF_Mo_155 rfl g60 ⟨rfl, g61⟩ dc_Mo_next_155 ?_
          refine sx_iconst (v := (0 : Int32)) dc_Mo_next_158 (by decide) ?_
          refine sx_istore_n dc_Mo_next_159 (by decide) (sx_eq (lc2 := [some (xR a0), some (xI q37.1), some (xI (0 : Int32))]) rfl rfl ?_)
          refine t_Mo_next_L160 (by omega) _ _ _ _ hk (fun v74 h75 hk => ?_)
          refine sx_aload_n dc_Mo_next_235 rfl ?_
          refine sx_iload_n dc_Mo_next_236 rfl ?_
          refine sx_iconst (v := (4 : Int32)) dc_Mo_next_237 (by decide) ?_
          refine sx_mg (pc2 := 246) (lc2 := [some (xR a0), some (xI q37.1), some (xI v74)]) (st2 := [xI (if v74 ≤ (4 : Int32) then (2 : Int32) else (4 : Int32)), xR a0]) (h2 := h75) ?_ (fun J76 => ?_)
          · obtain ⟨g78, hk⟩ := hk.g
            refine sx_putI (ci := 11) (k := 22) rfl (by decide) wF_Mo_144 rfl g78 (Or.inl rfl) dc_Mo_next_246 ?_
            refine sx_goto (tgt := 321) dc_Mo_next_249 (by decide) ?_
            exact sx_less (by simp [x_le]) (jk40 (hIu h75 a0 22 (if v74 ≤ (4 : Int32) then (2 : Int32) else (4 : Int32))) hk)
          · refine sx_icmp_le (tgt := 245) dc_Mo_next_238 (by decide) (fun c77 => ?_) (fun c77 => ?_)
            · try simp only [if_pos c77] at J76
              refine sx_iconst (v := (2 : Int32)) dc_Mo_next_245 (by decide) ?_
              exact J76
            · try simp only [if_neg c77] at J76
              refine sx_iconst (v := (4 : Int32)) dc_Mo_next_241 (by decide) ?_
              refine sx_goto (tgt := 246) dc_Mo_next_242 (by decide) ?_
              exact J76
      · replace hk := hk.f c43
        refine sx_aload_n dc_Mo_next_95 rfl ?_
        refine sx_iconst (v := (1 : Int32)) dc_Mo_next_96 (by decide) ?_
        obtain ⟨g79, hk⟩ := hk.g
        refine sx_putI (ci := 11) (k := 22) rfl (by decide) wF_Mo_144 rfl g79 (Or.inl rfl) dc_Mo_next_97 ?_
        refine t_Mo_next_L100 (by omega) _  _ _ hk (fun  h85 hk => ?_)
        exact jk40 h85 hk
    · replace hk := hk.f c41
      refine sx_aload_n dc_Mo_next_65 rfl ?_
      refine sx_iconst (v := (0 : Int32)) dc_Mo_next_66 (by decide) ?_
      refine sx_putI (ci := 11) (k := 22) rfl (by decide) wF_Mo_144 rfl g38 (Or.inl rfl) dc_Mo_next_67 ?_
      refine sx_aload_n dc_Mo_next_70 rfl ?_
      refine sx_aload_n dc_Mo_next_71 rfl ?_
      refine sx_get (ci := 11) (k := 20) rfl (by decide) wF_Mo_129 g38 dc_Mo_next_72 ?_
      refine sx_putI (ci := 11) (k := 23) rfl (by decide) wF_Mo_141 rfl g38 (Or.inl rfl) dc_Mo_next_75 ?_
      refine sx_goto (tgt := 321) dc_Mo_next_78 (by decide) ?_
      exact jk40 (hIu (hIu (hIu q37.2 a0 22 (4 : Int32)) a0 22 (0 : Int32)) a0 23 (hI (hIu (hIu q37.2 a0 22 (4 : Int32)) a0 22 (0 : Int32)) a0 20)) hk
theorem dc_Mo_fail_0 : decode M_Mo_fail.2.1 0 = .ok (.aload_n 0, 1) := by decide +kernel
theorem dc_Mo_fail_1 : decode M_Mo_fail.2.1 1 = .ok (.getfield 161, 3) := by decide +kernel
theorem dc_Mo_fail_4 : decode M_Mo_fail.2.1 4 = .ok (.ifCond .ne 16, 3) := by decide +kernel
theorem dc_Mo_fail_7 : decode M_Mo_fail.2.1 7 = .ok (.aload_n 0, 1) := by decide +kernel
theorem dc_Mo_fail_8 : decode M_Mo_fail.2.1 8 = .ok (.iconst 1, 1) := by decide +kernel
theorem dc_Mo_fail_9 : decode M_Mo_fail.2.1 9 = .ok (.putfield 161, 3) := by decide +kernel
theorem dc_Mo_fail_12 : decode M_Mo_fail.2.1 12 = .ok (.aload_n 0, 1) := by decide +kernel
theorem dc_Mo_fail_13 : decode M_Mo_fail.2.1 13 = .ok (.aload_n 0, 1) := by decide +kernel
theorem dc_Mo_fail_14 : decode M_Mo_fail.2.1 14 = .ok (.getfield 141, 3) := by decide +kernel
theorem dc_Mo_fail_17 : decode M_Mo_fail.2.1 17 = .ok (.putfield 165, 3) := by decide +kernel
theorem dc_Mo_fail_20 : decode M_Mo_fail.2.1 20 = .ok (.return_, 1) := by decide +kernel
def f_Mo_fail (a0 : Nat) (h : xH) : Option (Unit × xH) := gd (hK h a0 = 11) (jn (fun (x3 : xH) => some ((), x3)) (fun k4 => if (hI h a0 26) = 0 then k4 (hIu (hIu h a0 26 (1 : Int32)) a0 27 (hI (hIu h a0 26 (1 : Int32)) a0 23)) else k4 h))
theorem t_Mo_fail {l : Launch} {z : xZ} {d mc ms : Nat} {Ph : Option xV → xH → Prop} {a0 : Nat}  {h : xH} (hd : 1 ≤ d) (hk : OK (f_Mo_fail a0 h) (fun q => Ph (none) q.2)) : Sx l z d mc ms M_Mo_fail 0 (x_en [xR a0] 1) [] h Ph := by
  unfold f_Mo_fail at hk
  refine sx_eq (lc2 := [some (xR a0)]) rfl rfl ?_
  refine sx_aload_n dc_Mo_fail_0 rfl ?_
  obtain ⟨g2, hk⟩ := hk.g
  refine sx_get (ci := 11) (k := 26) rfl (by decide) wF_Mo_161 g2 dc_Mo_fail_1 ?_
  refine hk.j (X := fun x3 => Sx l z d mc ms M_Mo_fail 20 [some (xR a0)] [] x3 Ph) (fun x3 hk => ?_) (fun k4 jk4 hk => ?_)
  · exact sx_retV dc_Mo_fail_20 rfl hk.val
  · refine sx_if_ne (tgt := 20) dc_Mo_fail_4 (by decide) (fun c5 => ?_) (fun c5 => ?_)
    · replace hk := hk.f c5
      exact jk4 h hk
    · replace hk := hk.t c5
      refine sx_aload_n dc_Mo_fail_7 rfl ?_
      refine sx_iconst (v := (1 : Int32)) dc_Mo_fail_8 (by decide) ?_
      refine sx_putI (ci := 11) (k := 26) rfl (by decide) wF_Mo_161 rfl g2 (Or.inr ⟨rfl, Or.inr rfl⟩) dc_Mo_fail_9 ?_
      refine sx_aload_n dc_Mo_fail_12 rfl ?_
      refine sx_aload_n dc_Mo_fail_13 rfl ?_
      refine sx_get (ci := 11) (k := 23) rfl (by decide) wF_Mo_141 g2 dc_Mo_fail_14 ?_
      refine sx_putI (ci := 11) (k := 27) rfl (by decide) wF_Mo_165 rfl g2 (Or.inl rfl) dc_Mo_fail_17 ?_
      exact jk4 (hIu (hIu h a0 26 (1 : Int32)) a0 27 (hI (hIu h a0 26 (1 : Int32)) a0 23)) hk
theorem dc_Mo_isLetter_0 : decode M_Mo_isLetter.2.1 0 = .ok (.aload_n 0, 1) := by decide +kernel
theorem dc_Mo_isLetter_1 : decode M_Mo_isLetter.2.1 1 = .ok (.getfield 141, 3) := by decide +kernel
theorem dc_Mo_isLetter_4 : decode M_Mo_isLetter.2.1 4 = .ok (.iload_n 1, 1) := by decide +kernel
theorem dc_Mo_isLetter_5 : decode M_Mo_isLetter.2.1 5 = .ok (.iadd, 1) := by decide +kernel
theorem dc_Mo_isLetter_6 : decode M_Mo_isLetter.2.1 6 = .ok (.aload_n 0, 1) := by decide +kernel
theorem dc_Mo_isLetter_7 : decode M_Mo_isLetter.2.1 7 = .ok (.getfield 135, 3) := by decide +kernel
theorem dc_Mo_isLetter_10 : decode M_Mo_isLetter.2.1 10 = .ok (.if_icmp .ge 25, 3) := by decide +kernel
theorem dc_Mo_isLetter_13 : decode M_Mo_isLetter.2.1 13 = .ok (.aload_n 0, 1) := by decide +kernel
theorem dc_Mo_isLetter_14 : decode M_Mo_isLetter.2.1 14 = .ok (.aload_n 0, 1) := by decide +kernel
theorem dc_Mo_isLetter_15 : decode M_Mo_isLetter.2.1 15 = .ok (.getfield 141, 3) := by decide +kernel
theorem dc_Mo_isLetter_18 : decode M_Mo_isLetter.2.1 18 = .ok (.iload_n 1, 1) := by decide +kernel
theorem dc_Mo_isLetter_19 : decode M_Mo_isLetter.2.1 19 = .ok (.iadd, 1) := by decide +kernel
theorem dc_Mo_isLetter_20 : decode M_Mo_isLetter.2.1 20 = .ok (.invokevirtual 138, 3) := by decide +kernel
theorem dc_Mo_isLetter_23 : decode M_Mo_isLetter.2.1 23 = .ok (.iload_n 2, 1) := by decide +kernel
theorem dc_Mo_isLetter_24 : decode M_Mo_isLetter.2.1 24 = .ok (.if_icmp .ne 7, 3) := by decide +kernel
theorem dc_Mo_isLetter_27 : decode M_Mo_isLetter.2.1 27 = .ok (.iconst 1, 1) := by decide +kernel
theorem dc_Mo_isLetter_28 : decode M_Mo_isLetter.2.1 28 = .ok (.goto 16, 3) := by decide +kernel
theorem dc_Mo_isLetter_31 : decode M_Mo_isLetter.2.1 31 = .ok (.iconst 0, 1) := by decide +kernel
theorem dc_Mo_isLetter_32 : decode M_Mo_isLetter.2.1 32 = .ok (.goto 12, 3) := by decide +kernel
theorem dc_Mo_isLetter_35 : decode M_Mo_isLetter.2.1 35 = .ok (.iload_n 2, 1) := by decide +kernel
theorem dc_Mo_isLetter_36 : decode M_Mo_isLetter.2.1 36 = .ok (.ifCond .ne 7, 3) := by decide +kernel
theorem dc_Mo_isLetter_39 : decode M_Mo_isLetter.2.1 39 = .ok (.iconst 1, 1) := by decide +kernel
theorem dc_Mo_isLetter_40 : decode M_Mo_isLetter.2.1 40 = .ok (.goto 4, 3) := by decide +kernel
theorem dc_Mo_isLetter_43 : decode M_Mo_isLetter.2.1 43 = .ok (.iconst 0, 1) := by decide +kernel
theorem dc_Mo_isLetter_44 : decode M_Mo_isLetter.2.1 44 = .ok (.ireturn, 1) := by decide +kernel
def f_Mo_isLetter (a0 : Nat) (a1 : Int32) (a2 : Int32) (h : xH) : Option (Int32 × xH) := gd (hK h a0 = 11) (jn (fun (x4 : Int32 × xH) => some (nb x4.1, x4.2)) (fun k5 => if (hI h a0 21) ≤ ((hI h a0 23) + a1) then if a2 = 0 then k5 ((1 : Int32), h) else k5 ((0 : Int32), h) else Option.bind (f_Mo_byteAt a0 ((hI h a0 23) + a1) h) (fun q8 => if q8.1 = a2 then k5 ((1 : Int32), q8.2) else k5 ((0 : Int32), q8.2))))
theorem t_Mo_isLetter {l : Launch} {z : xZ} {d mc ms : Nat} {Ph : Option xV → xH → Prop} {a0 : Nat} {a1 : Int32} {a2 : Int32}  {h : xH} (hd : 2 ≤ d) (hk : OK (f_Mo_isLetter a0 a1 a2 h) (fun q => Ph (some (xI q.1)) q.2)) : Sx l z d mc ms M_Mo_isLetter 0 (x_en [xR a0, xI a1, xI a2] 3) [] h Ph := by
  unfold f_Mo_isLetter at hk
  refine sx_eq (lc2 := [some (xR a0), some (xI a1), some (xI a2)]) rfl rfl ?_
  refine sx_aload_n dc_Mo_isLetter_0 rfl ?_
  obtain ⟨g3, hk⟩ := hk.g
  refine sx_get (ci := 11) (k := 23) rfl (by decide) wF_Mo_141 g3 dc_Mo_isLetter_1 ?_
  refine sx_iload_n dc_Mo_isLetter_4 rfl ?_
  refine sx_iadd dc_Mo_isLetter_5 ?_
  refine sx_aload_n dc_Mo_isLetter_6 rfl ?_
  refine sx_get (ci := 11) (k := 21) rfl (by decide) wF_Mo_135 g3 dc_Mo_isLetter_7 ?_
  refine hk.j (X := fun x4 => Sx l z d mc ms M_Mo_isLetter 44 [some (xR a0), some (xI a1), some (xI a2)] [xI x4.1] x4.2 Ph) (fun x4 hk => ?_) (fun k5 jk5 hk => ?_)
  · exact sx_retT dc_Mo_isLetter_44 (Or.inl ⟨rfl, rfl⟩) rfl hk.val
  · refine sx_icmp_ge (tgt := 35) dc_Mo_isLetter_10 (by decide) (fun c6 => ?_) (fun c6 => ?_)
    · replace hk := hk.t c6
      refine sx_iload_n dc_Mo_isLetter_35 rfl ?_
      refine sx_if_ne (tgt := 43) dc_Mo_isLetter_36 (by decide) (fun c7 => ?_) (fun c7 => ?_)
      · replace hk := hk.f c7
        refine sx_iconst (v := (0 : Int32)) dc_Mo_isLetter_43 (by decide) ?_
        exact jk5 ((0 : Int32), h) hk
      · replace hk := hk.t c7
        refine sx_iconst (v := (1 : Int32)) dc_Mo_isLetter_39 (by decide) ?_
        refine sx_goto (tgt := 44) dc_Mo_isLetter_40 (by decide) ?_
        exact jk5 ((1 : Int32), h) hk
    · replace hk := hk.f c6
      refine sx_aload_n dc_Mo_isLetter_13 rfl ?_
      refine sx_aload_n dc_Mo_isLetter_14 rfl ?_
      refine sx_get (ci := 11) (k := 23) rfl (by decide) wF_Mo_141 g3 dc_Mo_isLetter_15 ?_
      refine sx_iload_n dc_Mo_isLetter_18 rfl ?_
      refine sx_iadd dc_Mo_isLetter_19 ?_
      obtain ⟨q8, eq8, hk⟩ := hk.bind
      refine sx_callV (d2 := d - 1) (mc2 := 0) (ms2 := 0) (as := [xI ((hI h a0 23) + a1)]) mk_Mo_byteAt rfl (x_rk (ci := 11) g3 rfl rfl) wM_Mo_138 mi_Mo_byteAt me_Mo_byteAt rfl (Nat.le_of_ble_eq_true rfl) (Nat.le_of_ble_eq_true rfl) dc_Mo_isLetter_20 (by omega) (Nat.zero_le _) (Nat.zero_le _) ?_
      refine t_Mo_byteAt (by omega) ⟨q8, eq8, ?_⟩
      refine sx_eq0 (lc2 := [some (xR a0), some (xI a1), some (xI a2)]) (st2 := [xI q8.1]) rfl rfl ?_
      refine sx_iload_n dc_Mo_isLetter_23 rfl ?_
      refine sx_icmp_ne (tgt := 31) dc_Mo_isLetter_24 (by decide) (fun c9 => ?_) (fun c9 => ?_)
      · replace hk := hk.f c9
        refine sx_iconst (v := (0 : Int32)) dc_Mo_isLetter_31 (by decide) ?_
        refine sx_goto (tgt := 44) dc_Mo_isLetter_32 (by decide) ?_
        exact jk5 ((0 : Int32), q8.2) hk
      · replace hk := hk.t c9
        refine sx_iconst (v := (1 : Int32)) dc_Mo_isLetter_27 (by decide) ?_
        refine sx_goto (tgt := 44) dc_Mo_isLetter_28 (by decide) ?_
        exact jk5 ((1 : Int32), q8.2) hk
theorem dc_Mo_isWord_0 : decode M_Mo_isWord.2.1 0 = .ok (.aload_n 0, 1) := by decide +kernel
theorem dc_Mo_isWord_1 : decode M_Mo_isWord.2.1 1 = .ok (.getfield 161, 3) := by decide +kernel
theorem dc_Mo_isWord_4 : decode M_Mo_isWord.2.1 4 = .ok (.ifCond .ne 108, 3) := by decide +kernel
theorem dc_Mo_isWord_7 : decode M_Mo_isWord.2.1 7 = .ok (.aload_n 0, 1) := by decide +kernel
theorem dc_Mo_isWord_8 : decode M_Mo_isWord.2.1 8 = .ok (.getfield 144, 3) := by decide +kernel
theorem dc_Mo_isWord_11 : decode M_Mo_isWord.2.1 11 = .ok (.iconst 1, 1) := by decide +kernel
theorem dc_Mo_isWord_12 : decode M_Mo_isWord.2.1 12 = .ok (.if_icmp .ne 100, 3) := by decide +kernel
theorem dc_Mo_isWord_15 : decode M_Mo_isWord.2.1 15 = .ok (.aload_n 0, 1) := by decide +kernel
theorem dc_Mo_isWord_16 : decode M_Mo_isWord.2.1 16 = .ok (.getfield 135, 3) := by decide +kernel
theorem dc_Mo_isWord_19 : decode M_Mo_isWord.2.1 19 = .ok (.aload_n 0, 1) := by decide +kernel
theorem dc_Mo_isWord_20 : decode M_Mo_isWord.2.1 20 = .ok (.getfield 141, 3) := by decide +kernel
theorem dc_Mo_isWord_23 : decode M_Mo_isWord.2.1 23 = .ok (.bipush 8, 2) := by decide +kernel
theorem dc_Mo_isWord_25 : decode M_Mo_isWord.2.1 25 = .ok (.iadd, 1) := by decide +kernel
theorem dc_Mo_isWord_26 : decode M_Mo_isWord.2.1 26 = .ok (.if_icmp .gt 86, 3) := by decide +kernel
theorem dc_Mo_isWord_29 : decode M_Mo_isWord.2.1 29 = .ok (.aload_n 0, 1) := by decide +kernel
theorem dc_Mo_isWord_30 : decode M_Mo_isWord.2.1 30 = .ok (.iconst 0, 1) := by decide +kernel
theorem dc_Mo_isWord_31 : decode M_Mo_isWord.2.1 31 = .ok (.iload_n 1, 1) := by decide +kernel
theorem dc_Mo_isWord_32 : decode M_Mo_isWord.2.1 32 = .ok (.invokevirtual 168, 3) := by decide +kernel
theorem dc_Mo_isWord_35 : decode M_Mo_isWord.2.1 35 = .ok (.ifCond .eq 77, 3) := by decide +kernel
theorem dc_Mo_isWord_38 : decode M_Mo_isWord.2.1 38 = .ok (.aload_n 0, 1) := by decide +kernel
theorem dc_Mo_isWord_39 : decode M_Mo_isWord.2.1 39 = .ok (.iconst 1, 1) := by decide +kernel
theorem dc_Mo_isWord_40 : decode M_Mo_isWord.2.1 40 = .ok (.iload_n 2, 1) := by decide +kernel
theorem dc_Mo_isWord_41 : decode M_Mo_isWord.2.1 41 = .ok (.invokevirtual 168, 3) := by decide +kernel
theorem dc_Mo_isWord_44 : decode M_Mo_isWord.2.1 44 = .ok (.ifCond .eq 68, 3) := by decide +kernel
theorem dc_Mo_isWord_47 : decode M_Mo_isWord.2.1 47 = .ok (.aload_n 0, 1) := by decide +kernel
theorem dc_Mo_isWord_48 : decode M_Mo_isWord.2.1 48 = .ok (.iconst 2, 1) := by decide +kernel
theorem dc_Mo_isWord_49 : decode M_Mo_isWord.2.1 49 = .ok (.iload_n 3, 1) := by decide +kernel
theorem dc_Mo_isWord_50 : decode M_Mo_isWord.2.1 50 = .ok (.invokevirtual 168, 3) := by decide +kernel
theorem dc_Mo_isWord_53 : decode M_Mo_isWord.2.1 53 = .ok (.ifCond .eq 59, 3) := by decide +kernel
theorem dc_Mo_isWord_56 : decode M_Mo_isWord.2.1 56 = .ok (.aload_n 0, 1) := by decide +kernel
theorem dc_Mo_isWord_57 : decode M_Mo_isWord.2.1 57 = .ok (.iconst 3, 1) := by decide +kernel
theorem dc_Mo_isWord_58 : decode M_Mo_isWord.2.1 58 = .ok (.iload 4, 2) := by decide +kernel
theorem dc_Mo_isWord_60 : decode M_Mo_isWord.2.1 60 = .ok (.invokevirtual 168, 3) := by decide +kernel
theorem dc_Mo_isWord_63 : decode M_Mo_isWord.2.1 63 = .ok (.ifCond .eq 49, 3) := by decide +kernel
theorem dc_Mo_isWord_66 : decode M_Mo_isWord.2.1 66 = .ok (.aload_n 0, 1) := by decide +kernel
theorem dc_Mo_isWord_67 : decode M_Mo_isWord.2.1 67 = .ok (.iconst 4, 1) := by decide +kernel
theorem dc_Mo_isWord_68 : decode M_Mo_isWord.2.1 68 = .ok (.iload 5, 2) := by decide +kernel
theorem dc_Mo_isWord_70 : decode M_Mo_isWord.2.1 70 = .ok (.invokevirtual 168, 3) := by decide +kernel
theorem dc_Mo_isWord_73 : decode M_Mo_isWord.2.1 73 = .ok (.ifCond .eq 39, 3) := by decide +kernel
theorem dc_Mo_isWord_76 : decode M_Mo_isWord.2.1 76 = .ok (.aload_n 0, 1) := by decide +kernel
theorem dc_Mo_isWord_77 : decode M_Mo_isWord.2.1 77 = .ok (.iconst 5, 1) := by decide +kernel
theorem dc_Mo_isWord_78 : decode M_Mo_isWord.2.1 78 = .ok (.iload 6, 2) := by decide +kernel
theorem dc_Mo_isWord_80 : decode M_Mo_isWord.2.1 80 = .ok (.invokevirtual 168, 3) := by decide +kernel
theorem dc_Mo_isWord_83 : decode M_Mo_isWord.2.1 83 = .ok (.ifCond .eq 29, 3) := by decide +kernel
theorem dc_Mo_isWord_86 : decode M_Mo_isWord.2.1 86 = .ok (.aload_n 0, 1) := by decide +kernel
theorem dc_Mo_isWord_87 : decode M_Mo_isWord.2.1 87 = .ok (.bipush 6, 2) := by decide +kernel
theorem dc_Mo_isWord_89 : decode M_Mo_isWord.2.1 89 = .ok (.iload 7, 2) := by decide +kernel
theorem dc_Mo_isWord_91 : decode M_Mo_isWord.2.1 91 = .ok (.invokevirtual 168, 3) := by decide +kernel
theorem dc_Mo_isWord_94 : decode M_Mo_isWord.2.1 94 = .ok (.ifCond .eq 18, 3) := by decide +kernel
theorem dc_Mo_isWord_97 : decode M_Mo_isWord.2.1 97 = .ok (.aload_n 0, 1) := by decide +kernel
theorem dc_Mo_isWord_98 : decode M_Mo_isWord.2.1 98 = .ok (.bipush 7, 2) := by decide +kernel
theorem dc_Mo_isWord_100 : decode M_Mo_isWord.2.1 100 = .ok (.iload 8, 2) := by decide +kernel
theorem dc_Mo_isWord_102 : decode M_Mo_isWord.2.1 102 = .ok (.invokevirtual 168, 3) := by decide +kernel
theorem dc_Mo_isWord_105 : decode M_Mo_isWord.2.1 105 = .ok (.ifCond .eq 7, 3) := by decide +kernel
theorem dc_Mo_isWord_108 : decode M_Mo_isWord.2.1 108 = .ok (.iconst 1, 1) := by decide +kernel
theorem dc_Mo_isWord_109 : decode M_Mo_isWord.2.1 109 = .ok (.goto 4, 3) := by decide +kernel
theorem dc_Mo_isWord_112 : decode M_Mo_isWord.2.1 112 = .ok (.iconst 0, 1) := by decide +kernel
theorem dc_Mo_isWord_113 : decode M_Mo_isWord.2.1 113 = .ok (.ireturn, 1) := by decide +kernel
def f_Mo_isWord (a0 : Nat) (a1 : Int32) (a2 : Int32) (a3 : Int32) (a4 : Int32) (a5 : Int32) (a6 : Int32) (a7 : Int32) (a8 : Int32) (h : xH) : Option (Int32 × xH) := gd (hK h a0 = 11) (jn (fun (x18 : Int32 × xH) => some (nb x18.1, x18.2)) (fun k19 => jn (fun (x20 : xH) => k19 ((0 : Int32), x20)) (fun k21 => if (hI h a0 26) = 0 then if (hI h a0 22) = (1 : Int32) then if ((hI h a0 23) + (8 : Int32)) < (hI h a0 21) then k21 h else Option.bind (f_Mo_isLetter a0 (0 : Int32) a1 h) (fun q25 => if q25.1 = 0 then k21 q25.2 else gd (hK q25.2 a0 = 11) (Option.bind (f_Mo_isLetter a0 (1 : Int32) a2 q25.2) (fun q27 => if q27.1 = 0 then k21 q27.2 else gd (hK q27.2 a0 = 11) (Option.bind (f_Mo_isLetter a0 (2 : Int32) a3 q27.2) (fun q30 => if q30.1 = 0 then k21 q30.2 else gd (hK q30.2 a0 = 11) (Option.bind (f_Mo_isLetter a0 (3 : Int32) a4 q30.2) (fun q33 => if q33.1 = 0 then k21 q33.2 else gd (hK q33.2 a0 = 11) (Option.bind (f_Mo_isLetter a0 (4 : Int32) a5 q33.2) (fun q36 => if q36.1 = 0 then k21 q36.2 else gd (hK q36.2 a0 = 11) (Option.bind (f_Mo_isLetter a0 (5 : Int32) a6 q36.2) (fun q39 => if q39.1 = 0 then k21 q39.2 else gd (hK q39.2 a0 = 11) (Option.bind (f_Mo_isLetter a0 (6 : Int32) a7 q39.2) (fun q42 => if q42.1 = 0 then k21 q42.2 else gd (hK q42.2 a0 = 11) (Option.bind (f_Mo_isLetter a0 (7 : Int32) a8 q42.2) (fun q45 => if q45.1 = 0 then k21 q45.2 else k19 ((1 : Int32), q45.2)))))))))))))))) else k21 h else k21 h)))
theorem t_Mo_isWord {l : Launch} {z : xZ} {d mc ms : Nat} {Ph : Option xV → xH → Prop} {a0 : Nat} {a1 : Int32} {a2 : Int32} {a3 : Int32} {a4 : Int32} {a5 : Int32} {a6 : Int32} {a7 : Int32} {a8 : Int32}  {h : xH} (hd : 3 ≤ d) (hk : OK (f_Mo_isWord a0 a1 a2 a3 a4 a5 a6 a7 a8 h) (fun q => Ph (some (xI q.1)) q.2)) : Sx l z d mc ms M_Mo_isWord 0 (x_en [xR a0, xI a1, xI a2, xI a3, xI a4, xI a5, xI a6, xI a7, xI a8] 9) [] h Ph := by
  unfold f_Mo_isWord at hk
  refine sx_eq (lc2 := [some (xR a0), some (xI a1), some (xI a2), some (xI a3), some (xI a4), some (xI a5), some (xI a6), some (xI a7), some (xI a8)]) rfl rfl ?_
  refine sx_aload_n dc_Mo_isWord_0 rfl ?_
  obtain ⟨g17, hk⟩ := hk.g
  refine sx_get (ci := 11) (k := 26) rfl (by decide) wF_Mo_161 g17 dc_Mo_isWord_1 ?_
  refine hk.j (X := fun x18 => Sx l z d mc ms M_Mo_isWord 113 [some (xR a0), some (xI a1), some (xI a2), some (xI a3), some (xI a4), some (xI a5), some (xI a6), some (xI a7), some (xI a8)] [xI x18.1] x18.2 Ph) (fun x18 hk => ?_) (fun k19 jk19 hk => ?_)
  · exact sx_retT dc_Mo_isWord_113 (Or.inl ⟨rfl, rfl⟩) rfl hk.val
  · refine hk.j (X := fun x20 => Sx l z d mc ms M_Mo_isWord 112 [some (xR a0), some (xI a1), some (xI a2), some (xI a3), some (xI a4), some (xI a5), some (xI a6), some (xI a7), some (xI a8)] [] x20 Ph) (fun x20 hk => ?_) (fun k21 jk21 hk => ?_)
    · refine sx_iconst (v := (0 : Int32)) dc_Mo_isWord_112 (by decide) ?_
      exact jk19 ((0 : Int32), x20) hk
    · refine sx_if_ne (tgt := 112) dc_Mo_isWord_4 (by decide) (fun c22 => ?_) (fun c22 => ?_)
      · replace hk := hk.f c22
        exact jk21 h hk
      · replace hk := hk.t c22
        refine sx_aload_n dc_Mo_isWord_7 rfl ?_
        refine sx_get (ci := 11) (k := 22) rfl (by decide) wF_Mo_144 g17 dc_Mo_isWord_8 ?_
        refine sx_iconst (v := (1 : Int32)) dc_Mo_isWord_11 (by decide) ?_
        refine sx_icmp_ne (tgt := 112) dc_Mo_isWord_12 (by decide) (fun c23 => ?_) (fun c23 => ?_)
        · replace hk := hk.f c23
          exact jk21 h hk
        · replace hk := hk.t c23
          refine sx_aload_n dc_Mo_isWord_15 rfl ?_
          refine sx_get (ci := 11) (k := 21) rfl (by decide) wF_Mo_135 g17 dc_Mo_isWord_16 ?_
          refine sx_aload_n dc_Mo_isWord_19 rfl ?_
          refine sx_get (ci := 11) (k := 23) rfl (by decide) wF_Mo_141 g17 dc_Mo_isWord_20 ?_
          refine sx_bipush (v := (8 : Int32)) dc_Mo_isWord_23 (by decide) ?_
          refine sx_iadd dc_Mo_isWord_25 ?_
          refine sx_icmp_gt (tgt := 112) dc_Mo_isWord_26 (by decide) (fun c24 => ?_) (fun c24 => ?_)
          · replace hk := hk.t c24
            exact jk21 h hk
          · replace hk := hk.f c24
            refine sx_aload_n dc_Mo_isWord_29 rfl ?_
            refine sx_iconst (v := (0 : Int32)) dc_Mo_isWord_30 (by decide) ?_
            refine sx_iload_n dc_Mo_isWord_31 rfl ?_
            obtain ⟨q25, eq25, hk⟩ := hk.bind
            refine sx_callV (d2 := d - 1) (mc2 := 0) (ms2 := 0) (as := [xI (0 : Int32), xI a1]) mk_Mo_isLetter rfl (x_rk (ci := 11) g17 rfl rfl) wM_Mo_168 mi_Mo_isLetter me_Mo_isLetter rfl (Nat.le_of_ble_eq_true rfl) (Nat.le_of_ble_eq_true rfl) dc_Mo_isWord_32 (by omega) (Nat.zero_le _) (Nat.zero_le _) ?_
            refine t_Mo_isLetter (by omega) ⟨q25, eq25, ?_⟩
            refine sx_eq0 (lc2 := [some (xR a0), some (xI a1), some (xI a2), some (xI a3), some (xI a4), some (xI a5), some (xI a6), some (xI a7), some (xI a8)]) (st2 := [xI q25.1]) rfl rfl ?_
            refine sx_if_eq (tgt := 112) dc_Mo_isWord_35 (by decide) (fun c26 => ?_) (fun c26 => ?_)
            · replace hk := hk.t c26
              exact jk21 q25.2 hk
            · replace hk := hk.f c26
              refine sx_aload_n dc_Mo_isWord_38 rfl ?_
              refine sx_iconst (v := (1 : Int32)) dc_Mo_isWord_39 (by decide) ?_
              refine sx_iload_n dc_Mo_isWord_40 rfl ?_
              obtain ⟨g28, hk⟩ := hk.g
              obtain ⟨q27, eq27, hk⟩ := hk.bind
              refine sx_callV (d2 := d - 1) (mc2 := 0) (ms2 := 0) (as := [xI (1 : Int32), xI a2]) mk_Mo_isLetter rfl (x_rk (ci := 11) g28 rfl rfl) wM_Mo_168 mi_Mo_isLetter me_Mo_isLetter rfl (Nat.le_of_ble_eq_true rfl) (Nat.le_of_ble_eq_true rfl) dc_Mo_isWord_41 (by omega) (Nat.zero_le _) (Nat.zero_le _) ?_
              refine t_Mo_isLetter (by omega) ⟨q27, eq27, ?_⟩
              refine sx_eq0 (lc2 := [some (xR a0), some (xI a1), some (xI a2), some (xI a3), some (xI a4), some (xI a5), some (xI a6), some (xI a7), some (xI a8)]) (st2 := [xI q27.1]) rfl rfl ?_
              refine sx_if_eq (tgt := 112) dc_Mo_isWord_44 (by decide) (fun c29 => ?_) (fun c29 => ?_)
              · replace hk := hk.t c29
                exact jk21 q27.2 hk
              · replace hk := hk.f c29
                refine sx_aload_n dc_Mo_isWord_47 rfl ?_
                refine sx_iconst (v := (2 : Int32)) dc_Mo_isWord_48 (by decide) ?_
                refine sx_iload_n dc_Mo_isWord_49 rfl ?_
                obtain ⟨g31, hk⟩ := hk.g
                obtain ⟨q30, eq30, hk⟩ := hk.bind
                refine sx_callV (d2 := d - 1) (mc2 := 0) (ms2 := 0) (as := [xI (2 : Int32), xI a3]) mk_Mo_isLetter rfl (x_rk (ci := 11) g31 rfl rfl) wM_Mo_168 mi_Mo_isLetter me_Mo_isLetter rfl (Nat.le_of_ble_eq_true rfl) (Nat.le_of_ble_eq_true rfl) dc_Mo_isWord_50 (by omega) (Nat.zero_le _) (Nat.zero_le _) ?_
                refine t_Mo_isLetter (by omega) ⟨q30, eq30, ?_⟩
                refine sx_eq0 (lc2 := [some (xR a0), some (xI a1), some (xI a2), some (xI a3), some (xI a4), some (xI a5), some (xI a6), some (xI a7), some (xI a8)]) (st2 := [xI q30.1]) rfl rfl ?_
                refine sx_if_eq (tgt := 112) dc_Mo_isWord_53 (by decide) (fun c32 => ?_) (fun c32 => ?_)
                · replace hk := hk.t c32
                  exact jk21 q30.2 hk
                · replace hk := hk.f c32
                  refine sx_aload_n dc_Mo_isWord_56 rfl ?_
                  refine sx_iconst (v := (3 : Int32)) dc_Mo_isWord_57 (by decide) ?_
                  refine sx_iload dc_Mo_isWord_58 rfl ?_
                  obtain ⟨g34, hk⟩ := hk.g
                  obtain ⟨q33, eq33, hk⟩ := hk.bind
                  refine sx_callV (d2 := d - 1) (mc2 := 0) (ms2 := 0) (as := [xI (3 : Int32), xI a4]) mk_Mo_isLetter rfl (x_rk (ci := 11) g34 rfl rfl) wM_Mo_168 mi_Mo_isLetter me_Mo_isLetter rfl (Nat.le_of_ble_eq_true rfl) (Nat.le_of_ble_eq_true rfl) dc_Mo_isWord_60 (by omega) (Nat.zero_le _) (Nat.zero_le _) ?_
                  refine t_Mo_isLetter (by omega) ⟨q33, eq33, ?_⟩
                  refine sx_eq0 (lc2 := [some (xR a0), some (xI a1), some (xI a2), some (xI a3), some (xI a4), some (xI a5), some (xI a6), some (xI a7), some (xI a8)]) (st2 := [xI q33.1]) rfl rfl ?_
                  refine sx_if_eq (tgt := 112) dc_Mo_isWord_63 (by decide) (fun c35 => ?_) (fun c35 => ?_)
                  · replace hk := hk.t c35
                    exact jk21 q33.2 hk
                  · replace hk := hk.f c35
                    refine sx_aload_n dc_Mo_isWord_66 rfl ?_
                    refine sx_iconst (v := (4 : Int32)) dc_Mo_isWord_67 (by decide) ?_
                    refine sx_iload dc_Mo_isWord_68 rfl ?_
                    obtain ⟨g37, hk⟩ := hk.g
                    obtain ⟨q36, eq36, hk⟩ := hk.bind
                    refine sx_callV (d2 := d - 1) (mc2 := 0) (ms2 := 0) (as := [xI (4 : Int32), xI a5]) mk_Mo_isLetter rfl (x_rk (ci := 11) g37 rfl rfl) wM_Mo_168 mi_Mo_isLetter me_Mo_isLetter rfl (Nat.le_of_ble_eq_true rfl) (Nat.le_of_ble_eq_true rfl) dc_Mo_isWord_70 (by omega) (Nat.zero_le _) (Nat.zero_le _) ?_
                    refine t_Mo_isLetter (by omega) ⟨q36, eq36, ?_⟩
                    refine sx_eq0 (lc2 := [some (xR a0), some (xI a1), some (xI a2), some (xI a3), some (xI a4), some (xI a5), some (xI a6), some (xI a7), some (xI a8)]) (st2 := [xI q36.1]) rfl rfl ?_
                    refine sx_if_eq (tgt := 112) dc_Mo_isWord_73 (by decide) (fun c38 => ?_) (fun c38 => ?_)
                    · replace hk := hk.t c38
                      exact jk21 q36.2 hk
                    · replace hk := hk.f c38
                      refine sx_aload_n dc_Mo_isWord_76 rfl ?_
                      refine sx_iconst (v := (5 : Int32)) dc_Mo_isWord_77 (by decide) ?_
                      refine sx_iload dc_Mo_isWord_78 rfl ?_
                      obtain ⟨g40, hk⟩ := hk.g
                      obtain ⟨q39, eq39, hk⟩ := hk.bind
                      refine sx_callV (d2 := d - 1) (mc2 := 0) (ms2 := 0) (as := [xI (5 : Int32), xI a6]) mk_Mo_isLetter rfl (x_rk (ci := 11) g40 rfl rfl) wM_Mo_168 mi_Mo_isLetter me_Mo_isLetter rfl (Nat.le_of_ble_eq_true rfl) (Nat.le_of_ble_eq_true rfl) dc_Mo_isWord_80 (by omega) (Nat.zero_le _) (Nat.zero_le _) ?_
                      refine t_Mo_isLetter (by omega) ⟨q39, eq39, ?_⟩
                      refine sx_eq0 (lc2 := [some (xR a0), some (xI a1), some (xI a2), some (xI a3), some (xI a4), some (xI a5), some (xI a6), some (xI a7), some (xI a8)]) (st2 := [xI q39.1]) rfl rfl ?_
                      refine sx_if_eq (tgt := 112) dc_Mo_isWord_83 (by decide) (fun c41 => ?_) (fun c41 => ?_)
                      · replace hk := hk.t c41
                        exact jk21 q39.2 hk
                      · replace hk := hk.f c41
                        refine sx_aload_n dc_Mo_isWord_86 rfl ?_
                        refine sx_bipush (v := (6 : Int32)) dc_Mo_isWord_87 (by decide) ?_
                        refine sx_iload dc_Mo_isWord_89 rfl ?_
                        obtain ⟨g43, hk⟩ := hk.g
                        obtain ⟨q42, eq42, hk⟩ := hk.bind
                        refine sx_callV (d2 := d - 1) (mc2 := 0) (ms2 := 0) (as := [xI (6 : Int32), xI a7]) mk_Mo_isLetter rfl (x_rk (ci := 11) g43 rfl rfl) wM_Mo_168 mi_Mo_isLetter me_Mo_isLetter rfl (Nat.le_of_ble_eq_true rfl) (Nat.le_of_ble_eq_true rfl) dc_Mo_isWord_91 (by omega) (Nat.zero_le _) (Nat.zero_le _) ?_
                        refine t_Mo_isLetter (by omega) ⟨q42, eq42, ?_⟩
                        refine sx_eq0 (lc2 := [some (xR a0), some (xI a1), some (xI a2), some (xI a3), some (xI a4), some (xI a5), some (xI a6), some (xI a7), some (xI a8)]) (st2 := [xI q42.1]) rfl rfl ?_
                        refine sx_if_eq (tgt := 112) dc_Mo_isWord_94 (by decide) (fun c44 => ?_) (fun c44 => ?_)
                        · replace hk := hk.t c44
                          exact jk21 q42.2 hk
                        · replace hk := hk.f c44
                          refine sx_aload_n dc_Mo_isWord_97 rfl ?_
                          refine sx_bipush (v := (7 : Int32)) dc_Mo_isWord_98 (by decide) ?_
                          refine sx_iload dc_Mo_isWord_100 rfl ?_
                          obtain ⟨g46, hk⟩ := hk.g
                          obtain ⟨q45, eq45, hk⟩ := hk.bind
                          refine sx_callV (d2 := d - 1) (mc2 := 0) (ms2 := 0) (as := [xI (7 : Int32), xI a8]) mk_Mo_isLetter rfl (x_rk (ci := 11) g46 rfl rfl) wM_Mo_168 mi_Mo_isLetter me_Mo_isLetter rfl (Nat.le_of_ble_eq_true rfl) (Nat.le_of_ble_eq_true rfl) dc_Mo_isWord_102 (by omega) (Nat.zero_le _) (Nat.zero_le _) ?_
                          refine t_Mo_isLetter (by omega) ⟨q45, eq45, ?_⟩
                          refine sx_eq0 (lc2 := [some (xR a0), some (xI a1), some (xI a2), some (xI a3), some (xI a4), some (xI a5), some (xI a6), some (xI a7), some (xI a8)]) (st2 := [xI q45.1]) rfl rfl ?_
                          refine sx_if_eq (tgt := 112) dc_Mo_isWord_105 (by decide) (fun c47 => ?_) (fun c47 => ?_)
                          · replace hk := hk.t c47
                            exact jk21 q45.2 hk
                          · replace hk := hk.f c47
                            refine sx_iconst (v := (1 : Int32)) dc_Mo_isWord_108 (by decide) ?_
                            refine sx_goto (tgt := 113) dc_Mo_isWord_109 (by decide) ?_
                            exact jk19 ((1 : Int32), q45.2) hk
theorem dc_Mo_isSign_0 : decode M_Mo_isSign.2.1 0 = .ok (.aload_n 0, 1) := by decide +kernel
theorem dc_Mo_isSign_1 : decode M_Mo_isSign.2.1 1 = .ok (.getfield 161, 3) := by decide +kernel
theorem dc_Mo_isSign_4 : decode M_Mo_isSign.2.1 4 = .ok (.ifCond .ne 25, 3) := by decide +kernel
theorem dc_Mo_isSign_7 : decode M_Mo_isSign.2.1 7 = .ok (.aload_n 0, 1) := by decide +kernel
theorem dc_Mo_isSign_8 : decode M_Mo_isSign.2.1 8 = .ok (.getfield 144, 3) := by decide +kernel
theorem dc_Mo_isSign_11 : decode M_Mo_isSign.2.1 11 = .ok (.iconst 3, 1) := by decide +kernel
theorem dc_Mo_isSign_12 : decode M_Mo_isSign.2.1 12 = .ok (.if_icmp .ne 17, 3) := by decide +kernel
theorem dc_Mo_isSign_15 : decode M_Mo_isSign.2.1 15 = .ok (.aload_n 0, 1) := by decide +kernel
theorem dc_Mo_isSign_16 : decode M_Mo_isSign.2.1 16 = .ok (.getfield 155, 3) := by decide +kernel
theorem dc_Mo_isSign_19 : decode M_Mo_isSign.2.1 19 = .ok (.iload_n 1, 1) := by decide +kernel
theorem dc_Mo_isSign_20 : decode M_Mo_isSign.2.1 20 = .ok (.i2l, 1) := by decide +kernel
theorem dc_Mo_isSign_21 : decode M_Mo_isSign.2.1 21 = .ok (.lcmp, 1) := by decide +kernel
theorem dc_Mo_isSign_22 : decode M_Mo_isSign.2.1 22 = .ok (.ifCond .ne 7, 3) := by decide +kernel
theorem dc_Mo_isSign_25 : decode M_Mo_isSign.2.1 25 = .ok (.iconst 1, 1) := by decide +kernel
theorem dc_Mo_isSign_26 : decode M_Mo_isSign.2.1 26 = .ok (.goto 4, 3) := by decide +kernel
theorem dc_Mo_isSign_29 : decode M_Mo_isSign.2.1 29 = .ok (.iconst 0, 1) := by decide +kernel
theorem dc_Mo_isSign_30 : decode M_Mo_isSign.2.1 30 = .ok (.ireturn, 1) := by decide +kernel
def f_Mo_isSign (a0 : Nat) (a1 : Int32) (h : xH) : Option (Int32 × xH) := gd (hK h a0 = 11) (jn (fun (x3 : Int32) => some (nb x3, h)) (fun k4 => jn (fun (x5 : Unit) => k4 (0 : Int32)) (fun k6 => if (hI h a0 26) = 0 then if (hI h a0 22) = (3 : Int32) then if (jCmpL ((hI h a0 24).toInt64) a1.toInt64) = 0 then k4 (1 : Int32) else k6 () else k6 () else k6 ())))
theorem t_Mo_isSign {l : Launch} {z : xZ} {d mc ms : Nat} {Ph : Option xV → xH → Prop} {a0 : Nat} {a1 : Int32}  {h : xH} (hd : 1 ≤ d) (hk : OK (f_Mo_isSign a0 a1 h) (fun q => Ph (some (xI q.1)) q.2)) : Sx l z d mc ms M_Mo_isSign 0 (x_en [xR a0, xI a1] 2) [] h Ph := by
  unfold f_Mo_isSign at hk
  refine sx_eq (lc2 := [some (xR a0), some (xI a1)]) rfl rfl ?_
  refine sx_aload_n dc_Mo_isSign_0 rfl ?_
  obtain ⟨g2, hk⟩ := hk.g
  refine sx_get (ci := 11) (k := 26) rfl (by decide) wF_Mo_161 g2 dc_Mo_isSign_1 ?_
  refine hk.j (X := fun x3 => Sx l z d mc ms M_Mo_isSign 30 [some (xR a0), some (xI a1)] [xI x3] h Ph) (fun x3 hk => ?_) (fun k4 jk4 hk => ?_)
  · exact sx_retT dc_Mo_isSign_30 (Or.inl ⟨rfl, rfl⟩) rfl hk.val
  · refine hk.j (X := fun x5 => Sx l z d mc ms M_Mo_isSign 29 [some (xR a0), some (xI a1)] [] h Ph) (fun x5 hk => ?_) (fun k6 jk6 hk => ?_)
    · refine sx_iconst (v := (0 : Int32)) dc_Mo_isSign_29 (by decide) ?_
      exact jk4 (0 : Int32) hk
    · refine sx_if_ne (tgt := 29) dc_Mo_isSign_4 (by decide) (fun c7 => ?_) (fun c7 => ?_)
      · replace hk := hk.f c7
        exact jk6 () hk
      · replace hk := hk.t c7
        refine sx_aload_n dc_Mo_isSign_7 rfl ?_
        refine sx_get (ci := 11) (k := 22) rfl (by decide) wF_Mo_144 g2 dc_Mo_isSign_8 ?_
        refine sx_iconst (v := (3 : Int32)) dc_Mo_isSign_11 (by decide) ?_
        refine sx_icmp_ne (tgt := 29) dc_Mo_isSign_12 (by decide) (fun c8 => ?_) (fun c8 => ?_)
        · replace hk := hk.f c8
          exact jk6 () hk
        · replace hk := hk.t c8
          refine sx_aload_n dc_Mo_isSign_15 rfl ?_
          refine sx_get (ci := 11) (k := 24) rfl (by decide) wF_Mo_155 g2 dc_Mo_isSign_16 ?_
          refine sx_iload_n dc_Mo_isSign_19 rfl ?_
          refine sx_i2l dc_Mo_isSign_20 ?_
          refine sx_lcmp dc_Mo_isSign_21 ?_
          refine sx_if_ne (tgt := 29) dc_Mo_isSign_22 (by decide) (fun c9 => ?_) (fun c9 => ?_)
          · replace hk := hk.f c9
            exact jk6 () hk
          · replace hk := hk.t c9
            refine sx_iconst (v := (1 : Int32)) dc_Mo_isSign_25 (by decide) ?_
            refine sx_goto (tgt := 30) dc_Mo_isSign_26 (by decide) ?_
            exact jk4 (1 : Int32) hk
theorem dc_Mo_opens_0 : decode M_Mo_opens.2.1 0 = .ok (.aload_n 0, 1) := by decide +kernel
theorem dc_Mo_opens_1 : decode M_Mo_opens.2.1 1 = .ok (.getfield 171, 3) := by decide +kernel
theorem dc_Mo_opens_4 : decode M_Mo_opens.2.1 4 = .ok (.iconst 5, 1) := by decide +kernel
theorem dc_Mo_opens_5 : decode M_Mo_opens.2.1 5 = .ok (.if_icmp .ne 9, 3) := by decide +kernel
theorem dc_Mo_opens_8 : decode M_Mo_opens.2.1 8 = .ok (.aload_n 0, 1) := by decide +kernel
theorem dc_Mo_opens_9 : decode M_Mo_opens.2.1 9 = .ok (.invokevirtual 174, 3) := by decide +kernel
theorem dc_Mo_opens_12 : decode M_Mo_opens.2.1 12 = .ok (.iconst 0, 1) := by decide +kernel
theorem dc_Mo_opens_13 : decode M_Mo_opens.2.1 13 = .ok (.ireturn, 1) := by decide +kernel
theorem dc_Mo_opens_14 : decode M_Mo_opens.2.1 14 = .ok (.aload_n 0, 1) := by decide +kernel
theorem dc_Mo_opens_15 : decode M_Mo_opens.2.1 15 = .ok (.dup, 1) := by decide +kernel
theorem dc_Mo_opens_16 : decode M_Mo_opens.2.1 16 = .ok (.getfield 171, 3) := by decide +kernel
theorem dc_Mo_opens_19 : decode M_Mo_opens.2.1 19 = .ok (.iconst 1, 1) := by decide +kernel
theorem dc_Mo_opens_20 : decode M_Mo_opens.2.1 20 = .ok (.iadd, 1) := by decide +kernel
theorem dc_Mo_opens_21 : decode M_Mo_opens.2.1 21 = .ok (.putfield 171, 3) := by decide +kernel
theorem dc_Mo_opens_24 : decode M_Mo_opens.2.1 24 = .ok (.aload_n 0, 1) := by decide +kernel
theorem dc_Mo_opens_25 : decode M_Mo_opens.2.1 25 = .ok (.invokevirtual 177, 3) := by decide +kernel
theorem dc_Mo_opens_28 : decode M_Mo_opens.2.1 28 = .ok (.iconst 1, 1) := by decide +kernel
theorem dc_Mo_opens_29 : decode M_Mo_opens.2.1 29 = .ok (.ireturn, 1) := by decide +kernel
def f_Mo_opens (a0 : Nat) (h : xH) : Option (Int32 × xH) := gd (hK h a0 = 11) (if (hI h a0 25) = (5 : Int32) then Option.bind (f_Mo_fail a0 h) (fun q7 => some ((0 : Int32), q7.2)) else Option.bind (f_Mo_next a0 (hIu h a0 25 ((hI h a0 25) + (1 : Int32)))) (fun q6 => some ((1 : Int32), q6.2)))
theorem t_Mo_opens {l : Launch} {z : xZ} {d mc ms : Nat} {Ph : Option xV → xH → Prop} {a0 : Nat}  {h : xH} (hd : 3 ≤ d) (hk : OK (f_Mo_opens a0 h) (fun q => Ph (some (xI q.1)) q.2)) : Sx l z d mc ms M_Mo_opens 0 (x_en [xR a0] 1) [] h Ph := by
  unfold f_Mo_opens at hk
  refine sx_eq (lc2 := [some (xR a0)]) rfl rfl ?_
  refine sx_aload_n dc_Mo_opens_0 rfl ?_
  obtain ⟨g4, hk⟩ := hk.g
  refine sx_get (ci := 11) (k := 25) rfl (by decide) wF_Mo_171 g4 dc_Mo_opens_1 ?_
  refine sx_iconst (v := (5 : Int32)) dc_Mo_opens_4 (by decide) ?_
  refine sx_icmp_ne (tgt := 14) dc_Mo_opens_5 (by decide) (fun c5 => ?_) (fun c5 => ?_)
  · replace hk := hk.f c5
    refine sx_aload_n dc_Mo_opens_14 rfl ?_
    refine sx_dup dc_Mo_opens_15 rfl ?_
    refine sx_get (ci := 11) (k := 25) rfl (by decide) wF_Mo_171 g4 dc_Mo_opens_16 ?_
    refine sx_iconst (v := (1 : Int32)) dc_Mo_opens_19 (by decide) ?_
    refine sx_iadd dc_Mo_opens_20 ?_
    refine sx_putI (ci := 11) (k := 25) rfl (by decide) wF_Mo_171 rfl g4 (Or.inl rfl) dc_Mo_opens_21 ?_
    refine sx_aload_n dc_Mo_opens_24 rfl ?_
    obtain ⟨q6, eq6, hk⟩ := hk.bind
    refine sx_callV (d2 := d - 1) (mc2 := 0) (ms2 := 0) (as := []) mk_Mo_next rfl (x_rk (ci := 11) g4 rfl rfl) wM_Mo_177 mi_Mo_next me_Mo_next rfl (Nat.le_of_ble_eq_true rfl) (Nat.le_of_ble_eq_true rfl) dc_Mo_opens_25 (by omega) (Nat.zero_le _) (Nat.zero_le _) ?_
    refine t_Mo_next (by omega) ⟨q6, eq6, ?_⟩
    refine sx_eq0 (lc2 := [some (xR a0)]) (st2 := []) rfl rfl ?_
    refine sx_iconst (v := (1 : Int32)) dc_Mo_opens_28 (by decide) ?_
    exact sx_retT (v := (1 : Int32)) dc_Mo_opens_29 (Or.inl ⟨rfl, rfl⟩) (by decide) hk.val
  · replace hk := hk.t c5
    refine sx_aload_n dc_Mo_opens_8 rfl ?_
    obtain ⟨q7, eq7, hk⟩ := hk.bind
    refine sx_callV (d2 := d - 1) (mc2 := 0) (ms2 := 0) (as := []) mk_Mo_fail rfl (x_rk (ci := 11) g4 rfl rfl) wM_Mo_174 mi_Mo_fail me_Mo_fail rfl (Nat.le_of_ble_eq_true rfl) (Nat.le_of_ble_eq_true rfl) dc_Mo_opens_9 (by omega) (Nat.zero_le _) (Nat.zero_le _) ?_
    refine t_Mo_fail (by omega) ⟨q7, eq7, ?_⟩
    refine sx_eq0 (lc2 := [some (xR a0)]) (st2 := []) rfl rfl ?_
    refine sx_iconst (v := (0 : Int32)) dc_Mo_opens_12 (by decide) ?_
    exact sx_retT (v := (0 : Int32)) dc_Mo_opens_13 (Or.inl ⟨rfl, rfl⟩) (by decide) hk.val
theorem dc_Mo_name_0 : decode M_Mo_name.2.1 0 = .ok (.aload_n 0, 1) := by decide +kernel
theorem dc_Mo_name_1 : decode M_Mo_name.2.1 1 = .ok (.bipush 111, 2) := by decide +kernel
theorem dc_Mo_name_3 : decode M_Mo_name.2.1 3 = .ok (.bipush 110, 2) := by decide +kernel
theorem dc_Mo_name_5 : decode M_Mo_name.2.1 5 = .ok (.bipush 101, 2) := by decide +kernel
theorem dc_Mo_name_7 : decode M_Mo_name.2.1 7 = .ok (.iconst 0, 1) := by decide +kernel
theorem dc_Mo_name_8 : decode M_Mo_name.2.1 8 = .ok (.iconst 0, 1) := by decide +kernel
theorem dc_Mo_name_9 : decode M_Mo_name.2.1 9 = .ok (.iconst 0, 1) := by decide +kernel
theorem dc_Mo_name_10 : decode M_Mo_name.2.1 10 = .ok (.iconst 0, 1) := by decide +kernel
theorem dc_Mo_name_11 : decode M_Mo_name.2.1 11 = .ok (.iconst 0, 1) := by decide +kernel
theorem dc_Mo_name_12 : decode M_Mo_name.2.1 12 = .ok (.invokevirtual 180, 3) := by decide +kernel
theorem dc_Mo_name_15 : decode M_Mo_name.2.1 15 = .ok (.ifCond .eq 8, 3) := by decide +kernel
theorem dc_Mo_name_18 : decode M_Mo_name.2.1 18 = .ok (.aload_n 0, 1) := by decide +kernel
theorem dc_Mo_name_19 : decode M_Mo_name.2.1 19 = .ok (.getfield 184, 3) := by decide +kernel
theorem dc_Mo_name_22 : decode M_Mo_name.2.1 22 = .ok (.ireturn, 1) := by decide +kernel
theorem dc_Mo_name_23 : decode M_Mo_name.2.1 23 = .ok (.aload_n 0, 1) := by decide +kernel
theorem dc_Mo_name_24 : decode M_Mo_name.2.1 24 = .ok (.bipush 111, 2) := by decide +kernel
theorem dc_Mo_name_26 : decode M_Mo_name.2.1 26 = .ok (.bipush 116, 2) := by decide +kernel
theorem dc_Mo_name_28 : decode M_Mo_name.2.1 28 = .ok (.bipush 104, 2) := by decide +kernel
theorem dc_Mo_name_30 : decode M_Mo_name.2.1 30 = .ok (.bipush 101, 2) := by decide +kernel
theorem dc_Mo_name_32 : decode M_Mo_name.2.1 32 = .ok (.bipush 114, 2) := by decide +kernel
theorem dc_Mo_name_34 : decode M_Mo_name.2.1 34 = .ok (.iconst 0, 1) := by decide +kernel
theorem dc_Mo_name_35 : decode M_Mo_name.2.1 35 = .ok (.iconst 0, 1) := by decide +kernel
theorem dc_Mo_name_36 : decode M_Mo_name.2.1 36 = .ok (.iconst 0, 1) := by decide +kernel
theorem dc_Mo_name_37 : decode M_Mo_name.2.1 37 = .ok (.invokevirtual 180, 3) := by decide +kernel
theorem dc_Mo_name_40 : decode M_Mo_name.2.1 40 = .ok (.ifCond .eq 8, 3) := by decide +kernel
theorem dc_Mo_name_43 : decode M_Mo_name.2.1 43 = .ok (.aload_n 0, 1) := by decide +kernel
theorem dc_Mo_name_44 : decode M_Mo_name.2.1 44 = .ok (.getfield 187, 3) := by decide +kernel
theorem dc_Mo_name_47 : decode M_Mo_name.2.1 47 = .ok (.ireturn, 1) := by decide +kernel
theorem dc_Mo_name_48 : decode M_Mo_name.2.1 48 = .ok (.aload_n 0, 1) := by decide +kernel
theorem dc_Mo_name_49 : decode M_Mo_name.2.1 49 = .ok (.bipush 116, 2) := by decide +kernel
theorem dc_Mo_name_51 : decode M_Mo_name.2.1 51 = .ok (.bipush 104, 2) := by decide +kernel
theorem dc_Mo_name_53 : decode M_Mo_name.2.1 53 = .ok (.bipush 105, 2) := by decide +kernel
theorem dc_Mo_name_55 : decode M_Mo_name.2.1 55 = .ok (.bipush 114, 2) := by decide +kernel
theorem dc_Mo_name_57 : decode M_Mo_name.2.1 57 = .ok (.bipush 100, 2) := by decide +kernel
theorem dc_Mo_name_59 : decode M_Mo_name.2.1 59 = .ok (.iconst 0, 1) := by decide +kernel
theorem dc_Mo_name_60 : decode M_Mo_name.2.1 60 = .ok (.iconst 0, 1) := by decide +kernel
theorem dc_Mo_name_61 : decode M_Mo_name.2.1 61 = .ok (.iconst 0, 1) := by decide +kernel
theorem dc_Mo_name_62 : decode M_Mo_name.2.1 62 = .ok (.invokevirtual 180, 3) := by decide +kernel
theorem dc_Mo_name_65 : decode M_Mo_name.2.1 65 = .ok (.ifCond .eq 8, 3) := by decide +kernel
theorem dc_Mo_name_68 : decode M_Mo_name.2.1 68 = .ok (.aload_n 0, 1) := by decide +kernel
theorem dc_Mo_name_69 : decode M_Mo_name.2.1 69 = .ok (.getfield 190, 3) := by decide +kernel
theorem dc_Mo_name_72 : decode M_Mo_name.2.1 72 = .ok (.ireturn, 1) := by decide +kernel
theorem dc_Mo_name_73 : decode M_Mo_name.2.1 73 = .ok (.aload_n 0, 1) := by decide +kernel
theorem dc_Mo_name_74 : decode M_Mo_name.2.1 74 = .ok (.bipush 107, 2) := by decide +kernel
theorem dc_Mo_name_76 : decode M_Mo_name.2.1 76 = .ok (.bipush 110, 2) := by decide +kernel
theorem dc_Mo_name_78 : decode M_Mo_name.2.1 78 = .ok (.bipush 111, 2) := by decide +kernel
theorem dc_Mo_name_80 : decode M_Mo_name.2.1 80 = .ok (.bipush 119, 2) := by decide +kernel
theorem dc_Mo_name_82 : decode M_Mo_name.2.1 82 = .ok (.iconst 0, 1) := by decide +kernel
theorem dc_Mo_name_83 : decode M_Mo_name.2.1 83 = .ok (.iconst 0, 1) := by decide +kernel
theorem dc_Mo_name_84 : decode M_Mo_name.2.1 84 = .ok (.iconst 0, 1) := by decide +kernel
theorem dc_Mo_name_85 : decode M_Mo_name.2.1 85 = .ok (.iconst 0, 1) := by decide +kernel
theorem dc_Mo_name_86 : decode M_Mo_name.2.1 86 = .ok (.invokevirtual 180, 3) := by decide +kernel
theorem dc_Mo_name_89 : decode M_Mo_name.2.1 89 = .ok (.ifCond .eq 8, 3) := by decide +kernel
theorem dc_Mo_name_92 : decode M_Mo_name.2.1 92 = .ok (.aload_n 0, 1) := by decide +kernel
theorem dc_Mo_name_93 : decode M_Mo_name.2.1 93 = .ok (.getfield 193, 3) := by decide +kernel
theorem dc_Mo_name_96 : decode M_Mo_name.2.1 96 = .ok (.ireturn, 1) := by decide +kernel
theorem dc_Mo_name_97 : decode M_Mo_name.2.1 97 = .ok (.aload_n 0, 1) := by decide +kernel
theorem dc_Mo_name_98 : decode M_Mo_name.2.1 98 = .ok (.bipush 115, 2) := by decide +kernel
theorem dc_Mo_name_100 : decode M_Mo_name.2.1 100 = .ok (.bipush 101, 2) := by decide +kernel
theorem dc_Mo_name_102 : decode M_Mo_name.2.1 102 = .ok (.bipush 101, 2) := by decide +kernel
theorem dc_Mo_name_104 : decode M_Mo_name.2.1 104 = .ok (.bipush 110, 2) := by decide +kernel
theorem dc_Mo_name_106 : decode M_Mo_name.2.1 106 = .ok (.iconst 0, 1) := by decide +kernel
theorem dc_Mo_name_107 : decode M_Mo_name.2.1 107 = .ok (.iconst 0, 1) := by decide +kernel
theorem dc_Mo_name_108 : decode M_Mo_name.2.1 108 = .ok (.iconst 0, 1) := by decide +kernel
theorem dc_Mo_name_109 : decode M_Mo_name.2.1 109 = .ok (.iconst 0, 1) := by decide +kernel
theorem dc_Mo_name_110 : decode M_Mo_name.2.1 110 = .ok (.invokevirtual 180, 3) := by decide +kernel
theorem dc_Mo_name_113 : decode M_Mo_name.2.1 113 = .ok (.ifCond .eq 8, 3) := by decide +kernel
theorem dc_Mo_name_116 : decode M_Mo_name.2.1 116 = .ok (.aload_n 0, 1) := by decide +kernel
theorem dc_Mo_name_117 : decode M_Mo_name.2.1 117 = .ok (.getfield 196, 3) := by decide +kernel
theorem dc_Mo_name_120 : decode M_Mo_name.2.1 120 = .ok (.ireturn, 1) := by decide +kernel
theorem dc_Mo_name_121 : decode M_Mo_name.2.1 121 = .ok (.aload_n 0, 1) := by decide +kernel
theorem dc_Mo_name_122 : decode M_Mo_name.2.1 122 = .ok (.bipush 109, 2) := by decide +kernel
theorem dc_Mo_name_124 : decode M_Mo_name.2.1 124 = .ok (.bipush 97, 2) := by decide +kernel
theorem dc_Mo_name_126 : decode M_Mo_name.2.1 126 = .ok (.bipush 110, 2) := by decide +kernel
theorem dc_Mo_name_128 : decode M_Mo_name.2.1 128 = .ok (.bipush 121, 2) := by decide +kernel
theorem dc_Mo_name_130 : decode M_Mo_name.2.1 130 = .ok (.iconst 0, 1) := by decide +kernel
theorem dc_Mo_name_131 : decode M_Mo_name.2.1 131 = .ok (.iconst 0, 1) := by decide +kernel
theorem dc_Mo_name_132 : decode M_Mo_name.2.1 132 = .ok (.iconst 0, 1) := by decide +kernel
theorem dc_Mo_name_133 : decode M_Mo_name.2.1 133 = .ok (.iconst 0, 1) := by decide +kernel
theorem dc_Mo_name_134 : decode M_Mo_name.2.1 134 = .ok (.invokevirtual 180, 3) := by decide +kernel
theorem dc_Mo_name_137 : decode M_Mo_name.2.1 137 = .ok (.ifCond .eq 8, 3) := by decide +kernel
theorem dc_Mo_name_140 : decode M_Mo_name.2.1 140 = .ok (.aload_n 0, 1) := by decide +kernel
theorem dc_Mo_name_141 : decode M_Mo_name.2.1 141 = .ok (.getfield 199, 3) := by decide +kernel
theorem dc_Mo_name_144 : decode M_Mo_name.2.1 144 = .ok (.ireturn, 1) := by decide +kernel
theorem dc_Mo_name_145 : decode M_Mo_name.2.1 145 = .ok (.aload_n 0, 1) := by decide +kernel
theorem dc_Mo_name_146 : decode M_Mo_name.2.1 146 = .ok (.invokevirtual 174, 3) := by decide +kernel
theorem dc_Mo_name_149 : decode M_Mo_name.2.1 149 = .ok (.iconst 0, 1) := by decide +kernel
theorem dc_Mo_name_150 : decode M_Mo_name.2.1 150 = .ok (.ireturn, 1) := by decide +kernel
def f_Mo_name (a0 : Nat) (h : xH) : Option (Int32 × xH) := gd (hK h a0 = 11) (Option.bind (f_Mo_isWord a0 (111 : Int32) (110 : Int32) (101 : Int32) (0 : Int32) (0 : Int32) (0 : Int32) (0 : Int32) (0 : Int32) h) (fun q21 => if q21.1 = 0 then gd (hK q21.2 a0 = 11) (Option.bind (f_Mo_isWord a0 (111 : Int32) (116 : Int32) (104 : Int32) (101 : Int32) (114 : Int32) (0 : Int32) (0 : Int32) (0 : Int32) q21.2) (fun q24 => if q24.1 = 0 then gd (hK q24.2 a0 = 11) (Option.bind (f_Mo_isWord a0 (116 : Int32) (104 : Int32) (105 : Int32) (114 : Int32) (100 : Int32) (0 : Int32) (0 : Int32) (0 : Int32) q24.2) (fun q27 => if q27.1 = 0 then gd (hK q27.2 a0 = 11) (Option.bind (f_Mo_isWord a0 (107 : Int32) (110 : Int32) (111 : Int32) (119 : Int32) (0 : Int32) (0 : Int32) (0 : Int32) (0 : Int32) q27.2) (fun q30 => if q30.1 = 0 then gd (hK q30.2 a0 = 11) (Option.bind (f_Mo_isWord a0 (115 : Int32) (101 : Int32) (101 : Int32) (110 : Int32) (0 : Int32) (0 : Int32) (0 : Int32) (0 : Int32) q30.2) (fun q33 => if q33.1 = 0 then gd (hK q33.2 a0 = 11) (Option.bind (f_Mo_isWord a0 (109 : Int32) (97 : Int32) (110 : Int32) (121 : Int32) (0 : Int32) (0 : Int32) (0 : Int32) (0 : Int32) q33.2) (fun q36 => if q36.1 = 0 then gd (hK q36.2 a0 = 11) (Option.bind (f_Mo_fail a0 q36.2) (fun q39 => some ((0 : Int32), q39.2))) else gd (hK q36.2 a0 = 11) (some (hI q36.2 a0 18, q36.2)))) else gd (hK q33.2 a0 = 11) (some (hI q33.2 a0 17, q33.2)))) else gd (hK q30.2 a0 = 11) (some (hI q30.2 a0 16, q30.2)))) else gd (hK q27.2 a0 = 11) (some (hI q27.2 a0 15, q27.2)))) else gd (hK q24.2 a0 = 11) (some (hI q24.2 a0 14, q24.2)))) else gd (hK q21.2 a0 = 11) (some (hI q21.2 a0 13, q21.2))))
theorem t_Mo_name {l : Launch} {z : xZ} {d mc ms : Nat} {Ph : Option xV → xH → Prop} {a0 : Nat}  {h : xH} (hd : 4 ≤ d) (hk : OK (f_Mo_name a0 h) (fun q => Ph (some (xI q.1)) q.2)) : Sx l z d mc ms M_Mo_name 0 (x_en [xR a0] 1) [] h Ph := by
  unfold f_Mo_name at hk
  refine sx_eq (lc2 := [some (xR a0)]) rfl rfl ?_
  refine sx_aload_n dc_Mo_name_0 rfl ?_
  refine sx_bipush (v := (111 : Int32)) dc_Mo_name_1 (by decide) ?_
  refine sx_bipush (v := (110 : Int32)) dc_Mo_name_3 (by decide) ?_
  refine sx_bipush (v := (101 : Int32)) dc_Mo_name_5 (by decide) ?_
  refine sx_iconst (v := (0 : Int32)) dc_Mo_name_7 (by decide) ?_
  refine sx_iconst (v := (0 : Int32)) dc_Mo_name_8 (by decide) ?_
  refine sx_iconst (v := (0 : Int32)) dc_Mo_name_9 (by decide) ?_
  refine sx_iconst (v := (0 : Int32)) dc_Mo_name_10 (by decide) ?_
  refine sx_iconst (v := (0 : Int32)) dc_Mo_name_11 (by decide) ?_
  obtain ⟨g22, hk⟩ := hk.g
  obtain ⟨q21, eq21, hk⟩ := hk.bind
  refine sx_callV (d2 := d - 1) (mc2 := 0) (ms2 := 0) (as := [xI (111 : Int32), xI (110 : Int32), xI (101 : Int32), xI (0 : Int32), xI (0 : Int32), xI (0 : Int32), xI (0 : Int32), xI (0 : Int32)]) mk_Mo_isWord rfl (x_rk (ci := 11) g22 rfl rfl) wM_Mo_180 mi_Mo_isWord me_Mo_isWord rfl (Nat.le_of_ble_eq_true rfl) (Nat.le_of_ble_eq_true rfl) dc_Mo_name_12 (by omega) (Nat.zero_le _) (Nat.zero_le _) ?_
  refine t_Mo_isWord (by omega) ⟨q21, eq21, ?_⟩
  refine sx_eq0 (lc2 := [some (xR a0)]) (st2 := [xI q21.1]) rfl rfl ?_
  refine sx_if_eq (tgt := 23) dc_Mo_name_15 (by decide) (fun c23 => ?_) (fun c23 => ?_)
  · replace hk := hk.t c23
    refine sx_aload_n dc_Mo_name_23 rfl ?_
    refine sx_bipush (v := (111 : Int32)) dc_Mo_name_24 (by decide) ?_
    refine sx_bipush (v := (116 : Int32)) dc_Mo_name_26 (by decide) ?_
    refine sx_bipush (v := (104 : Int32)) dc_Mo_name_28 (by decide) ?_
    refine sx_bipush (v := (101 : Int32)) dc_Mo_name_30 (by decide) ?_
    refine sx_bipush (v := (114 : Int32)) dc_Mo_name_32 (by decide) ?_
    refine sx_iconst (v := (0 : Int32)) dc_Mo_name_34 (by decide) ?_
    refine sx_iconst (v := (0 : Int32)) dc_Mo_name_35 (by decide) ?_
    refine sx_iconst (v := (0 : Int32)) dc_Mo_name_36 (by decide) ?_
    obtain ⟨g25, hk⟩ := hk.g
    obtain ⟨q24, eq24, hk⟩ := hk.bind
    refine sx_callV (d2 := d - 1) (mc2 := 0) (ms2 := 0) (as := [xI (111 : Int32), xI (116 : Int32), xI (104 : Int32), xI (101 : Int32), xI (114 : Int32), xI (0 : Int32), xI (0 : Int32), xI (0 : Int32)]) mk_Mo_isWord rfl (x_rk (ci := 11) g25 rfl rfl) wM_Mo_180 mi_Mo_isWord me_Mo_isWord rfl (Nat.le_of_ble_eq_true rfl) (Nat.le_of_ble_eq_true rfl) dc_Mo_name_37 (by omega) (Nat.zero_le _) (Nat.zero_le _) ?_
    refine t_Mo_isWord (by omega) ⟨q24, eq24, ?_⟩
    refine sx_eq0 (lc2 := [some (xR a0)]) (st2 := [xI q24.1]) rfl rfl ?_
    refine sx_if_eq (tgt := 48) dc_Mo_name_40 (by decide) (fun c26 => ?_) (fun c26 => ?_)
    · replace hk := hk.t c26
      refine sx_aload_n dc_Mo_name_48 rfl ?_
      refine sx_bipush (v := (116 : Int32)) dc_Mo_name_49 (by decide) ?_
      refine sx_bipush (v := (104 : Int32)) dc_Mo_name_51 (by decide) ?_
      refine sx_bipush (v := (105 : Int32)) dc_Mo_name_53 (by decide) ?_
      refine sx_bipush (v := (114 : Int32)) dc_Mo_name_55 (by decide) ?_
      refine sx_bipush (v := (100 : Int32)) dc_Mo_name_57 (by decide) ?_
      refine sx_iconst (v := (0 : Int32)) dc_Mo_name_59 (by decide) ?_
      refine sx_iconst (v := (0 : Int32)) dc_Mo_name_60 (by decide) ?_
      refine sx_iconst (v := (0 : Int32)) dc_Mo_name_61 (by decide) ?_
      obtain ⟨g28, hk⟩ := hk.g
      obtain ⟨q27, eq27, hk⟩ := hk.bind
      refine sx_callV (d2 := d - 1) (mc2 := 0) (ms2 := 0) (as := [xI (116 : Int32), xI (104 : Int32), xI (105 : Int32), xI (114 : Int32), xI (100 : Int32), xI (0 : Int32), xI (0 : Int32), xI (0 : Int32)]) mk_Mo_isWord rfl (x_rk (ci := 11) g28 rfl rfl) wM_Mo_180 mi_Mo_isWord me_Mo_isWord rfl (Nat.le_of_ble_eq_true rfl) (Nat.le_of_ble_eq_true rfl) dc_Mo_name_62 (by omega) (Nat.zero_le _) (Nat.zero_le _) ?_
      refine t_Mo_isWord (by omega) ⟨q27, eq27, ?_⟩
      refine sx_eq0 (lc2 := [some (xR a0)]) (st2 := [xI q27.1]) rfl rfl ?_
      refine sx_if_eq (tgt := 73) dc_Mo_name_65 (by decide) (fun c29 => ?_) (fun c29 => ?_)
      · replace hk := hk.t c29
        refine sx_aload_n dc_Mo_name_73 rfl ?_
        refine sx_bipush (v := (107 : Int32)) dc_Mo_name_74 (by decide) ?_
        refine sx_bipush (v := (110 : Int32)) dc_Mo_name_76 (by decide) ?_
        refine sx_bipush (v := (111 : Int32)) dc_Mo_name_78 (by decide) ?_
        refine sx_bipush (v := (119 : Int32)) dc_Mo_name_80 (by decide) ?_
        refine sx_iconst (v := (0 : Int32)) dc_Mo_name_82 (by decide) ?_
        refine sx_iconst (v := (0 : Int32)) dc_Mo_name_83 (by decide) ?_
        refine sx_iconst (v := (0 : Int32)) dc_Mo_name_84 (by decide) ?_
        refine sx_iconst (v := (0 : Int32)) dc_Mo_name_85 (by decide) ?_
        obtain ⟨g31, hk⟩ := hk.g
        obtain ⟨q30, eq30, hk⟩ := hk.bind
        refine sx_callV (d2 := d - 1) (mc2 := 0) (ms2 := 0) (as := [xI (107 : Int32), xI (110 : Int32), xI (111 : Int32), xI (119 : Int32), xI (0 : Int32), xI (0 : Int32), xI (0 : Int32), xI (0 : Int32)]) mk_Mo_isWord rfl (x_rk (ci := 11) g31 rfl rfl) wM_Mo_180 mi_Mo_isWord me_Mo_isWord rfl (Nat.le_of_ble_eq_true rfl) (Nat.le_of_ble_eq_true rfl) dc_Mo_name_86 (by omega) (Nat.zero_le _) (Nat.zero_le _) ?_
        refine t_Mo_isWord (by omega) ⟨q30, eq30, ?_⟩
        refine sx_eq0 (lc2 := [some (xR a0)]) (st2 := [xI q30.1]) rfl rfl ?_
        refine sx_if_eq (tgt := 97) dc_Mo_name_89 (by decide) (fun c32 => ?_) (fun c32 => ?_)
        · replace hk := hk.t c32
          refine sx_aload_n dc_Mo_name_97 rfl ?_
          refine sx_bipush (v := (115 : Int32)) dc_Mo_name_98 (by decide) ?_
          refine sx_bipush (v := (101 : Int32)) dc_Mo_name_100 (by decide) ?_
          refine sx_bipush (v := (101 : Int32)) dc_Mo_name_102 (by decide) ?_
          refine sx_bipush (v := (110 : Int32)) dc_Mo_name_104 (by decide) ?_
          refine sx_iconst (v := (0 : Int32)) dc_Mo_name_106 (by decide) ?_
          refine sx_iconst (v := (0 : Int32)) dc_Mo_name_107 (by decide) ?_
          refine sx_iconst (v := (0 : Int32)) dc_Mo_name_108 (by decide) ?_
          refine sx_iconst (v := (0 : Int32)) dc_Mo_name_109 (by decide) ?_
          obtain ⟨g34, hk⟩ := hk.g
          obtain ⟨q33, eq33, hk⟩ := hk.bind
          refine sx_callV (d2 := d - 1) (mc2 := 0) (ms2 := 0) (as := [xI (115 : Int32), xI (101 : Int32), xI (101 : Int32), xI (110 : Int32), xI (0 : Int32), xI (0 : Int32), xI (0 : Int32), xI (0 : Int32)]) mk_Mo_isWord rfl (x_rk (ci := 11) g34 rfl rfl) wM_Mo_180 mi_Mo_isWord me_Mo_isWord rfl (Nat.le_of_ble_eq_true rfl) (Nat.le_of_ble_eq_true rfl) dc_Mo_name_110 (by omega) (Nat.zero_le _) (Nat.zero_le _) ?_
          refine t_Mo_isWord (by omega) ⟨q33, eq33, ?_⟩
          refine sx_eq0 (lc2 := [some (xR a0)]) (st2 := [xI q33.1]) rfl rfl ?_
          refine sx_if_eq (tgt := 121) dc_Mo_name_113 (by decide) (fun c35 => ?_) (fun c35 => ?_)
          · replace hk := hk.t c35
            refine sx_aload_n dc_Mo_name_121 rfl ?_
            refine sx_bipush (v := (109 : Int32)) dc_Mo_name_122 (by decide) ?_
            refine sx_bipush (v := (97 : Int32)) dc_Mo_name_124 (by decide) ?_
            refine sx_bipush (v := (110 : Int32)) dc_Mo_name_126 (by decide) ?_
            refine sx_bipush (v := (121 : Int32)) dc_Mo_name_128 (by decide) ?_
            refine sx_iconst (v := (0 : Int32)) dc_Mo_name_130 (by decide) ?_
            refine sx_iconst (v := (0 : Int32)) dc_Mo_name_131 (by decide) ?_
            refine sx_iconst (v := (0 : Int32)) dc_Mo_name_132 (by decide) ?_
            refine sx_iconst (v := (0 : Int32)) dc_Mo_name_133 (by decide) ?_
            obtain ⟨g37, hk⟩ := hk.g
            obtain ⟨q36, eq36, hk⟩ := hk.bind
            refine sx_callV (d2 := d - 1) (mc2 := 0) (ms2 := 0) (as := [xI (109 : Int32), xI (97 : Int32), xI (110 : Int32), xI (121 : Int32), xI (0 : Int32), xI (0 : Int32), xI (0 : Int32), xI (0 : Int32)]) mk_Mo_isWord rfl (x_rk (ci := 11) g37 rfl rfl) wM_Mo_180 mi_Mo_isWord me_Mo_isWord rfl (Nat.le_of_ble_eq_true rfl) (Nat.le_of_ble_eq_true rfl) dc_Mo_name_134 (by omega) (Nat.zero_le _) (Nat.zero_le _) ?_
            refine t_Mo_isWord (by omega) ⟨q36, eq36, ?_⟩
            refine sx_eq0 (lc2 := [some (xR a0)]) (st2 := [xI q36.1]) rfl rfl ?_
            refine sx_if_eq (tgt := 145) dc_Mo_name_137 (by decide) (fun c38 => ?_) (fun c38 => ?_)
            · replace hk := hk.t c38
              refine sx_aload_n dc_Mo_name_145 rfl ?_
              obtain ⟨g40, hk⟩ := hk.g
              obtain ⟨q39, eq39, hk⟩ := hk.bind
              refine sx_callV (d2 := d - 1) (mc2 := 0) (ms2 := 0) (as := []) mk_Mo_fail rfl (x_rk (ci := 11) g40 rfl rfl) wM_Mo_174 mi_Mo_fail me_Mo_fail rfl (Nat.le_of_ble_eq_true rfl) (Nat.le_of_ble_eq_true rfl) dc_Mo_name_146 (by omega) (Nat.zero_le _) (Nat.zero_le _) ?_
              refine t_Mo_fail (by omega) ⟨q39, eq39, ?_⟩
              refine sx_eq0 (lc2 := [some (xR a0)]) (st2 := []) rfl rfl ?_
              refine sx_iconst (v := (0 : Int32)) dc_Mo_name_149 (by decide) ?_
              exact sx_retI dc_Mo_name_150 rfl hk.val
            · replace hk := hk.f c38
              refine sx_aload_n dc_Mo_name_140 rfl ?_
              obtain ⟨g41, hk⟩ := hk.g
              refine sx_get (ci := 11) (k := 18) rfl (by decide) wF_Mo_199 g41 dc_Mo_name_141 ?_
              exact sx_retI dc_Mo_name_144 rfl hk.val
          · replace hk := hk.f c35
            refine sx_aload_n dc_Mo_name_116 rfl ?_
            obtain ⟨g42, hk⟩ := hk.g
            refine sx_get (ci := 11) (k := 17) rfl (by decide) wF_Mo_196 g42 dc_Mo_name_117 ?_
            exact sx_retI dc_Mo_name_120 rfl hk.val
        · replace hk := hk.f c32
          refine sx_aload_n dc_Mo_name_92 rfl ?_
          obtain ⟨g43, hk⟩ := hk.g
          refine sx_get (ci := 11) (k := 16) rfl (by decide) wF_Mo_193 g43 dc_Mo_name_93 ?_
          exact sx_retI dc_Mo_name_96 rfl hk.val
      · replace hk := hk.f c29
        refine sx_aload_n dc_Mo_name_68 rfl ?_
        obtain ⟨g44, hk⟩ := hk.g
        refine sx_get (ci := 11) (k := 15) rfl (by decide) wF_Mo_190 g44 dc_Mo_name_69 ?_
        exact sx_retI dc_Mo_name_72 rfl hk.val
    · replace hk := hk.f c26
      refine sx_aload_n dc_Mo_name_43 rfl ?_
      obtain ⟨g45, hk⟩ := hk.g
      refine sx_get (ci := 11) (k := 14) rfl (by decide) wF_Mo_187 g45 dc_Mo_name_44 ?_
      exact sx_retI dc_Mo_name_47 rfl hk.val
  · replace hk := hk.f c23
    refine sx_aload_n dc_Mo_name_18 rfl ?_
    obtain ⟨g46, hk⟩ := hk.g
    refine sx_get (ci := 11) (k := 13) rfl (by decide) wF_Mo_184 g46 dc_Mo_name_19 ?_
    exact sx_retI dc_Mo_name_22 rfl hk.val
theorem dc_Mo_added_0 : decode M_Mo_added.2.1 0 = .ok (.aload_n 0, 1) := by decide +kernel
theorem dc_Mo_added_1 : decode M_Mo_added.2.1 1 = .ok (.invokevirtual 219, 3) := by decide +kernel
theorem dc_Mo_added_4 : decode M_Mo_added.2.1 4 = .ok (.istore_n 1, 1) := by decide +kernel
theorem dc_Mo_added_5 : decode M_Mo_added.2.1 5 = .ok (.aload_n 0, 1) := by decide +kernel
theorem dc_Mo_added_6 : decode M_Mo_added.2.1 6 = .ok (.bipush 43, 2) := by decide +kernel
theorem dc_Mo_added_8 : decode M_Mo_added.2.1 8 = .ok (.invokevirtual 202, 3) := by decide +kernel
theorem dc_Mo_added_11 : decode M_Mo_added.2.1 11 = .ok (.ifCond .ne 12, 3) := by decide +kernel
theorem dc_Mo_added_14 : decode M_Mo_added.2.1 14 = .ok (.aload_n 0, 1) := by decide +kernel
theorem dc_Mo_added_15 : decode M_Mo_added.2.1 15 = .ok (.bipush 45, 2) := by decide +kernel
theorem dc_Mo_added_17 : decode M_Mo_added.2.1 17 = .ok (.invokevirtual 202, 3) := by decide +kernel
theorem dc_Mo_added_20 : decode M_Mo_added.2.1 20 = .ok (.ifCond .eq 46, 3) := by decide +kernel
theorem dc_Mo_added_23 : decode M_Mo_added.2.1 23 = .ok (.aload_n 0, 1) := by decide +kernel
theorem dc_Mo_added_24 : decode M_Mo_added.2.1 24 = .ok (.getfield 155, 3) := by decide +kernel
theorem dc_Mo_added_27 : decode M_Mo_added.2.1 27 = .ok (.ldc2_w 222, 3) := by decide +kernel
theorem dc_Mo_added_30 : decode M_Mo_added.2.1 30 = .ok (.lcmp, 1) := by decide +kernel
theorem dc_Mo_added_31 : decode M_Mo_added.2.1 31 = .ok (.ifCond .ne 7, 3) := by decide +kernel
theorem dc_Mo_added_34 : decode M_Mo_added.2.1 34 = .ok (.iconst 1, 1) := by decide +kernel
theorem dc_Mo_added_35 : decode M_Mo_added.2.1 35 = .ok (.goto 4, 3) := by decide +kernel
theorem dc_Mo_added_38 : decode M_Mo_added.2.1 38 = .ok (.iconst 0, 1) := by decide +kernel
theorem dc_Mo_added_39 : decode M_Mo_added.2.1 39 = .ok (.istore_n 2, 1) := by decide +kernel
theorem dc_Mo_added_40 : decode M_Mo_added.2.1 40 = .ok (.aload_n 0, 1) := by decide +kernel
theorem dc_Mo_added_41 : decode M_Mo_added.2.1 41 = .ok (.invokevirtual 177, 3) := by decide +kernel
theorem dc_Mo_added_44 : decode M_Mo_added.2.1 44 = .ok (.aload_n 0, 1) := by decide +kernel
theorem dc_Mo_added_45 : decode M_Mo_added.2.1 45 = .ok (.invokevirtual 219, 3) := by decide +kernel
theorem dc_Mo_added_48 : decode M_Mo_added.2.1 48 = .ok (.istore_n 3, 1) := by decide +kernel
theorem dc_Mo_added_49 : decode M_Mo_added.2.1 49 = .ok (.iload_n 2, 1) := by decide +kernel
theorem dc_Mo_added_50 : decode M_Mo_added.2.1 50 = .ok (.ifCond .eq 9, 3) := by decide +kernel
theorem dc_Mo_added_53 : decode M_Mo_added.2.1 53 = .ok (.iload_n 1, 1) := by decide +kernel
theorem dc_Mo_added_54 : decode M_Mo_added.2.1 54 = .ok (.iload_n 3, 1) := by decide +kernel
theorem dc_Mo_added_55 : decode M_Mo_added.2.1 55 = .ok (.iadd, 1) := by decide +kernel
theorem dc_Mo_added_56 : decode M_Mo_added.2.1 56 = .ok (.goto 6, 3) := by decide +kernel
theorem dc_Mo_added_59 : decode M_Mo_added.2.1 59 = .ok (.iload_n 1, 1) := by decide +kernel
theorem dc_Mo_added_60 : decode M_Mo_added.2.1 60 = .ok (.iload_n 3, 1) := by decide +kernel
theorem dc_Mo_added_61 : decode M_Mo_added.2.1 61 = .ok (.isub, 1) := by decide +kernel
theorem dc_Mo_added_62 : decode M_Mo_added.2.1 62 = .ok (.istore_n 1, 1) := by decide +kernel
theorem dc_Mo_added_63 : decode M_Mo_added.2.1 63 = .ok (.goto (-58), 3) := by decide +kernel
theorem dc_Mo_added_66 : decode M_Mo_added.2.1 66 = .ok (.iload_n 1, 1) := by decide +kernel
theorem dc_Mo_added_67 : decode M_Mo_added.2.1 67 = .ok (.ireturn, 1) := by decide +kernel
theorem dc_Mo_atom_0 : decode M_Mo_atom.2.1 0 = .ok (.iconst 0, 1) := by decide +kernel
theorem dc_Mo_atom_1 : decode M_Mo_atom.2.1 1 = .ok (.istore_n 1, 1) := by decide +kernel
theorem dc_Mo_atom_2 : decode M_Mo_atom.2.1 2 = .ok (.aload_n 0, 1) := by decide +kernel
theorem dc_Mo_atom_3 : decode M_Mo_atom.2.1 3 = .ok (.bipush 45, 2) := by decide +kernel
theorem dc_Mo_atom_5 : decode M_Mo_atom.2.1 5 = .ok (.invokevirtual 202, 3) := by decide +kernel
theorem dc_Mo_atom_8 : decode M_Mo_atom.2.1 8 = .ok (.ifCond .eq 29, 3) := by decide +kernel
theorem dc_Mo_atom_11 : decode M_Mo_atom.2.1 11 = .ok (.aload_n 0, 1) := by decide +kernel
theorem dc_Mo_atom_12 : decode M_Mo_atom.2.1 12 = .ok (.invokevirtual 205, 3) := by decide +kernel
theorem dc_Mo_atom_15 : decode M_Mo_atom.2.1 15 = .ok (.ifCond .eq 146, 3) := by decide +kernel
theorem dc_Mo_atom_18 : decode M_Mo_atom.2.1 18 = .ok (.aload_n 0, 1) := by decide +kernel
theorem dc_Mo_atom_19 : decode M_Mo_atom.2.1 19 = .ok (.invokevirtual 209, 3) := by decide +kernel
theorem dc_Mo_atom_22 : decode M_Mo_atom.2.1 22 = .ok (.ineg, 1) := by decide +kernel
theorem dc_Mo_atom_23 : decode M_Mo_atom.2.1 23 = .ok (.istore_n 1, 1) := by decide +kernel
theorem dc_Mo_atom_24 : decode M_Mo_atom.2.1 24 = .ok (.aload_n 0, 1) := by decide +kernel
theorem dc_Mo_atom_25 : decode M_Mo_atom.2.1 25 = .ok (.dup, 1) := by decide +kernel
theorem dc_Mo_atom_26 : decode M_Mo_atom.2.1 26 = .ok (.getfield 171, 3) := by decide +kernel
theorem dc_Mo_atom_29 : decode M_Mo_atom.2.1 29 = .ok (.iconst 1, 1) := by decide +kernel
theorem dc_Mo_atom_30 : decode M_Mo_atom.2.1 30 = .ok (.isub, 1) := by decide +kernel
theorem dc_Mo_atom_31 : decode M_Mo_atom.2.1 31 = .ok (.putfield 171, 3) := by decide +kernel
theorem dc_Mo_atom_34 : decode M_Mo_atom.2.1 34 = .ok (.goto 127, 3) := by decide +kernel
theorem dc_Mo_atom_37 : decode M_Mo_atom.2.1 37 = .ok (.aload_n 0, 1) := by decide +kernel
theorem dc_Mo_atom_38 : decode M_Mo_atom.2.1 38 = .ok (.bipush 40, 2) := by decide +kernel
theorem dc_Mo_atom_40 : decode M_Mo_atom.2.1 40 = .ok (.invokevirtual 202, 3) := by decide +kernel
theorem dc_Mo_atom_43 : decode M_Mo_atom.2.1 43 = .ok (.ifCond .eq 52, 3) := by decide +kernel
theorem dc_Mo_atom_46 : decode M_Mo_atom.2.1 46 = .ok (.aload_n 0, 1) := by decide +kernel
theorem dc_Mo_atom_47 : decode M_Mo_atom.2.1 47 = .ok (.invokevirtual 205, 3) := by decide +kernel
theorem dc_Mo_atom_50 : decode M_Mo_atom.2.1 50 = .ok (.ifCond .eq 111, 3) := by decide +kernel
theorem dc_Mo_atom_53 : decode M_Mo_atom.2.1 53 = .ok (.aload_n 0, 1) := by decide +kernel
theorem dc_Mo_atom_54 : decode M_Mo_atom.2.1 54 = .ok (.invokevirtual 213, 3) := by decide +kernel
theorem dc_Mo_atom_57 : decode M_Mo_atom.2.1 57 = .ok (.istore_n 1, 1) := by decide +kernel
theorem dc_Mo_atom_58 : decode M_Mo_atom.2.1 58 = .ok (.aload_n 0, 1) := by decide +kernel
theorem dc_Mo_atom_59 : decode M_Mo_atom.2.1 59 = .ok (.bipush 41, 2) := by decide +kernel
theorem dc_Mo_atom_61 : decode M_Mo_atom.2.1 61 = .ok (.invokevirtual 202, 3) := by decide +kernel
theorem dc_Mo_atom_64 : decode M_Mo_atom.2.1 64 = .ok (.ifCond .ne 7, 3) := by decide +kernel
theorem dc_Mo_atom_67 : decode M_Mo_atom.2.1 67 = .ok (.aload_n 0, 1) := by decide +kernel
theorem dc_Mo_atom_68 : decode M_Mo_atom.2.1 68 = .ok (.invokevirtual 174, 3) := by decide +kernel
theorem dc_Mo_atom_71 : decode M_Mo_atom.2.1 71 = .ok (.aload_n 0, 1) := by decide +kernel
theorem dc_Mo_atom_72 : decode M_Mo_atom.2.1 72 = .ok (.dup, 1) := by decide +kernel
theorem dc_Mo_atom_73 : decode M_Mo_atom.2.1 73 = .ok (.getfield 171, 3) := by decide +kernel
theorem dc_Mo_atom_76 : decode M_Mo_atom.2.1 76 = .ok (.iconst 1, 1) := by decide +kernel
theorem dc_Mo_atom_77 : decode M_Mo_atom.2.1 77 = .ok (.isub, 1) := by decide +kernel
theorem dc_Mo_atom_78 : decode M_Mo_atom.2.1 78 = .ok (.putfield 171, 3) := by decide +kernel
theorem dc_Mo_atom_81 : decode M_Mo_atom.2.1 81 = .ok (.aload_n 0, 1) := by decide +kernel
theorem dc_Mo_atom_82 : decode M_Mo_atom.2.1 82 = .ok (.getfield 161, 3) := by decide +kernel
theorem dc_Mo_atom_85 : decode M_Mo_atom.2.1 85 = .ok (.ifCond .ne 76, 3) := by decide +kernel
theorem dc_Mo_atom_88 : decode M_Mo_atom.2.1 88 = .ok (.aload_n 0, 1) := by decide +kernel
theorem dc_Mo_atom_89 : decode M_Mo_atom.2.1 89 = .ok (.invokevirtual 177, 3) := by decide +kernel
theorem dc_Mo_atom_92 : decode M_Mo_atom.2.1 92 = .ok (.goto 69, 3) := by decide +kernel
theorem dc_Mo_atom_95 : decode M_Mo_atom.2.1 95 = .ok (.aload_n 0, 1) := by decide +kernel
theorem dc_Mo_atom_96 : decode M_Mo_atom.2.1 96 = .ok (.getfield 161, 3) := by decide +kernel
theorem dc_Mo_atom_99 : decode M_Mo_atom.2.1 99 = .ok (.ifCond .ne 24, 3) := by decide +kernel
theorem dc_Mo_atom_102 : decode M_Mo_atom.2.1 102 = .ok (.aload_n 0, 1) := by decide +kernel
theorem dc_Mo_atom_103 : decode M_Mo_atom.2.1 103 = .ok (.getfield 144, 3) := by decide +kernel
theorem dc_Mo_atom_106 : decode M_Mo_atom.2.1 106 = .ok (.iconst 2, 1) := by decide +kernel
theorem dc_Mo_atom_107 : decode M_Mo_atom.2.1 107 = .ok (.if_icmp .ne 16, 3) := by decide +kernel
theorem dc_Mo_atom_110 : decode M_Mo_atom.2.1 110 = .ok (.aload_n 0, 1) := by decide +kernel
theorem dc_Mo_atom_111 : decode M_Mo_atom.2.1 111 = .ok (.getfield 155, 3) := by decide +kernel
theorem dc_Mo_atom_114 : decode M_Mo_atom.2.1 114 = .ok (.l2i, 1) := by decide +kernel
theorem dc_Mo_atom_115 : decode M_Mo_atom.2.1 115 = .ok (.istore_n 1, 1) := by decide +kernel
theorem dc_Mo_atom_116 : decode M_Mo_atom.2.1 116 = .ok (.aload_n 0, 1) := by decide +kernel
theorem dc_Mo_atom_117 : decode M_Mo_atom.2.1 117 = .ok (.invokevirtual 177, 3) := by decide +kernel
theorem dc_Mo_atom_120 : decode M_Mo_atom.2.1 120 = .ok (.goto 41, 3) := by decide +kernel
theorem dc_Mo_atom_123 : decode M_Mo_atom.2.1 123 = .ok (.aload_n 0, 1) := by decide +kernel
theorem dc_Mo_atom_124 : decode M_Mo_atom.2.1 124 = .ok (.getfield 161, 3) := by decide +kernel
theorem dc_Mo_atom_127 : decode M_Mo_atom.2.1 127 = .ok (.ifCond .ne 30, 3) := by decide +kernel
theorem dc_Mo_atom_130 : decode M_Mo_atom.2.1 130 = .ok (.aload_n 0, 1) := by decide +kernel
theorem dc_Mo_atom_131 : decode M_Mo_atom.2.1 131 = .ok (.getfield 144, 3) := by decide +kernel
theorem dc_Mo_atom_134 : decode M_Mo_atom.2.1 134 = .ok (.iconst 1, 1) := by decide +kernel
theorem dc_Mo_atom_135 : decode M_Mo_atom.2.1 135 = .ok (.if_icmp .ne 22, 3) := by decide +kernel
theorem dc_Mo_atom_138 : decode M_Mo_atom.2.1 138 = .ok (.aload_n 0, 1) := by decide +kernel
theorem dc_Mo_atom_139 : decode M_Mo_atom.2.1 139 = .ok (.invokevirtual 216, 3) := by decide +kernel
theorem dc_Mo_atom_142 : decode M_Mo_atom.2.1 142 = .ok (.istore_n 1, 1) := by decide +kernel
theorem dc_Mo_atom_143 : decode M_Mo_atom.2.1 143 = .ok (.aload_n 0, 1) := by decide +kernel
theorem dc_Mo_atom_144 : decode M_Mo_atom.2.1 144 = .ok (.getfield 161, 3) := by decide +kernel
theorem dc_Mo_atom_147 : decode M_Mo_atom.2.1 147 = .ok (.ifCond .ne 14, 3) := by decide +kernel
theorem dc_Mo_atom_150 : decode M_Mo_atom.2.1 150 = .ok (.aload_n 0, 1) := by decide +kernel
theorem dc_Mo_atom_151 : decode M_Mo_atom.2.1 151 = .ok (.invokevirtual 177, 3) := by decide +kernel
theorem dc_Mo_atom_154 : decode M_Mo_atom.2.1 154 = .ok (.goto 7, 3) := by decide +kernel
theorem dc_Mo_atom_157 : decode M_Mo_atom.2.1 157 = .ok (.aload_n 0, 1) := by decide +kernel
theorem dc_Mo_atom_158 : decode M_Mo_atom.2.1 158 = .ok (.invokevirtual 174, 3) := by decide +kernel
theorem dc_Mo_atom_161 : decode M_Mo_atom.2.1 161 = .ok (.iload_n 1, 1) := by decide +kernel
theorem dc_Mo_atom_162 : decode M_Mo_atom.2.1 162 = .ok (.ireturn, 1) := by decide +kernel
theorem dc_Mo_both_0 : decode M_Mo_both.2.1 0 = .ok (.aload_n 0, 1) := by decide +kernel
theorem dc_Mo_both_1 : decode M_Mo_both.2.1 1 = .ok (.invokevirtual 224, 3) := by decide +kernel
theorem dc_Mo_both_4 : decode M_Mo_both.2.1 4 = .ok (.istore_n 1, 1) := by decide +kernel
theorem dc_Mo_both_5 : decode M_Mo_both.2.1 5 = .ok (.aload_n 0, 1) := by decide +kernel
theorem dc_Mo_both_6 : decode M_Mo_both.2.1 6 = .ok (.bipush 97, 2) := by decide +kernel
theorem dc_Mo_both_8 : decode M_Mo_both.2.1 8 = .ok (.bipush 110, 2) := by decide +kernel
theorem dc_Mo_both_10 : decode M_Mo_both.2.1 10 = .ok (.bipush 100, 2) := by decide +kernel
theorem dc_Mo_both_12 : decode M_Mo_both.2.1 12 = .ok (.iconst 0, 1) := by decide +kernel
theorem dc_Mo_both_13 : decode M_Mo_both.2.1 13 = .ok (.iconst 0, 1) := by decide +kernel
theorem dc_Mo_both_14 : decode M_Mo_both.2.1 14 = .ok (.iconst 0, 1) := by decide +kernel
theorem dc_Mo_both_15 : decode M_Mo_both.2.1 15 = .ok (.iconst 0, 1) := by decide +kernel
theorem dc_Mo_both_16 : decode M_Mo_both.2.1 16 = .ok (.iconst 0, 1) := by decide +kernel
theorem dc_Mo_both_17 : decode M_Mo_both.2.1 17 = .ok (.invokevirtual 180, 3) := by decide +kernel
theorem dc_Mo_both_20 : decode M_Mo_both.2.1 20 = .ok (.ifCond .eq 29, 3) := by decide +kernel
theorem dc_Mo_both_23 : decode M_Mo_both.2.1 23 = .ok (.aload_n 0, 1) := by decide +kernel
theorem dc_Mo_both_24 : decode M_Mo_both.2.1 24 = .ok (.invokevirtual 177, 3) := by decide +kernel
theorem dc_Mo_both_27 : decode M_Mo_both.2.1 27 = .ok (.aload_n 0, 1) := by decide +kernel
theorem dc_Mo_both_28 : decode M_Mo_both.2.1 28 = .ok (.invokevirtual 224, 3) := by decide +kernel
theorem dc_Mo_both_31 : decode M_Mo_both.2.1 31 = .ok (.istore_n 2, 1) := by decide +kernel
theorem dc_Mo_both_32 : decode M_Mo_both.2.1 32 = .ok (.iload_n 1, 1) := by decide +kernel
theorem dc_Mo_both_33 : decode M_Mo_both.2.1 33 = .ok (.ifCond .eq 11, 3) := by decide +kernel
theorem dc_Mo_both_36 : decode M_Mo_both.2.1 36 = .ok (.iload_n 2, 1) := by decide +kernel
theorem dc_Mo_both_37 : decode M_Mo_both.2.1 37 = .ok (.ifCond .eq 7, 3) := by decide +kernel
theorem dc_Mo_both_40 : decode M_Mo_both.2.1 40 = .ok (.iconst 1, 1) := by decide +kernel
theorem dc_Mo_both_41 : decode M_Mo_both.2.1 41 = .ok (.goto 4, 3) := by decide +kernel
theorem dc_Mo_both_44 : decode M_Mo_both.2.1 44 = .ok (.iconst 0, 1) := by decide +kernel
theorem dc_Mo_both_45 : decode M_Mo_both.2.1 45 = .ok (.istore_n 1, 1) := by decide +kernel
theorem dc_Mo_both_46 : decode M_Mo_both.2.1 46 = .ok (.goto (-41), 3) := by decide +kernel
theorem dc_Mo_both_49 : decode M_Mo_both.2.1 49 = .ok (.iload_n 1, 1) := by decide +kernel
theorem dc_Mo_both_50 : decode M_Mo_both.2.1 50 = .ok (.ireturn, 1) := by decide +kernel
theorem dc_Mo_either_0 : decode M_Mo_either.2.1 0 = .ok (.aload_n 0, 1) := by decide +kernel
theorem dc_Mo_either_1 : decode M_Mo_either.2.1 1 = .ok (.invokevirtual 232, 3) := by decide +kernel
theorem dc_Mo_either_4 : decode M_Mo_either.2.1 4 = .ok (.istore_n 1, 1) := by decide +kernel
theorem dc_Mo_either_5 : decode M_Mo_either.2.1 5 = .ok (.aload_n 0, 1) := by decide +kernel
theorem dc_Mo_either_6 : decode M_Mo_either.2.1 6 = .ok (.bipush 111, 2) := by decide +kernel
theorem dc_Mo_either_8 : decode M_Mo_either.2.1 8 = .ok (.bipush 114, 2) := by decide +kernel
theorem dc_Mo_either_10 : decode M_Mo_either.2.1 10 = .ok (.iconst 0, 1) := by decide +kernel
theorem dc_Mo_either_11 : decode M_Mo_either.2.1 11 = .ok (.iconst 0, 1) := by decide +kernel
theorem dc_Mo_either_12 : decode M_Mo_either.2.1 12 = .ok (.iconst 0, 1) := by decide +kernel
theorem dc_Mo_either_13 : decode M_Mo_either.2.1 13 = .ok (.iconst 0, 1) := by decide +kernel
theorem dc_Mo_either_14 : decode M_Mo_either.2.1 14 = .ok (.iconst 0, 1) := by decide +kernel
theorem dc_Mo_either_15 : decode M_Mo_either.2.1 15 = .ok (.iconst 0, 1) := by decide +kernel
theorem dc_Mo_either_16 : decode M_Mo_either.2.1 16 = .ok (.invokevirtual 180, 3) := by decide +kernel
theorem dc_Mo_either_19 : decode M_Mo_either.2.1 19 = .ok (.ifCond .eq 29, 3) := by decide +kernel
theorem dc_Mo_either_22 : decode M_Mo_either.2.1 22 = .ok (.aload_n 0, 1) := by decide +kernel
theorem dc_Mo_either_23 : decode M_Mo_either.2.1 23 = .ok (.invokevirtual 177, 3) := by decide +kernel
theorem dc_Mo_either_26 : decode M_Mo_either.2.1 26 = .ok (.aload_n 0, 1) := by decide +kernel
theorem dc_Mo_either_27 : decode M_Mo_either.2.1 27 = .ok (.invokevirtual 232, 3) := by decide +kernel
theorem dc_Mo_either_30 : decode M_Mo_either.2.1 30 = .ok (.istore_n 2, 1) := by decide +kernel
theorem dc_Mo_either_31 : decode M_Mo_either.2.1 31 = .ok (.iload_n 1, 1) := by decide +kernel
theorem dc_Mo_either_32 : decode M_Mo_either.2.1 32 = .ok (.ifCond .ne 7, 3) := by decide +kernel
theorem dc_Mo_either_35 : decode M_Mo_either.2.1 35 = .ok (.iload_n 2, 1) := by decide +kernel
theorem dc_Mo_either_36 : decode M_Mo_either.2.1 36 = .ok (.ifCond .eq 7, 3) := by decide +kernel
theorem dc_Mo_either_39 : decode M_Mo_either.2.1 39 = .ok (.iconst 1, 1) := by decide +kernel
theorem dc_Mo_either_40 : decode M_Mo_either.2.1 40 = .ok (.goto 4, 3) := by decide +kernel
theorem dc_Mo_either_43 : decode M_Mo_either.2.1 43 = .ok (.iconst 0, 1) := by decide +kernel
theorem dc_Mo_either_44 : decode M_Mo_either.2.1 44 = .ok (.istore_n 1, 1) := by decide +kernel
theorem dc_Mo_either_45 : decode M_Mo_either.2.1 45 = .ok (.goto (-40), 3) := by decide +kernel
theorem dc_Mo_either_48 : decode M_Mo_either.2.1 48 = .ok (.iload_n 1, 1) := by decide +kernel
theorem dc_Mo_either_49 : decode M_Mo_either.2.1 49 = .ok (.ireturn, 1) := by decide +kernel
theorem dc_Mo_not_0 : decode M_Mo_not.2.1 0 = .ok (.aload_n 0, 1) := by decide +kernel
theorem dc_Mo_not_1 : decode M_Mo_not.2.1 1 = .ok (.bipush 110, 2) := by decide +kernel
theorem dc_Mo_not_3 : decode M_Mo_not.2.1 3 = .ok (.bipush 111, 2) := by decide +kernel
theorem dc_Mo_not_5 : decode M_Mo_not.2.1 5 = .ok (.bipush 116, 2) := by decide +kernel
theorem dc_Mo_not_7 : decode M_Mo_not.2.1 7 = .ok (.iconst 0, 1) := by decide +kernel
theorem dc_Mo_not_8 : decode M_Mo_not.2.1 8 = .ok (.iconst 0, 1) := by decide +kernel
theorem dc_Mo_not_9 : decode M_Mo_not.2.1 9 = .ok (.iconst 0, 1) := by decide +kernel
theorem dc_Mo_not_10 : decode M_Mo_not.2.1 10 = .ok (.iconst 0, 1) := by decide +kernel
theorem dc_Mo_not_11 : decode M_Mo_not.2.1 11 = .ok (.iconst 0, 1) := by decide +kernel
theorem dc_Mo_not_12 : decode M_Mo_not.2.1 12 = .ok (.invokevirtual 180, 3) := by decide +kernel
theorem dc_Mo_not_15 : decode M_Mo_not.2.1 15 = .ok (.ifCond .eq 37, 3) := by decide +kernel
theorem dc_Mo_not_18 : decode M_Mo_not.2.1 18 = .ok (.aload_n 0, 1) := by decide +kernel
theorem dc_Mo_not_19 : decode M_Mo_not.2.1 19 = .ok (.invokevirtual 205, 3) := by decide +kernel
theorem dc_Mo_not_22 : decode M_Mo_not.2.1 22 = .ok (.ifCond .ne 5, 3) := by decide +kernel
theorem dc_Mo_not_25 : decode M_Mo_not.2.1 25 = .ok (.iconst 0, 1) := by decide +kernel
theorem dc_Mo_not_26 : decode M_Mo_not.2.1 26 = .ok (.ireturn, 1) := by decide +kernel
theorem dc_Mo_not_27 : decode M_Mo_not.2.1 27 = .ok (.aload_n 0, 1) := by decide +kernel
theorem dc_Mo_not_28 : decode M_Mo_not.2.1 28 = .ok (.invokevirtual 224, 3) := by decide +kernel
theorem dc_Mo_not_31 : decode M_Mo_not.2.1 31 = .ok (.istore_n 1, 1) := by decide +kernel
theorem dc_Mo_not_32 : decode M_Mo_not.2.1 32 = .ok (.aload_n 0, 1) := by decide +kernel
theorem dc_Mo_not_33 : decode M_Mo_not.2.1 33 = .ok (.dup, 1) := by decide +kernel
theorem dc_Mo_not_34 : decode M_Mo_not.2.1 34 = .ok (.getfield 171, 3) := by decide +kernel
theorem dc_Mo_not_37 : decode M_Mo_not.2.1 37 = .ok (.iconst 1, 1) := by decide +kernel
theorem dc_Mo_not_38 : decode M_Mo_not.2.1 38 = .ok (.isub, 1) := by decide +kernel
theorem dc_Mo_not_39 : decode M_Mo_not.2.1 39 = .ok (.putfield 171, 3) := by decide +kernel
theorem dc_Mo_not_42 : decode M_Mo_not.2.1 42 = .ok (.iload_n 1, 1) := by decide +kernel
theorem dc_Mo_not_43 : decode M_Mo_not.2.1 43 = .ok (.ifCond .ne 7, 3) := by decide +kernel
theorem dc_Mo_not_46 : decode M_Mo_not.2.1 46 = .ok (.iconst 1, 1) := by decide +kernel
theorem dc_Mo_not_47 : decode M_Mo_not.2.1 47 = .ok (.goto 4, 3) := by decide +kernel
theorem dc_Mo_not_50 : decode M_Mo_not.2.1 50 = .ok (.iconst 0, 1) := by decide +kernel
theorem dc_Mo_not_51 : decode M_Mo_not.2.1 51 = .ok (.ireturn, 1) := by decide +kernel
theorem dc_Mo_not_52 : decode M_Mo_not.2.1 52 = .ok (.aload_n 0, 1) := by decide +kernel
theorem dc_Mo_not_53 : decode M_Mo_not.2.1 53 = .ok (.invokevirtual 227, 3) := by decide +kernel
theorem dc_Mo_not_56 : decode M_Mo_not.2.1 56 = .ok (.istore_n 1, 1) := by decide +kernel
theorem dc_Mo_not_57 : decode M_Mo_not.2.1 57 = .ok (.aload_n 0, 1) := by decide +kernel
theorem dc_Mo_not_58 : decode M_Mo_not.2.1 58 = .ok (.bipush 60, 2) := by decide +kernel
theorem dc_Mo_not_60 : decode M_Mo_not.2.1 60 = .ok (.invokevirtual 202, 3) := by decide +kernel
theorem dc_Mo_not_63 : decode M_Mo_not.2.1 63 = .ok (.ifCond .ne 14, 3) := by decide +kernel
theorem dc_Mo_not_66 : decode M_Mo_not.2.1 66 = .ok (.aload_n 0, 1) := by decide +kernel
theorem dc_Mo_not_67 : decode M_Mo_not.2.1 67 = .ok (.bipush 61, 2) := by decide +kernel
theorem dc_Mo_not_69 : decode M_Mo_not.2.1 69 = .ok (.invokevirtual 202, 3) := by decide +kernel
theorem dc_Mo_not_72 : decode M_Mo_not.2.1 72 = .ok (.ifCond .ne 5, 3) := by decide +kernel
theorem dc_Mo_not_75 : decode M_Mo_not.2.1 75 = .ok (.iload_n 1, 1) := by decide +kernel
theorem dc_Mo_not_76 : decode M_Mo_not.2.1 76 = .ok (.ireturn, 1) := by decide +kernel
theorem dc_Mo_not_77 : decode M_Mo_not.2.1 77 = .ok (.aload_n 0, 1) := by decide +kernel
theorem dc_Mo_not_78 : decode M_Mo_not.2.1 78 = .ok (.getfield 155, 3) := by decide +kernel
theorem dc_Mo_not_81 : decode M_Mo_not.2.1 81 = .ok (.ldc2_w 230, 3) := by decide +kernel
theorem dc_Mo_not_84 : decode M_Mo_not.2.1 84 = .ok (.lcmp, 1) := by decide +kernel
theorem dc_Mo_not_85 : decode M_Mo_not.2.1 85 = .ok (.ifCond .ne 7, 3) := by decide +kernel
theorem dc_Mo_not_88 : decode M_Mo_not.2.1 88 = .ok (.iconst 1, 1) := by decide +kernel
theorem dc_Mo_not_89 : decode M_Mo_not.2.1 89 = .ok (.goto 4, 3) := by decide +kernel
theorem dc_Mo_not_92 : decode M_Mo_not.2.1 92 = .ok (.iconst 0, 1) := by decide +kernel
theorem dc_Mo_not_93 : decode M_Mo_not.2.1 93 = .ok (.istore_n 2, 1) := by decide +kernel
theorem dc_Mo_not_94 : decode M_Mo_not.2.1 94 = .ok (.aload_n 0, 1) := by decide +kernel
theorem dc_Mo_not_95 : decode M_Mo_not.2.1 95 = .ok (.invokevirtual 177, 3) := by decide +kernel
theorem dc_Mo_not_98 : decode M_Mo_not.2.1 98 = .ok (.aload_n 0, 1) := by decide +kernel
theorem dc_Mo_not_99 : decode M_Mo_not.2.1 99 = .ok (.invokevirtual 227, 3) := by decide +kernel
theorem dc_Mo_not_102 : decode M_Mo_not.2.1 102 = .ok (.istore_n 3, 1) := by decide +kernel
theorem dc_Mo_not_103 : decode M_Mo_not.2.1 103 = .ok (.iload_n 2, 1) := by decide +kernel
theorem dc_Mo_not_104 : decode M_Mo_not.2.1 104 = .ok (.ifCond .eq 11, 3) := by decide +kernel
theorem dc_Mo_not_107 : decode M_Mo_not.2.1 107 = .ok (.iload_n 1, 1) := by decide +kernel
theorem dc_Mo_not_108 : decode M_Mo_not.2.1 108 = .ok (.iload_n 3, 1) := by decide +kernel
theorem dc_Mo_not_109 : decode M_Mo_not.2.1 109 = .ok (.if_icmp .ge 15, 3) := by decide +kernel
theorem dc_Mo_not_112 : decode M_Mo_not.2.1 112 = .ok (.goto 8, 3) := by decide +kernel
theorem dc_Mo_not_115 : decode M_Mo_not.2.1 115 = .ok (.iload_n 1, 1) := by decide +kernel
theorem dc_Mo_not_116 : decode M_Mo_not.2.1 116 = .ok (.iload_n 3, 1) := by decide +kernel
theorem dc_Mo_not_117 : decode M_Mo_not.2.1 117 = .ok (.if_icmp .ne 7, 3) := by decide +kernel
theorem dc_Mo_not_120 : decode M_Mo_not.2.1 120 = .ok (.iconst 1, 1) := by decide +kernel
theorem dc_Mo_not_121 : decode M_Mo_not.2.1 121 = .ok (.goto 4, 3) := by decide +kernel
theorem dc_Mo_not_124 : decode M_Mo_not.2.1 124 = .ok (.iconst 0, 1) := by decide +kernel
theorem dc_Mo_not_125 : decode M_Mo_not.2.1 125 = .ok (.ireturn, 1) := by decide +kernel
theorem dc_Mo_term_0 : decode M_Mo_term.2.1 0 = .ok (.aload_n 0, 1) := by decide +kernel
theorem dc_Mo_term_1 : decode M_Mo_term.2.1 1 = .ok (.invokevirtual 209, 3) := by decide +kernel
theorem dc_Mo_term_4 : decode M_Mo_term.2.1 4 = .ok (.istore_n 1, 1) := by decide +kernel
theorem dc_Mo_term_5 : decode M_Mo_term.2.1 5 = .ok (.aload_n 0, 1) := by decide +kernel
theorem dc_Mo_term_6 : decode M_Mo_term.2.1 6 = .ok (.bipush 42, 2) := by decide +kernel
theorem dc_Mo_term_8 : decode M_Mo_term.2.1 8 = .ok (.invokevirtual 202, 3) := by decide +kernel
theorem dc_Mo_term_11 : decode M_Mo_term.2.1 11 = .ok (.ifCond .eq 17, 3) := by decide +kernel
theorem dc_Mo_term_14 : decode M_Mo_term.2.1 14 = .ok (.aload_n 0, 1) := by decide +kernel
theorem dc_Mo_term_15 : decode M_Mo_term.2.1 15 = .ok (.invokevirtual 177, 3) := by decide +kernel
theorem dc_Mo_term_18 : decode M_Mo_term.2.1 18 = .ok (.iload_n 1, 1) := by decide +kernel
theorem dc_Mo_term_19 : decode M_Mo_term.2.1 19 = .ok (.aload_n 0, 1) := by decide +kernel
theorem dc_Mo_term_20 : decode M_Mo_term.2.1 20 = .ok (.invokevirtual 209, 3) := by decide +kernel
theorem dc_Mo_term_23 : decode M_Mo_term.2.1 23 = .ok (.imul, 1) := by decide +kernel
theorem dc_Mo_term_24 : decode M_Mo_term.2.1 24 = .ok (.istore_n 1, 1) := by decide +kernel
theorem dc_Mo_term_25 : decode M_Mo_term.2.1 25 = .ok (.goto (-20), 3) := by decide +kernel
theorem dc_Mo_term_28 : decode M_Mo_term.2.1 28 = .ok (.iload_n 1, 1) := by decide +kernel
theorem dc_Mo_term_29 : decode M_Mo_term.2.1 29 = .ok (.ireturn, 1) := by decide +kernel
def f_Mo_term_L5 (R0 : Nat → xH → Option (Int32 × xH)) (R1 : Nat → xH → Option (Int32 × xH)) (a0 : Nat) : Nat → Int32 → xH → (Int32 → xH → Option (Int32 × xH)) → Option (Int32 × xH)
  | 0, _, _, _ => none
  | n + 1, a1, h, K => gd (hK h a0 = 11) (Option.bind (f_Mo_isSign a0 (42 : Int32) h) (fun q11 => if q11.1 = 0 then K a1 q11.2 else gd (hK q11.2 a0 = 11) (Option.bind (f_Mo_next a0 q11.2) (fun q14 => gd (hK q14.2 a0 = 11) (Option.bind (R0 a0 q14.2) (fun q16 => f_Mo_term_L5 R0 R1 a0 n (a1 * q16.1) q16.2 K))))))
def f_Mo_term (R0 : Nat → xH → Option (Int32 × xH)) (R1 : Nat → xH → Option (Int32 × xH)) (a0 : Nat) (h : xH) : Option (Int32 × xH) := gd (hK h a0 = 11) (Option.bind (R0 a0 h) (fun q9 => f_Mo_term_L5 R0 R1 a0 fu q9.1 q9.2 (fun v18 h19 => some (v18, h19))))
def f_Mo_added_L5 (R0 : Nat → xH → Option (Int32 × xH)) (R1 : Nat → xH → Option (Int32 × xH)) (a0 : Nat) : Nat → Int32 → xH → (Int32 → xH → Option (Int32 × xH)) → Option (Int32 × xH)
  | 0, _, _, _ => none
  | n + 1, a1, h, K => gd (hK h a0 = 11) (Option.bind (f_Mo_isSign a0 (43 : Int32) h) (fun q13 => jn (fun (x15 : xH) => gd (hK x15 a0 = 11) (Option.bind (f_Mo_next a0 x15) (fun q20 => gd (hK q20.2 a0 = 11) (Option.bind (f_Mo_term R0 R1 a0 q20.2) (fun q21 => f_Mo_added_L5 R0 R1 a0 n (if (if (jCmpL ((hI x15 a0 24).toInt64) (43 : Int64)) = 0 then (1 : Int32) else (0 : Int32)) = 0 then a1 - q21.1 else a1 + q21.1) q21.2 K))))) (fun k16 => if q13.1 = 0 then gd (hK q13.2 a0 = 11) (Option.bind (f_Mo_isSign a0 (45 : Int32) q13.2) (fun q26 => if q26.1 = 0 then K a1 q26.2 else k16 q26.2)) else k16 q13.2)))
def f_Mo_added (R0 : Nat → xH → Option (Int32 × xH)) (R1 : Nat → xH → Option (Int32 × xH)) (a0 : Nat) (h : xH) : Option (Int32 × xH) := gd (hK h a0 = 11) (Option.bind (f_Mo_term R0 R1 a0 h) (fun q11 => f_Mo_added_L5 R0 R1 a0 fu q11.1 q11.2 (fun v29 h30 => some (v29, h30))))
def f_Mo_both_L5 (R0 : Nat → xH → Option (Int32 × xH)) (R1 : Nat → xH → Option (Int32 × xH)) (a0 : Nat) : Nat → Int32 → xH → (Int32 → xH → Option (Int32 × xH)) → Option (Int32 × xH)
  | 0, _, _, _ => none
  | n + 1, a1, h, K => gd (hK h a0 = 11) (Option.bind (f_Mo_isWord a0 (97 : Int32) (110 : Int32) (100 : Int32) (0 : Int32) (0 : Int32) (0 : Int32) (0 : Int32) (0 : Int32) h) (fun q11 => if q11.1 = 0 then K a1 q11.2 else gd (hK q11.2 a0 = 11) (Option.bind (f_Mo_next a0 q11.2) (fun q14 => gd (hK q14.2 a0 = 11) (Option.bind (R1 a0 q14.2) (fun q16 => jn (fun (x18 : Int32) => f_Mo_both_L5 R0 R1 a0 n x18 q16.2 K) (fun k19 => jn (fun (x20 : Unit) => k19 (0 : Int32)) (fun k21 => if a1 = 0 then k21 () else if q16.1 = 0 then k21 () else k19 (1 : Int32)))))))))
def f_Mo_both (R0 : Nat → xH → Option (Int32 × xH)) (R1 : Nat → xH → Option (Int32 × xH)) (a0 : Nat) (h : xH) : Option (Int32 × xH) := gd (hK h a0 = 11) (Option.bind (R1 a0 h) (fun q9 => f_Mo_both_L5 R0 R1 a0 fu q9.1 q9.2 (fun v24 h25 => some (v24, h25))))
def f_Mo_either_L5 (R0 : Nat → xH → Option (Int32 × xH)) (R1 : Nat → xH → Option (Int32 × xH)) (a0 : Nat) : Nat → Int32 → xH → (Int32 → xH → Option (Int32 × xH)) → Option (Int32 × xH)
  | 0, _, _, _ => none
  | n + 1, a1, h, K => gd (hK h a0 = 11) (Option.bind (f_Mo_isWord a0 (111 : Int32) (114 : Int32) (0 : Int32) (0 : Int32) (0 : Int32) (0 : Int32) (0 : Int32) (0 : Int32) h) (fun q11 => if q11.1 = 0 then K a1 q11.2 else gd (hK q11.2 a0 = 11) (Option.bind (f_Mo_next a0 q11.2) (fun q14 => gd (hK q14.2 a0 = 11) (Option.bind (f_Mo_both R0 R1 a0 q14.2) (fun q16 => jn (fun (x18 : Int32) => f_Mo_either_L5 R0 R1 a0 n x18 q16.2 K) (fun k19 => jn (fun (x20 : Unit) => k19 (1 : Int32)) (fun k21 => if a1 = 0 then if q16.1 = 0 then k19 (0 : Int32) else k21 () else k21 ()))))))))
def f_Mo_either (R0 : Nat → xH → Option (Int32 × xH)) (R1 : Nat → xH → Option (Int32 × xH)) (a0 : Nat) (h : xH) : Option (Int32 × xH) := gd (hK h a0 = 11) (Option.bind (f_Mo_both R0 R1 a0 h) (fun q9 => f_Mo_either_L5 R0 R1 a0 fu q9.1 q9.2 (fun v24 h25 => some (v24, h25))))
def fb_Mo_atom (R0 : Nat → xH → Option (Int32 × xH)) (R1 : Nat → xH → Option (Int32 × xH)) (a0 : Nat) (h : xH) : Option (Int32 × xH) := gd (hK h a0 = 11) (Option.bind (f_Mo_isSign a0 (45 : Int32) h) (fun q26 => jn (fun (x28 : Int32 × xH) => some (x28.1, x28.2)) (fun k29 => if q26.1 = 0 then gd (hK q26.2 a0 = 11) (Option.bind (f_Mo_isSign a0 (40 : Int32) q26.2) (fun q31 => if q31.1 = 0 then gd (hK q31.2 a0 = 11) (jn (fun (x35 : Unit) => jn (fun (x37 : Unit) => Option.bind (f_Mo_fail a0 q31.2) (fun q39 => k29 ((0 : Int32), q39.2))) (fun k38 => if (hI q31.2 a0 26) = 0 then if (hI q31.2 a0 22) = (1 : Int32) then Option.bind (f_Mo_name a0 q31.2) (fun q42 => gd (hK q42.2 a0 = 11) (if (hI q42.2 a0 26) = 0 then Option.bind (f_Mo_next a0 q42.2) (fun q45 => k29 (q42.1, q45.2)) else k29 (q42.1, q42.2))) else k38 () else k38 ())) (fun k36 => if (hI q31.2 a0 26) = 0 then if (hI q31.2 a0 22) = (2 : Int32) then Option.bind (f_Mo_next a0 q31.2) (fun q48 => k29 ((((hI q31.2 a0 24).toInt64).toInt32), q48.2)) else k36 () else k36 ())) else gd (hK q31.2 a0 = 11) (Option.bind (f_Mo_opens a0 q31.2) (fun q49 => if q49.1 = 0 then k29 ((0 : Int32), q49.2) else gd (hK q49.2 a0 = 11) (Option.bind (f_Mo_either R0 R1 a0 q49.2) (fun q52 => gd (hK q52.2 a0 = 11) (Option.bind (f_Mo_isSign a0 (41 : Int32) q52.2) (fun q54 => jn (fun (x56 : xH) => gd (hK x56 a0 = 11) (if (hI (hIu x56 a0 25 ((hI x56 a0 25) - (1 : Int32))) a0 26) = 0 then Option.bind (f_Mo_next a0 (hIu x56 a0 25 ((hI x56 a0 25) - (1 : Int32)))) (fun q60 => k29 (q52.1, q60.2)) else k29 (q52.1, (hIu x56 a0 25 ((hI x56 a0 25) - (1 : Int32)))))) (fun k57 => if q54.1 = 0 then gd (hK q54.2 a0 = 11) (Option.bind (f_Mo_fail a0 q54.2) (fun q62 => k57 q62.2)) else k57 q54.2))))))))) else gd (hK q26.2 a0 = 11) (Option.bind (f_Mo_opens a0 q26.2) (fun q64 => if q64.1 = 0 then k29 ((0 : Int32), q64.2) else gd (hK q64.2 a0 = 11) (Option.bind (R0 a0 q64.2) (fun q67 => gd (hK q67.2 a0 = 11) (k29 ((-q67.1), (hIu q67.2 a0 25 ((hI q67.2 a0 25) - (1 : Int32))))))))))))
def fb_Mo_not (R0 : Nat → xH → Option (Int32 × xH)) (R1 : Nat → xH → Option (Int32 × xH)) (a0 : Nat) (h : xH) : Option (Int32 × xH) := gd (hK h a0 = 11) (Option.bind (f_Mo_isWord a0 (110 : Int32) (111 : Int32) (116 : Int32) (0 : Int32) (0 : Int32) (0 : Int32) (0 : Int32) (0 : Int32) h) (fun q18 => if q18.1 = 0 then gd (hK q18.2 a0 = 11) (Option.bind (f_Mo_added R0 R1 a0 q18.2) (fun q21 => gd (hK q21.2 a0 = 11) (Option.bind (f_Mo_isSign a0 (60 : Int32) q21.2) (fun q23 => jn (fun (x25 : xH) => gd (hK x25 a0 = 11) (Option.bind (f_Mo_next a0 x25) (fun q30 => gd (hK q30.2 a0 = 11) (Option.bind (f_Mo_added R0 R1 a0 q30.2) (fun q31 => jn (fun (x33 : Int32) => some (x33, q31.2)) (fun k34 => jn (fun (x35 : Unit) => k34 (1 : Int32)) (fun k36 => jn (fun (x37 : Unit) => k34 (0 : Int32)) (fun k38 => if (if (jCmpL ((hI x25 a0 24).toInt64) (60 : Int64)) = 0 then (1 : Int32) else (0 : Int32)) = 0 then if q21.1 = q31.1 then k36 () else k38 () else if q31.1 ≤ q21.1 then k38 () else k36 ())))))))) (fun k26 => if q23.1 = 0 then gd (hK q23.2 a0 = 11) (Option.bind (f_Mo_isSign a0 (61 : Int32) q23.2) (fun q43 => if q43.1 = 0 then some (q21.1, q43.2) else k26 q43.2)) else k26 q23.2))))) else gd (hK q18.2 a0 = 11) (Option.bind (f_Mo_opens a0 q18.2) (fun q46 => if q46.1 = 0 then some ((0 : Int32), q46.2) else gd (hK q46.2 a0 = 11) (Option.bind (R1 a0 q46.2) (fun q49 => gd (hK q49.2 a0 = 11) (some ((if q49.1 = 0 then (1 : Int32) else (0 : Int32)), hIu q49.2 a0 25 ((hI q49.2 a0 25) - (1 : Int32))))))))))
def G_Mo : Nat → (Nat → xH → Option (Int32 × xH)) × (Nat → xH → Option (Int32 × xH))
  | 0 => (fun _ _ => none, fun _ _ => none)
  | g + 1 => (fun a0 h => fb_Mo_atom (G_Mo g).1 (G_Mo g).2 a0 h, fun a0 h => fb_Mo_not (G_Mo g).1 (G_Mo g).2 a0 h)
def f_Mo_atom (a0 : Nat) (h : xH) : Option (Int32 × xH) := (G_Mo 24).1 a0 h
def f_Mo_not (a0 : Nat) (h : xH) : Option (Int32 × xH) := (G_Mo 24).2 a0 h
def fo_Mo_either (a0 : Nat) (h : xH) : Option (Int32 × xH) := f_Mo_either (G_Mo 24).1 (G_Mo 24).2 a0 h
theorem t_Mo_term_L5 {l : Launch} {z : xZ} {d mc ms : Nat} {Ph : Option xV → xH → Prop} {R0 : Nat → xH → Option (Int32 × xH)} {R1 : Nat → xH → Option (Int32 × xH)} {a0 : Nat} {B : Nat} (hR0 : ∀ {d mc ms : Nat} {Ph : Option xV → xH → Prop} {a0 : Nat} {h : xH}, B ≤ d → OK (R0 a0 h) (fun q => Ph (some (xI q.1)) q.2) → Sx l z d mc ms M_Mo_atom 0 (x_en [xR a0] 2) [] h Ph) (hR1 : ∀ {d mc ms : Nat} {Ph : Option xV → xH → Prop} {a0 : Nat} {h : xH}, B ≤ d → OK (R1 a0 h) (fun q => Ph (some (xI q.1)) q.2) → Sx l z d mc ms M_Mo_not 0 (x_en [xR a0] 4) [] h Ph) (hd : B + 3 ≤ d) : ∀ (n : Nat) (a1 : Int32) (h : xH) (K : Int32 → xH → Option (Int32 × xH)), OK (f_Mo_term_L5 R0 R1 a0 n a1 h K) (fun q => Ph (some (xI q.1)) q.2) → (∀ (a1 : Int32) (h : xH), OK (K a1 h) (fun q => Ph (some (xI q.1)) q.2) → Sx l z d mc ms M_Mo_term 28 [some (xR a0), some (xI a1)] [] h Ph) → Sx l z d mc ms M_Mo_term 5 [some (xR a0), some (xI a1)] [] h Ph := by
  intro n
  induction n with
  | zero => intro a1 h K hk hE; exact hk.no
  | succ n ih =>
    intro a1 h K hk hE
    rw [f_Mo_term_L5] at hk
    refine sx_aload_n dc_Mo_term_5 rfl ?_
    refine sx_bipush (v := (42 : Int32)) dc_Mo_term_6 (by decide) ?_
    obtain ⟨g12, hk⟩ := hk.g
    obtain ⟨q11, eq11, hk⟩ := hk.bind
    refine sx_callV (d2 := d - 1) (mc2 := 0) (ms2 := 0) (as := [xI (42 : Int32)]) mk_Mo_isSign rfl (x_rk (ci := 11) g12 rfl rfl) wM_Mo_202 mi_Mo_isSign me_Mo_isSign rfl (Nat.le_of_ble_eq_true rfl) (Nat.le_of_ble_eq_true rfl) dc_Mo_term_8 (by omega) (Nat.zero_le _) (Nat.zero_le _) ?_
    refine t_Mo_isSign (by omega) ⟨q11, eq11, ?_⟩
    refine sx_eq0 (lc2 := [some (xR a0), some (xI a1)]) (st2 := [xI q11.1]) rfl rfl ?_
    refine sx_if_eq (tgt := 28) dc_Mo_term_11 (by decide) (fun c13 => ?_) (fun c13 => ?_)
    · replace hk := hk.t c13
      exact hE a1 q11.2 hk
    · replace hk := hk.f c13
      refine sx_aload_n dc_Mo_term_14 rfl ?_
      obtain ⟨g15, hk⟩ := hk.g
      obtain ⟨q14, eq14, hk⟩ := hk.bind
      refine sx_callV (d2 := d - 1) (mc2 := 0) (ms2 := 0) (as := []) mk_Mo_next rfl (x_rk (ci := 11) g15 rfl rfl) wM_Mo_177 mi_Mo_next me_Mo_next rfl (Nat.le_of_ble_eq_true rfl) (Nat.le_of_ble_eq_true rfl) dc_Mo_term_15 (by omega) (Nat.zero_le _) (Nat.zero_le _) ?_
      refine t_Mo_next (by omega) ⟨q14, eq14, ?_⟩
      refine sx_eq0 (lc2 := [some (xR a0), some (xI a1)]) (st2 := []) rfl rfl ?_
      refine sx_iload_n dc_Mo_term_18 rfl ?_
      refine sx_aload_n dc_Mo_term_19 rfl ?_
      obtain ⟨g17, hk⟩ := hk.g
      obtain ⟨q16, eq16, hk⟩ := hk.bind
      refine sx_callV (d2 := d - 1) (mc2 := 0) (ms2 := 0) (as := []) mk_Mo_atom rfl (x_rk (ci := 11) g17 rfl rfl) wM_Mo_209 mi_Mo_atom me_Mo_atom rfl (Nat.le_of_ble_eq_true rfl) (Nat.le_of_ble_eq_true rfl) dc_Mo_term_20 (by omega) (Nat.zero_le _) (Nat.zero_le _) ?_
      refine hR0 (by omega) ⟨q16, eq16, ?_⟩
      refine sx_eq0 (lc2 := [some (xR a0), some (xI a1)]) (st2 := [xI q16.1, xI a1]) rfl rfl ?_
      refine sx_imul dc_Mo_term_23 ?_
      refine sx_istore_n dc_Mo_term_24 (by decide) (sx_eq (lc2 := [some (xR a0), some (xI (a1 * q16.1))]) rfl rfl ?_)
      refine sx_goto (tgt := 5) dc_Mo_term_25 (by decide) ?_
      exact ih (a1 * q16.1) q16.2 _ hk hE
theorem t_Mo_term {l : Launch} {z : xZ} {d mc ms : Nat} {Ph : Option xV → xH → Prop} {R0 : Nat → xH → Option (Int32 × xH)} {R1 : Nat → xH → Option (Int32 × xH)} {B : Nat} (hR0 : ∀ {d mc ms : Nat} {Ph : Option xV → xH → Prop} {a0 : Nat} {h : xH}, B ≤ d → OK (R0 a0 h) (fun q => Ph (some (xI q.1)) q.2) → Sx l z d mc ms M_Mo_atom 0 (x_en [xR a0] 2) [] h Ph) (hR1 : ∀ {d mc ms : Nat} {Ph : Option xV → xH → Prop} {a0 : Nat} {h : xH}, B ≤ d → OK (R1 a0 h) (fun q => Ph (some (xI q.1)) q.2) → Sx l z d mc ms M_Mo_not 0 (x_en [xR a0] 4) [] h Ph) {a0 : Nat}  {h : xH} (hd : B + 3 ≤ d) (hk : OK (f_Mo_term R0 R1 a0 h) (fun q => Ph (some (xI q.1)) q.2)) : Sx l z d mc ms M_Mo_term 0 (x_en [xR a0] 2) [] h Ph := by
  unfold f_Mo_term at hk
  refine sx_eq (lc2 := [some (xR a0), none]) rfl rfl ?_
  refine sx_aload_n dc_Mo_term_0 rfl ?_
  obtain ⟨g10, hk⟩ := hk.g
  obtain ⟨q9, eq9, hk⟩ := hk.bind
  refine sx_callV (d2 := d - 1) (mc2 := 0) (ms2 := 0) (as := []) mk_Mo_atom rfl (x_rk (ci := 11) g10 rfl rfl) wM_Mo_209 mi_Mo_atom me_Mo_atom rfl (Nat.le_of_ble_eq_true rfl) (Nat.le_of_ble_eq_true rfl) dc_Mo_term_1 (by omega) (Nat.zero_le _) (Nat.zero_le _) ?_
  refine hR0 (by omega) ⟨q9, eq9, ?_⟩
  refine sx_eq0 (lc2 := [some (xR a0), none]) (st2 := [xI q9.1]) rfl rfl ?_
  refine sx_istore_n dc_Mo_term_4 (by decide) (sx_eq (lc2 := [some (xR a0), some (xI q9.1)]) rfl rfl ?_)
  refine t_Mo_term_L5 hR0 hR1 (by omega) _ _ _ _ hk (fun v18 h19 hk => ?_)
  refine sx_iload_n dc_Mo_term_28 rfl ?_
  exact sx_retI dc_Mo_term_29 rfl hk.val
theorem t_Mo_added_L5 {l : Launch} {z : xZ} {d mc ms : Nat} {Ph : Option xV → xH → Prop} {R0 : Nat → xH → Option (Int32 × xH)} {R1 : Nat → xH → Option (Int32 × xH)} {a0 : Nat} {B : Nat} (hR0 : ∀ {d mc ms : Nat} {Ph : Option xV → xH → Prop} {a0 : Nat} {h : xH}, B ≤ d → OK (R0 a0 h) (fun q => Ph (some (xI q.1)) q.2) → Sx l z d mc ms M_Mo_atom 0 (x_en [xR a0] 2) [] h Ph) (hR1 : ∀ {d mc ms : Nat} {Ph : Option xV → xH → Prop} {a0 : Nat} {h : xH}, B ≤ d → OK (R1 a0 h) (fun q => Ph (some (xI q.1)) q.2) → Sx l z d mc ms M_Mo_not 0 (x_en [xR a0] 4) [] h Ph) (hd : B + 4 ≤ d) : ∀ (n : Nat) (a1 : Int32) (h : xH) (K : Int32 → xH → Option (Int32 × xH)), OK (f_Mo_added_L5 R0 R1 a0 n a1 h K) (fun q => Ph (some (xI q.1)) q.2) → (∀ (a1 : Int32) (h : xH), OK (K a1 h) (fun q => Ph (some (xI q.1)) q.2) → Sx l z d mc ms M_Mo_added 66 [some (xR a0), some (xI a1), none, none] [] h Ph) → Sx l z d mc ms M_Mo_added 5 [some (xR a0), some (xI a1), none, none] [] h Ph := by
  intro n
  induction n with
  | zero => intro a1 h K hk hE; exact hk.no
  | succ n ih =>
    intro a1 h K hk hE
    rw [f_Mo_added_L5] at hk
    refine sx_aload_n dc_Mo_added_5 rfl ?_
    refine sx_bipush (v := (43 : Int32)) dc_Mo_added_6 (by decide) ?_
    obtain ⟨g14, hk⟩ := hk.g
    obtain ⟨q13, eq13, hk⟩ := hk.bind
    refine sx_callV (d2 := d - 1) (mc2 := 0) (ms2 := 0) (as := [xI (43 : Int32)]) mk_Mo_isSign rfl (x_rk (ci := 11) g14 rfl rfl) wM_Mo_202 mi_Mo_isSign me_Mo_isSign rfl (Nat.le_of_ble_eq_true rfl) (Nat.le_of_ble_eq_true rfl) dc_Mo_added_8 (by omega) (Nat.zero_le _) (Nat.zero_le _) ?_
    refine t_Mo_isSign (by omega) ⟨q13, eq13, ?_⟩
    refine sx_eq0 (lc2 := [some (xR a0), some (xI a1), none, none]) (st2 := [xI q13.1]) rfl rfl ?_
    refine hk.j (X := fun x15 => Sx l z d mc ms M_Mo_added 23 [some (xR a0), some (xI a1), none, none] [] x15 Ph) (fun x15 hk => ?_) (fun k16 jk16 hk => ?_)
    · refine sx_aload_n dc_Mo_added_23 rfl ?_
      obtain ⟨g17, hk⟩ := hk.g
      refine sx_get (ci := 11) (k := 24) rfl (by decide) wF_Mo_155 g17 dc_Mo_added_24 ?_
      refine sx_ldc2 (v := 43) wJ_Mo_222 dc_Mo_added_27 ?_
      refine sx_lcmp dc_Mo_added_30 ?_
      refine sx_mg (pc2 := 39) (lc2 := [some (xR a0), some (xI a1), none, none]) (st2 := [xI (if (jCmpL ((hI x15 a0 24).toInt64) (43 : Int64)) = 0 then (1 : Int32) else (0 : Int32))]) (h2 := x15) ?_ (fun J18 => ?_)
      · refine sx_istore_n dc_Mo_added_39 (by decide) (sx_eq (lc2 := [some (xR a0), some (xI a1), some (xI (if (jCmpL ((hI x15 a0 24).toInt64) (43 : Int64)) = 0 then (1 : Int32) else (0 : Int32))), none]) rfl rfl ?_)
        refine sx_aload_n dc_Mo_added_40 rfl ?_
        obtain ⟨q20, eq20, hk⟩ := hk.bind
        refine sx_callV (d2 := d - 1) (mc2 := 0) (ms2 := 0) (as := []) mk_Mo_next rfl (x_rk (ci := 11) g17 rfl rfl) wM_Mo_177 mi_Mo_next me_Mo_next rfl (Nat.le_of_ble_eq_true rfl) (Nat.le_of_ble_eq_true rfl) dc_Mo_added_41 (by omega) (Nat.zero_le _) (Nat.zero_le _) ?_
        refine t_Mo_next (by omega) ⟨q20, eq20, ?_⟩
        refine sx_eq0 (lc2 := [some (xR a0), some (xI a1), some (xI (if (jCmpL ((hI x15 a0 24).toInt64) (43 : Int64)) = 0 then (1 : Int32) else (0 : Int32))), none]) (st2 := []) rfl rfl ?_
        refine sx_aload_n dc_Mo_added_44 rfl ?_
        obtain ⟨g22, hk⟩ := hk.g
        obtain ⟨q21, eq21, hk⟩ := hk.bind
        refine sx_callV (d2 := d - 1) (mc2 := 0) (ms2 := 0) (as := []) mk_Mo_term rfl (x_rk (ci := 11) g22 rfl rfl) wM_Mo_219 mi_Mo_term me_Mo_term rfl (Nat.le_of_ble_eq_true rfl) (Nat.le_of_ble_eq_true rfl) dc_Mo_added_45 (by omega) (Nat.zero_le _) (Nat.zero_le _) ?_
        refine t_Mo_term hR0 hR1 (by omega) ⟨q21, eq21, ?_⟩
        refine sx_eq0 (lc2 := [some (xR a0), some (xI a1), some (xI (if (jCmpL ((hI x15 a0 24).toInt64) (43 : Int64)) = 0 then (1 : Int32) else (0 : Int32))), none]) (st2 := [xI q21.1]) rfl rfl ?_
        refine sx_istore_n dc_Mo_added_48 (by decide) (sx_eq (lc2 := [some (xR a0), some (xI a1), some (xI (if (jCmpL ((hI x15 a0 24).toInt64) (43 : Int64)) = 0 then (1 : Int32) else (0 : Int32))), some (xI q21.1)]) rfl rfl ?_)
        refine sx_iload_n dc_Mo_added_49 rfl ?_
        refine sx_mg (pc2 := 62) (lc2 := [some (xR a0), some (xI a1), some (xI (if (jCmpL ((hI x15 a0 24).toInt64) (43 : Int64)) = 0 then (1 : Int32) else (0 : Int32))), some (xI q21.1)]) (st2 := [xI (if (if (jCmpL ((hI x15 a0 24).toInt64) (43 : Int64)) = 0 then (1 : Int32) else (0 : Int32)) = 0 then a1 - q21.1 else a1 + q21.1)]) (h2 := q21.2) ?_ (fun J23 => ?_)
        · refine sx_istore_n dc_Mo_added_62 (by decide) (sx_eq (lc2 := [some (xR a0), some (xI (if (if (jCmpL ((hI x15 a0 24).toInt64) (43 : Int64)) = 0 then (1 : Int32) else (0 : Int32)) = 0 then a1 - q21.1 else a1 + q21.1)), some (xI (if (jCmpL ((hI x15 a0 24).toInt64) (43 : Int64)) = 0 then (1 : Int32) else (0 : Int32))), some (xI q21.1)]) rfl rfl ?_)
          refine sx_goto (tgt := 5) dc_Mo_added_63 (by decide) ?_
          exact sx_less (by simp [x_le]) (ih (if (if (jCmpL ((hI x15 a0 24).toInt64) (43 : Int64)) = 0 then (1 : Int32) else (0 : Int32)) = 0 then a1 - q21.1 else a1 + q21.1) q21.2 _ hk hE)
        · refine sx_if_eq (tgt := 59) dc_Mo_added_50 (by decide) (fun c24 => ?_) (fun c24 => ?_)
          · try simp only [if_pos c24] at J23
            refine sx_iload_n dc_Mo_added_59 rfl ?_
            refine sx_iload_n dc_Mo_added_60 rfl ?_
            refine sx_isub dc_Mo_added_61 ?_
            exact J23
          · try simp only [if_neg c24] at J23
            refine sx_iload_n dc_Mo_added_53 rfl ?_
            refine sx_iload_n dc_Mo_added_54 rfl ?_
            refine sx_iadd dc_Mo_added_55 ?_
            refine sx_goto (tgt := 62) dc_Mo_added_56 (by decide) ?_
            exact J23
      · refine sx_if_ne (tgt := 38) dc_Mo_added_31 (by decide) (fun c19 => ?_) (fun c19 => ?_)
        · try simp only [if_neg c19] at J18
          refine sx_iconst (v := (0 : Int32)) dc_Mo_added_38 (by decide) ?_
          exact J18
        · try simp only [if_pos c19] at J18
          refine sx_iconst (v := (1 : Int32)) dc_Mo_added_34 (by decide) ?_
          refine sx_goto (tgt := 39) dc_Mo_added_35 (by decide) ?_
          exact J18
    · refine sx_if_ne (tgt := 23) dc_Mo_added_11 (by decide) (fun c25 => ?_) (fun c25 => ?_)
      · replace hk := hk.f c25
        exact jk16 q13.2 hk
      · replace hk := hk.t c25
        refine sx_aload_n dc_Mo_added_14 rfl ?_
        refine sx_bipush (v := (45 : Int32)) dc_Mo_added_15 (by decide) ?_
        obtain ⟨g27, hk⟩ := hk.g
        obtain ⟨q26, eq26, hk⟩ := hk.bind
        refine sx_callV (d2 := d - 1) (mc2 := 0) (ms2 := 0) (as := [xI (45 : Int32)]) mk_Mo_isSign rfl (x_rk (ci := 11) g27 rfl rfl) wM_Mo_202 mi_Mo_isSign me_Mo_isSign rfl (Nat.le_of_ble_eq_true rfl) (Nat.le_of_ble_eq_true rfl) dc_Mo_added_17 (by omega) (Nat.zero_le _) (Nat.zero_le _) ?_
        refine t_Mo_isSign (by omega) ⟨q26, eq26, ?_⟩
        refine sx_eq0 (lc2 := [some (xR a0), some (xI a1), none, none]) (st2 := [xI q26.1]) rfl rfl ?_
        refine sx_if_eq (tgt := 66) dc_Mo_added_20 (by decide) (fun c28 => ?_) (fun c28 => ?_)
        · replace hk := hk.t c28
          exact hE a1 q26.2 hk
        · replace hk := hk.f c28
          exact jk16 q26.2 hk
theorem t_Mo_added {l : Launch} {z : xZ} {d mc ms : Nat} {Ph : Option xV → xH → Prop} {R0 : Nat → xH → Option (Int32 × xH)} {R1 : Nat → xH → Option (Int32 × xH)} {B : Nat} (hR0 : ∀ {d mc ms : Nat} {Ph : Option xV → xH → Prop} {a0 : Nat} {h : xH}, B ≤ d → OK (R0 a0 h) (fun q => Ph (some (xI q.1)) q.2) → Sx l z d mc ms M_Mo_atom 0 (x_en [xR a0] 2) [] h Ph) (hR1 : ∀ {d mc ms : Nat} {Ph : Option xV → xH → Prop} {a0 : Nat} {h : xH}, B ≤ d → OK (R1 a0 h) (fun q => Ph (some (xI q.1)) q.2) → Sx l z d mc ms M_Mo_not 0 (x_en [xR a0] 4) [] h Ph) {a0 : Nat}  {h : xH} (hd : B + 4 ≤ d) (hk : OK (f_Mo_added R0 R1 a0 h) (fun q => Ph (some (xI q.1)) q.2)) : Sx l z d mc ms M_Mo_added 0 (x_en [xR a0] 4) [] h Ph := by
  unfold f_Mo_added at hk
  refine sx_eq (lc2 := [some (xR a0), none, none, none]) rfl rfl ?_
  refine sx_aload_n dc_Mo_added_0 rfl ?_
  obtain ⟨g12, hk⟩ := hk.g
  obtain ⟨q11, eq11, hk⟩ := hk.bind
  refine sx_callV (d2 := d - 1) (mc2 := 0) (ms2 := 0) (as := []) mk_Mo_term rfl (x_rk (ci := 11) g12 rfl rfl) wM_Mo_219 mi_Mo_term me_Mo_term rfl (Nat.le_of_ble_eq_true rfl) (Nat.le_of_ble_eq_true rfl) dc_Mo_added_1 (by omega) (Nat.zero_le _) (Nat.zero_le _) ?_
  refine t_Mo_term hR0 hR1 (by omega) ⟨q11, eq11, ?_⟩
  refine sx_eq0 (lc2 := [some (xR a0), none, none, none]) (st2 := [xI q11.1]) rfl rfl ?_
  refine sx_istore_n dc_Mo_added_4 (by decide) (sx_eq (lc2 := [some (xR a0), some (xI q11.1), none, none]) rfl rfl ?_)
  refine t_Mo_added_L5 hR0 hR1 (by omega) _ _ _ _ hk (fun v29 h30 hk => ?_)
  refine sx_iload_n dc_Mo_added_66 rfl ?_
  exact sx_retI dc_Mo_added_67 rfl hk.val
theorem t_Mo_both_L5 {l : Launch} {z : xZ} {d mc ms : Nat} {Ph : Option xV → xH → Prop} {R0 : Nat → xH → Option (Int32 × xH)} {R1 : Nat → xH → Option (Int32 × xH)} {a0 : Nat} {B : Nat} (hR0 : ∀ {d mc ms : Nat} {Ph : Option xV → xH → Prop} {a0 : Nat} {h : xH}, B ≤ d → OK (R0 a0 h) (fun q => Ph (some (xI q.1)) q.2) → Sx l z d mc ms M_Mo_atom 0 (x_en [xR a0] 2) [] h Ph) (hR1 : ∀ {d mc ms : Nat} {Ph : Option xV → xH → Prop} {a0 : Nat} {h : xH}, B ≤ d → OK (R1 a0 h) (fun q => Ph (some (xI q.1)) q.2) → Sx l z d mc ms M_Mo_not 0 (x_en [xR a0] 4) [] h Ph) (hd : B + 4 ≤ d) : ∀ (n : Nat) (a1 : Int32) (h : xH) (K : Int32 → xH → Option (Int32 × xH)), OK (f_Mo_both_L5 R0 R1 a0 n a1 h K) (fun q => Ph (some (xI q.1)) q.2) → (∀ (a1 : Int32) (h : xH), OK (K a1 h) (fun q => Ph (some (xI q.1)) q.2) → Sx l z d mc ms M_Mo_both 49 [some (xR a0), some (xI a1), none] [] h Ph) → Sx l z d mc ms M_Mo_both 5 [some (xR a0), some (xI a1), none] [] h Ph := by
  intro n
  induction n with
  | zero => intro a1 h K hk hE; exact hk.no
  | succ n ih =>
    intro a1 h K hk hE
    rw [f_Mo_both_L5] at hk
    refine sx_aload_n dc_Mo_both_5 rfl ?_
    refine sx_bipush (v := (97 : Int32)) dc_Mo_both_6 (by decide) ?_
    refine sx_bipush (v := (110 : Int32)) dc_Mo_both_8 (by decide) ?_
    refine sx_bipush (v := (100 : Int32)) dc_Mo_both_10 (by decide) ?_
    refine sx_iconst (v := (0 : Int32)) dc_Mo_both_12 (by decide) ?_
    refine sx_iconst (v := (0 : Int32)) dc_Mo_both_13 (by decide) ?_
    refine sx_iconst (v := (0 : Int32)) dc_Mo_both_14 (by decide) ?_
    refine sx_iconst (v := (0 : Int32)) dc_Mo_both_15 (by decide) ?_
    refine sx_iconst (v := (0 : Int32)) dc_Mo_both_16 (by decide) ?_
    obtain ⟨g12, hk⟩ := hk.g
    obtain ⟨q11, eq11, hk⟩ := hk.bind
    refine sx_callV (d2 := d - 1) (mc2 := 0) (ms2 := 0) (as := [xI (97 : Int32), xI (110 : Int32), xI (100 : Int32), xI (0 : Int32), xI (0 : Int32), xI (0 : Int32), xI (0 : Int32), xI (0 : Int32)]) mk_Mo_isWord rfl (x_rk (ci := 11) g12 rfl rfl) wM_Mo_180 mi_Mo_isWord me_Mo_isWord rfl (Nat.le_of_ble_eq_true rfl) (Nat.le_of_ble_eq_true rfl) dc_Mo_both_17 (by omega) (Nat.zero_le _) (Nat.zero_le _) ?_
    refine t_Mo_isWord (by omega) ⟨q11, eq11, ?_⟩
    refine sx_eq0 (lc2 := [some (xR a0), some (xI a1), none]) (st2 := [xI q11.1]) rfl rfl ?_
    refine sx_if_eq (tgt := 49) dc_Mo_both_20 (by decide) (fun c13 => ?_) (fun c13 => ?_)
    · replace hk := hk.t c13
      exact hE a1 q11.2 hk
    · replace hk := hk.f c13
      refine sx_aload_n dc_Mo_both_23 rfl ?_
      obtain ⟨g15, hk⟩ := hk.g
      obtain ⟨q14, eq14, hk⟩ := hk.bind
      refine sx_callV (d2 := d - 1) (mc2 := 0) (ms2 := 0) (as := []) mk_Mo_next rfl (x_rk (ci := 11) g15 rfl rfl) wM_Mo_177 mi_Mo_next me_Mo_next rfl (Nat.le_of_ble_eq_true rfl) (Nat.le_of_ble_eq_true rfl) dc_Mo_both_24 (by omega) (Nat.zero_le _) (Nat.zero_le _) ?_
      refine t_Mo_next (by omega) ⟨q14, eq14, ?_⟩
      refine sx_eq0 (lc2 := [some (xR a0), some (xI a1), none]) (st2 := []) rfl rfl ?_
      refine sx_aload_n dc_Mo_both_27 rfl ?_
      obtain ⟨g17, hk⟩ := hk.g
      obtain ⟨q16, eq16, hk⟩ := hk.bind
      refine sx_callV (d2 := d - 1) (mc2 := 0) (ms2 := 0) (as := []) mk_Mo_not rfl (x_rk (ci := 11) g17 rfl rfl) wM_Mo_224 mi_Mo_not me_Mo_not rfl (Nat.le_of_ble_eq_true rfl) (Nat.le_of_ble_eq_true rfl) dc_Mo_both_28 (by omega) (Nat.zero_le _) (Nat.zero_le _) ?_
      refine hR1 (by omega) ⟨q16, eq16, ?_⟩
      refine sx_eq0 (lc2 := [some (xR a0), some (xI a1), none]) (st2 := [xI q16.1]) rfl rfl ?_
      refine sx_istore_n dc_Mo_both_31 (by decide) (sx_eq (lc2 := [some (xR a0), some (xI a1), some (xI q16.1)]) rfl rfl ?_)
      refine sx_iload_n dc_Mo_both_32 rfl ?_
      refine hk.j (X := fun x18 => Sx l z d mc ms M_Mo_both 45 [some (xR a0), some (xI a1), some (xI q16.1)] [xI x18] q16.2 Ph) (fun x18 hk => ?_) (fun k19 jk19 hk => ?_)
      · refine sx_istore_n dc_Mo_both_45 (by decide) (sx_eq (lc2 := [some (xR a0), some (xI x18), some (xI q16.1)]) rfl rfl ?_)
        refine sx_goto (tgt := 5) dc_Mo_both_46 (by decide) ?_
        exact sx_less (by simp [x_le]) (ih x18 q16.2 _ hk hE)
      · refine hk.j (X := fun x20 => Sx l z d mc ms M_Mo_both 44 [some (xR a0), some (xI a1), some (xI q16.1)] [] q16.2 Ph) (fun x20 hk => ?_) (fun k21 jk21 hk => ?_)
        · refine sx_iconst (v := (0 : Int32)) dc_Mo_both_44 (by decide) ?_
          exact jk19 (0 : Int32) hk
        · refine sx_if_eq (tgt := 44) dc_Mo_both_33 (by decide) (fun c22 => ?_) (fun c22 => ?_)
          · replace hk := hk.t c22
            exact jk21 () hk
          · replace hk := hk.f c22
            refine sx_iload_n dc_Mo_both_36 rfl ?_
            refine sx_if_eq (tgt := 44) dc_Mo_both_37 (by decide) (fun c23 => ?_) (fun c23 => ?_)
            · replace hk := hk.t c23
              exact jk21 () hk
            · replace hk := hk.f c23
              refine sx_iconst (v := (1 : Int32)) dc_Mo_both_40 (by decide) ?_
              refine sx_goto (tgt := 45) dc_Mo_both_41 (by decide) ?_
              exact jk19 (1 : Int32) hk
theorem t_Mo_both {l : Launch} {z : xZ} {d mc ms : Nat} {Ph : Option xV → xH → Prop} {R0 : Nat → xH → Option (Int32 × xH)} {R1 : Nat → xH → Option (Int32 × xH)} {B : Nat} (hR0 : ∀ {d mc ms : Nat} {Ph : Option xV → xH → Prop} {a0 : Nat} {h : xH}, B ≤ d → OK (R0 a0 h) (fun q => Ph (some (xI q.1)) q.2) → Sx l z d mc ms M_Mo_atom 0 (x_en [xR a0] 2) [] h Ph) (hR1 : ∀ {d mc ms : Nat} {Ph : Option xV → xH → Prop} {a0 : Nat} {h : xH}, B ≤ d → OK (R1 a0 h) (fun q => Ph (some (xI q.1)) q.2) → Sx l z d mc ms M_Mo_not 0 (x_en [xR a0] 4) [] h Ph) {a0 : Nat}  {h : xH} (hd : B + 4 ≤ d) (hk : OK (f_Mo_both R0 R1 a0 h) (fun q => Ph (some (xI q.1)) q.2)) : Sx l z d mc ms M_Mo_both 0 (x_en [xR a0] 3) [] h Ph := by
  unfold f_Mo_both at hk
  refine sx_eq (lc2 := [some (xR a0), none, none]) rfl rfl ?_
  refine sx_aload_n dc_Mo_both_0 rfl ?_
  obtain ⟨g10, hk⟩ := hk.g
  obtain ⟨q9, eq9, hk⟩ := hk.bind
  refine sx_callV (d2 := d - 1) (mc2 := 0) (ms2 := 0) (as := []) mk_Mo_not rfl (x_rk (ci := 11) g10 rfl rfl) wM_Mo_224 mi_Mo_not me_Mo_not rfl (Nat.le_of_ble_eq_true rfl) (Nat.le_of_ble_eq_true rfl) dc_Mo_both_1 (by omega) (Nat.zero_le _) (Nat.zero_le _) ?_
  refine hR1 (by omega) ⟨q9, eq9, ?_⟩
  refine sx_eq0 (lc2 := [some (xR a0), none, none]) (st2 := [xI q9.1]) rfl rfl ?_
  refine sx_istore_n dc_Mo_both_4 (by decide) (sx_eq (lc2 := [some (xR a0), some (xI q9.1), none]) rfl rfl ?_)
  refine t_Mo_both_L5 hR0 hR1 (by omega) _ _ _ _ hk (fun v24 h25 hk => ?_)
  refine sx_iload_n dc_Mo_both_49 rfl ?_
  exact sx_retI dc_Mo_both_50 rfl hk.val
theorem t_Mo_either_L5 {l : Launch} {z : xZ} {d mc ms : Nat} {Ph : Option xV → xH → Prop} {R0 : Nat → xH → Option (Int32 × xH)} {R1 : Nat → xH → Option (Int32 × xH)} {a0 : Nat} {B : Nat} (hR0 : ∀ {d mc ms : Nat} {Ph : Option xV → xH → Prop} {a0 : Nat} {h : xH}, B ≤ d → OK (R0 a0 h) (fun q => Ph (some (xI q.1)) q.2) → Sx l z d mc ms M_Mo_atom 0 (x_en [xR a0] 2) [] h Ph) (hR1 : ∀ {d mc ms : Nat} {Ph : Option xV → xH → Prop} {a0 : Nat} {h : xH}, B ≤ d → OK (R1 a0 h) (fun q => Ph (some (xI q.1)) q.2) → Sx l z d mc ms M_Mo_not 0 (x_en [xR a0] 4) [] h Ph) (hd : B + 5 ≤ d) : ∀ (n : Nat) (a1 : Int32) (h : xH) (K : Int32 → xH → Option (Int32 × xH)), OK (f_Mo_either_L5 R0 R1 a0 n a1 h K) (fun q => Ph (some (xI q.1)) q.2) → (∀ (a1 : Int32) (h : xH), OK (K a1 h) (fun q => Ph (some (xI q.1)) q.2) → Sx l z d mc ms M_Mo_either 48 [some (xR a0), some (xI a1), none] [] h Ph) → Sx l z d mc ms M_Mo_either 5 [some (xR a0), some (xI a1), none] [] h Ph := by
  intro n
  induction n with
  | zero => intro a1 h K hk hE; exact hk.no
  | succ n ih =>
    intro a1 h K hk hE
    rw [f_Mo_either_L5] at hk
    refine sx_aload_n dc_Mo_either_5 rfl ?_
    refine sx_bipush (v := (111 : Int32)) dc_Mo_either_6 (by decide) ?_
    refine sx_bipush (v := (114 : Int32)) dc_Mo_either_8 (by decide) ?_
    refine sx_iconst (v := (0 : Int32)) dc_Mo_either_10 (by decide) ?_
    refine sx_iconst (v := (0 : Int32)) dc_Mo_either_11 (by decide) ?_
    refine sx_iconst (v := (0 : Int32)) dc_Mo_either_12 (by decide) ?_
    refine sx_iconst (v := (0 : Int32)) dc_Mo_either_13 (by decide) ?_
    refine sx_iconst (v := (0 : Int32)) dc_Mo_either_14 (by decide) ?_
    refine sx_iconst (v := (0 : Int32)) dc_Mo_either_15 (by decide) ?_
    obtain ⟨g12, hk⟩ := hk.g
    obtain ⟨q11, eq11, hk⟩ := hk.bind
    refine sx_callV (d2 := d - 1) (mc2 := 0) (ms2 := 0) (as := [xI (111 : Int32), xI (114 : Int32), xI (0 : Int32), xI (0 : Int32), xI (0 : Int32), xI (0 : Int32), xI (0 : Int32), xI (0 : Int32)]) mk_Mo_isWord rfl (x_rk (ci := 11) g12 rfl rfl) wM_Mo_180 mi_Mo_isWord me_Mo_isWord rfl (Nat.le_of_ble_eq_true rfl) (Nat.le_of_ble_eq_true rfl) dc_Mo_either_16 (by omega) (Nat.zero_le _) (Nat.zero_le _) ?_
    refine t_Mo_isWord (by omega) ⟨q11, eq11, ?_⟩
    refine sx_eq0 (lc2 := [some (xR a0), some (xI a1), none]) (st2 := [xI q11.1]) rfl rfl ?_
    refine sx_if_eq (tgt := 48) dc_Mo_either_19 (by decide) (fun c13 => ?_) (fun c13 => ?_)
    · replace hk := hk.t c13
      exact hE a1 q11.2 hk
    · replace hk := hk.f c13
      refine sx_aload_n dc_Mo_either_22 rfl ?_
      obtain ⟨g15, hk⟩ := hk.g
      obtain ⟨q14, eq14, hk⟩ := hk.bind
      refine sx_callV (d2 := d - 1) (mc2 := 0) (ms2 := 0) (as := []) mk_Mo_next rfl (x_rk (ci := 11) g15 rfl rfl) wM_Mo_177 mi_Mo_next me_Mo_next rfl (Nat.le_of_ble_eq_true rfl) (Nat.le_of_ble_eq_true rfl) dc_Mo_either_23 (by omega) (Nat.zero_le _) (Nat.zero_le _) ?_
      refine t_Mo_next (by omega) ⟨q14, eq14, ?_⟩
      refine sx_eq0 (lc2 := [some (xR a0), some (xI a1), none]) (st2 := []) rfl rfl ?_
      refine sx_aload_n dc_Mo_either_26 rfl ?_
      obtain ⟨g17, hk⟩ := hk.g
      obtain ⟨q16, eq16, hk⟩ := hk.bind
      refine sx_callV (d2 := d - 1) (mc2 := 0) (ms2 := 0) (as := []) mk_Mo_both rfl (x_rk (ci := 11) g17 rfl rfl) wM_Mo_232 mi_Mo_both me_Mo_both rfl (Nat.le_of_ble_eq_true rfl) (Nat.le_of_ble_eq_true rfl) dc_Mo_either_27 (by omega) (Nat.zero_le _) (Nat.zero_le _) ?_
      refine t_Mo_both hR0 hR1 (by omega) ⟨q16, eq16, ?_⟩
      refine sx_eq0 (lc2 := [some (xR a0), some (xI a1), none]) (st2 := [xI q16.1]) rfl rfl ?_
      refine sx_istore_n dc_Mo_either_30 (by decide) (sx_eq (lc2 := [some (xR a0), some (xI a1), some (xI q16.1)]) rfl rfl ?_)
      refine sx_iload_n dc_Mo_either_31 rfl ?_
      refine hk.j (X := fun x18 => Sx l z d mc ms M_Mo_either 44 [some (xR a0), some (xI a1), some (xI q16.1)] [xI x18] q16.2 Ph) (fun x18 hk => ?_) (fun k19 jk19 hk => ?_)
      · refine sx_istore_n dc_Mo_either_44 (by decide) (sx_eq (lc2 := [some (xR a0), some (xI x18), some (xI q16.1)]) rfl rfl ?_)
        refine sx_goto (tgt := 5) dc_Mo_either_45 (by decide) ?_
        exact sx_less (by simp [x_le]) (ih x18 q16.2 _ hk hE)
      · refine hk.j (X := fun x20 => Sx l z d mc ms M_Mo_either 39 [some (xR a0), some (xI a1), some (xI q16.1)] [] q16.2 Ph) (fun x20 hk => ?_) (fun k21 jk21 hk => ?_)
        · refine sx_iconst (v := (1 : Int32)) dc_Mo_either_39 (by decide) ?_
          refine sx_goto (tgt := 44) dc_Mo_either_40 (by decide) ?_
          exact jk19 (1 : Int32) hk
        · refine sx_if_ne (tgt := 39) dc_Mo_either_32 (by decide) (fun c22 => ?_) (fun c22 => ?_)
          · replace hk := hk.f c22
            exact jk21 () hk
          · replace hk := hk.t c22
            refine sx_iload_n dc_Mo_either_35 rfl ?_
            refine sx_if_eq (tgt := 43) dc_Mo_either_36 (by decide) (fun c23 => ?_) (fun c23 => ?_)
            · replace hk := hk.t c23
              refine sx_iconst (v := (0 : Int32)) dc_Mo_either_43 (by decide) ?_
              exact jk19 (0 : Int32) hk
            · replace hk := hk.f c23
              exact jk21 () hk
theorem t_Mo_either {l : Launch} {z : xZ} {d mc ms : Nat} {Ph : Option xV → xH → Prop} {R0 : Nat → xH → Option (Int32 × xH)} {R1 : Nat → xH → Option (Int32 × xH)} {B : Nat} (hR0 : ∀ {d mc ms : Nat} {Ph : Option xV → xH → Prop} {a0 : Nat} {h : xH}, B ≤ d → OK (R0 a0 h) (fun q => Ph (some (xI q.1)) q.2) → Sx l z d mc ms M_Mo_atom 0 (x_en [xR a0] 2) [] h Ph) (hR1 : ∀ {d mc ms : Nat} {Ph : Option xV → xH → Prop} {a0 : Nat} {h : xH}, B ≤ d → OK (R1 a0 h) (fun q => Ph (some (xI q.1)) q.2) → Sx l z d mc ms M_Mo_not 0 (x_en [xR a0] 4) [] h Ph) {a0 : Nat}  {h : xH} (hd : B + 5 ≤ d) (hk : OK (f_Mo_either R0 R1 a0 h) (fun q => Ph (some (xI q.1)) q.2)) : Sx l z d mc ms M_Mo_either 0 (x_en [xR a0] 3) [] h Ph := by
  unfold f_Mo_either at hk
  refine sx_eq (lc2 := [some (xR a0), none, none]) rfl rfl ?_
  refine sx_aload_n dc_Mo_either_0 rfl ?_
  obtain ⟨g10, hk⟩ := hk.g
  obtain ⟨q9, eq9, hk⟩ := hk.bind
  refine sx_callV (d2 := d - 1) (mc2 := 0) (ms2 := 0) (as := []) mk_Mo_both rfl (x_rk (ci := 11) g10 rfl rfl) wM_Mo_232 mi_Mo_both me_Mo_both rfl (Nat.le_of_ble_eq_true rfl) (Nat.le_of_ble_eq_true rfl) dc_Mo_either_1 (by omega) (Nat.zero_le _) (Nat.zero_le _) ?_
  refine t_Mo_both hR0 hR1 (by omega) ⟨q9, eq9, ?_⟩
  refine sx_eq0 (lc2 := [some (xR a0), none, none]) (st2 := [xI q9.1]) rfl rfl ?_
  refine sx_istore_n dc_Mo_either_4 (by decide) (sx_eq (lc2 := [some (xR a0), some (xI q9.1), none]) rfl rfl ?_)
  refine t_Mo_either_L5 hR0 hR1 (by omega) _ _ _ _ hk (fun v24 h25 hk => ?_)
  refine sx_iload_n dc_Mo_either_48 rfl ?_
  exact sx_retI dc_Mo_either_49 rfl hk.val
theorem tb_Mo_atom {l : Launch} {z : xZ} {d mc ms : Nat} {Ph : Option xV → xH → Prop} {R0 : Nat → xH → Option (Int32 × xH)} {R1 : Nat → xH → Option (Int32 × xH)} {B : Nat} (hR0 : ∀ {d mc ms : Nat} {Ph : Option xV → xH → Prop} {a0 : Nat} {h : xH}, B ≤ d → OK (R0 a0 h) (fun q => Ph (some (xI q.1)) q.2) → Sx l z d mc ms M_Mo_atom 0 (x_en [xR a0] 2) [] h Ph) (hR1 : ∀ {d mc ms : Nat} {Ph : Option xV → xH → Prop} {a0 : Nat} {h : xH}, B ≤ d → OK (R1 a0 h) (fun q => Ph (some (xI q.1)) q.2) → Sx l z d mc ms M_Mo_not 0 (x_en [xR a0] 4) [] h Ph) {a0 : Nat}  {h : xH} (hd : B + 6 ≤ d) (hk : OK (fb_Mo_atom R0 R1 a0 h) (fun q => Ph (some (xI q.1)) q.2)) : Sx l z d mc ms M_Mo_atom 0 (x_en [xR a0] 2) [] h Ph := by
  unfold fb_Mo_atom at hk
  refine sx_eq (lc2 := [some (xR a0), none]) rfl rfl ?_
  refine sx_iconst (v := (0 : Int32)) dc_Mo_atom_0 (by decide) ?_
  refine sx_istore_n dc_Mo_atom_1 (by decide) (sx_eq (lc2 := [some (xR a0), some (xI (0 : Int32))]) rfl rfl ?_)
  refine sx_aload_n dc_Mo_atom_2 rfl ?_
  refine sx_bipush (v := (45 : Int32)) dc_Mo_atom_3 (by decide) ?_
  obtain ⟨g27, hk⟩ := hk.g
  obtain ⟨q26, eq26, hk⟩ := hk.bind
  refine sx_callV (d2 := d - 1) (mc2 := 0) (ms2 := 0) (as := [xI (45 : Int32)]) mk_Mo_isSign rfl (x_rk (ci := 11) g27 rfl rfl) wM_Mo_202 mi_Mo_isSign me_Mo_isSign rfl (Nat.le_of_ble_eq_true rfl) (Nat.le_of_ble_eq_true rfl) dc_Mo_atom_5 (by omega) (Nat.zero_le _) (Nat.zero_le _) ?_
  refine t_Mo_isSign (by omega) ⟨q26, eq26, ?_⟩
  refine sx_eq0 (lc2 := [some (xR a0), some (xI (0 : Int32))]) (st2 := [xI q26.1]) rfl rfl ?_
  refine hk.j (X := fun x28 => Sx l z d mc ms M_Mo_atom 161 [some (xR a0), some (xI x28.1)] [] x28.2 Ph) (fun x28 hk => ?_) (fun k29 jk29 hk => ?_)
  · refine sx_iload_n dc_Mo_atom_161 rfl ?_
    exact sx_retI dc_Mo_atom_162 rfl hk.val
  · refine sx_if_eq (tgt := 37) dc_Mo_atom_8 (by decide) (fun c30 => ?_) (fun c30 => ?_)
    · replace hk := hk.t c30
      refine sx_aload_n dc_Mo_atom_37 rfl ?_
      refine sx_bipush (v := (40 : Int32)) dc_Mo_atom_38 (by decide) ?_
      obtain ⟨g32, hk⟩ := hk.g
      obtain ⟨q31, eq31, hk⟩ := hk.bind
      refine sx_callV (d2 := d - 1) (mc2 := 0) (ms2 := 0) (as := [xI (40 : Int32)]) mk_Mo_isSign rfl (x_rk (ci := 11) g32 rfl rfl) wM_Mo_202 mi_Mo_isSign me_Mo_isSign rfl (Nat.le_of_ble_eq_true rfl) (Nat.le_of_ble_eq_true rfl) dc_Mo_atom_40 (by omega) (Nat.zero_le _) (Nat.zero_le _) ?_
      refine t_Mo_isSign (by omega) ⟨q31, eq31, ?_⟩
      refine sx_eq0 (lc2 := [some (xR a0), some (xI (0 : Int32))]) (st2 := [xI q31.1]) rfl rfl ?_
      refine sx_if_eq (tgt := 95) dc_Mo_atom_43 (by decide) (fun c33 => ?_) (fun c33 => ?_)
      · replace hk := hk.t c33
        refine sx_aload_n dc_Mo_atom_95 rfl ?_
        obtain ⟨g34, hk⟩ := hk.g
        refine sx_get (ci := 11) (k := 26) rfl (by decide) wF_Mo_161 g34 dc_Mo_atom_96 ?_
        refine hk.j (X := fun x35 => Sx l z d mc ms M_Mo_atom 123 [some (xR a0), some (xI (0 : Int32))] [] q31.2 Ph) (fun x35 hk => ?_) (fun k36 jk36 hk => ?_)
        · refine sx_aload_n dc_Mo_atom_123 rfl ?_
          refine sx_get (ci := 11) (k := 26) rfl (by decide) wF_Mo_161 g34 dc_Mo_atom_124 ?_
          refine hk.j (X := fun x37 => Sx l z d mc ms M_Mo_atom 157 [some (xR a0), some (xI (0 : Int32))] [] q31.2 Ph) (fun x37 hk => ?_) (fun k38 jk38 hk => ?_)
          · refine sx_aload_n dc_Mo_atom_157 rfl ?_
            obtain ⟨q39, eq39, hk⟩ := hk.bind
            refine sx_callV (d2 := d - 1) (mc2 := 0) (ms2 := 0) (as := []) mk_Mo_fail rfl (x_rk (ci := 11) g34 rfl rfl) wM_Mo_174 mi_Mo_fail me_Mo_fail rfl (Nat.le_of_ble_eq_true rfl) (Nat.le_of_ble_eq_true rfl) dc_Mo_atom_158 (by omega) (Nat.zero_le _) (Nat.zero_le _) ?_
            refine t_Mo_fail (by omega) ⟨q39, eq39, ?_⟩
            refine sx_eq0 (lc2 := [some (xR a0), some (xI (0 : Int32))]) (st2 := []) rfl rfl ?_
            exact jk29 ((0 : Int32), q39.2) hk
          · refine sx_if_ne (tgt := 157) dc_Mo_atom_127 (by decide) (fun c40 => ?_) (fun c40 => ?_)
            · replace hk := hk.f c40
              exact jk38 () hk
            · replace hk := hk.t c40
              refine sx_aload_n dc_Mo_atom_130 rfl ?_
              refine sx_get (ci := 11) (k := 22) rfl (by decide) wF_Mo_144 g34 dc_Mo_atom_131 ?_
              refine sx_iconst (v := (1 : Int32)) dc_Mo_atom_134 (by decide) ?_
              refine sx_icmp_ne (tgt := 157) dc_Mo_atom_135 (by decide) (fun c41 => ?_) (fun c41 => ?_)
              · replace hk := hk.f c41
                exact jk38 () hk
              · replace hk := hk.t c41
                refine sx_aload_n dc_Mo_atom_138 rfl ?_
                obtain ⟨q42, eq42, hk⟩ := hk.bind
                refine sx_callV (d2 := d - 1) (mc2 := 0) (ms2 := 0) (as := []) mk_Mo_name rfl (x_rk (ci := 11) g34 rfl rfl) wM_Mo_216 mi_Mo_name me_Mo_name rfl (Nat.le_of_ble_eq_true rfl) (Nat.le_of_ble_eq_true rfl) dc_Mo_atom_139 (by omega) (Nat.zero_le _) (Nat.zero_le _) ?_
                refine t_Mo_name (by omega) ⟨q42, eq42, ?_⟩
                refine sx_eq0 (lc2 := [some (xR a0), some (xI (0 : Int32))]) (st2 := [xI q42.1]) rfl rfl ?_
                refine sx_istore_n dc_Mo_atom_142 (by decide) (sx_eq (lc2 := [some (xR a0), some (xI q42.1)]) rfl rfl ?_)
                refine sx_aload_n dc_Mo_atom_143 rfl ?_
                obtain ⟨g43, hk⟩ := hk.g
                refine sx_get (ci := 11) (k := 26) rfl (by decide) wF_Mo_161 g43 dc_Mo_atom_144 ?_
                refine sx_if_ne (tgt := 161) dc_Mo_atom_147 (by decide) (fun c44 => ?_) (fun c44 => ?_)
                · replace hk := hk.f c44
                  exact jk29 (q42.1, q42.2) hk
                · replace hk := hk.t c44
                  refine sx_aload_n dc_Mo_atom_150 rfl ?_
                  obtain ⟨q45, eq45, hk⟩ := hk.bind
                  refine sx_callV (d2 := d - 1) (mc2 := 0) (ms2 := 0) (as := []) mk_Mo_next rfl (x_rk (ci := 11) g43 rfl rfl) wM_Mo_177 mi_Mo_next me_Mo_next rfl (Nat.le_of_ble_eq_true rfl) (Nat.le_of_ble_eq_true rfl) dc_Mo_atom_151 (by omega) (Nat.zero_le _) (Nat.zero_le _) ?_
                  refine t_Mo_next (by omega) ⟨q45, eq45, ?_⟩
                  refine sx_eq0 (lc2 := [some (xR a0), some (xI q42.1)]) (st2 := []) rfl rfl ?_
                  refine sx_goto (tgt := 161) dc_Mo_atom_154 (by decide) ?_
                  exact jk29 (q42.1, q45.2) hk
        · refine sx_if_ne (tgt := 123) dc_Mo_atom_99 (by decide) (fun c46 => ?_) (fun c46 => ?_)
          · replace hk := hk.f c46
            exact jk36 () hk
          · replace hk := hk.t c46
            refine sx_aload_n dc_Mo_atom_102 rfl ?_
            refine sx_get (ci := 11) (k := 22) rfl (by decide) wF_Mo_144 g34 dc_Mo_atom_103 ?_
            refine sx_iconst (v := (2 : Int32)) dc_Mo_atom_106 (by decide) ?_
            refine sx_icmp_ne (tgt := 123) dc_Mo_atom_107 (by decide) (fun c47 => ?_) (fun c47 => ?_)
            · replace hk := hk.f c47
              exact jk36 () hk
            · replace hk := hk.t c47
              refine sx_aload_n dc_Mo_atom_110 rfl ?_
              refine sx_get (ci := 11) (k := 24) rfl (by decide) wF_Mo_155 g34 dc_Mo_atom_111 ?_
              refine sx_l2i dc_Mo_atom_114 ?_
              refine sx_istore_n dc_Mo_atom_115 (by decide) (sx_eq (lc2 := [some (xR a0), some (xI (((hI q31.2 a0 24).toInt64).toInt32))]) rfl rfl ?_)
              refine sx_aload_n dc_Mo_atom_116 rfl ?_
              obtain ⟨q48, eq48, hk⟩ := hk.bind
              refine sx_callV (d2 := d - 1) (mc2 := 0) (ms2 := 0) (as := []) mk_Mo_next rfl (x_rk (ci := 11) g34 rfl rfl) wM_Mo_177 mi_Mo_next me_Mo_next rfl (Nat.le_of_ble_eq_true rfl) (Nat.le_of_ble_eq_true rfl) dc_Mo_atom_117 (by omega) (Nat.zero_le _) (Nat.zero_le _) ?_
              refine t_Mo_next (by omega) ⟨q48, eq48, ?_⟩
              refine sx_eq0 (lc2 := [some (xR a0), some (xI (((hI q31.2 a0 24).toInt64).toInt32))]) (st2 := []) rfl rfl ?_
              refine sx_goto (tgt := 161) dc_Mo_atom_120 (by decide) ?_
              exact jk29 ((((hI q31.2 a0 24).toInt64).toInt32), q48.2) hk
      · replace hk := hk.f c33
        refine sx_aload_n dc_Mo_atom_46 rfl ?_
        obtain ⟨g50, hk⟩ := hk.g
        obtain ⟨q49, eq49, hk⟩ := hk.bind
        refine sx_callV (d2 := d - 1) (mc2 := 0) (ms2 := 0) (as := []) mk_Mo_opens rfl (x_rk (ci := 11) g50 rfl rfl) wM_Mo_205 mi_Mo_opens me_Mo_opens rfl (Nat.le_of_ble_eq_true rfl) (Nat.le_of_ble_eq_true rfl) dc_Mo_atom_47 (by omega) (Nat.zero_le _) (Nat.zero_le _) ?_
        refine t_Mo_opens (by omega) ⟨q49, eq49, ?_⟩
        refine sx_eq0 (lc2 := [some (xR a0), some (xI (0 : Int32))]) (st2 := [xI q49.1]) rfl rfl ?_
        refine sx_if_eq (tgt := 161) dc_Mo_atom_50 (by decide) (fun c51 => ?_) (fun c51 => ?_)
        · replace hk := hk.t c51
          exact jk29 ((0 : Int32), q49.2) hk
        · replace hk := hk.f c51
          refine sx_aload_n dc_Mo_atom_53 rfl ?_
          obtain ⟨g53, hk⟩ := hk.g
          obtain ⟨q52, eq52, hk⟩ := hk.bind
          refine sx_callV (d2 := d - 1) (mc2 := 0) (ms2 := 0) (as := []) mk_Mo_either rfl (x_rk (ci := 11) g53 rfl rfl) wM_Mo_213 mi_Mo_either me_Mo_either rfl (Nat.le_of_ble_eq_true rfl) (Nat.le_of_ble_eq_true rfl) dc_Mo_atom_54 (by omega) (Nat.zero_le _) (Nat.zero_le _) ?_
          refine t_Mo_either hR0 hR1 (by omega) ⟨q52, eq52, ?_⟩
          refine sx_eq0 (lc2 := [some (xR a0), some (xI (0 : Int32))]) (st2 := [xI q52.1]) rfl rfl ?_
          refine sx_istore_n dc_Mo_atom_57 (by decide) (sx_eq (lc2 := [some (xR a0), some (xI q52.1)]) rfl rfl ?_)
          refine sx_aload_n dc_Mo_atom_58 rfl ?_
          refine sx_bipush (v := (41 : Int32)) dc_Mo_atom_59 (by decide) ?_
          obtain ⟨g55, hk⟩ := hk.g
          obtain ⟨q54, eq54, hk⟩ := hk.bind
          refine sx_callV (d2 := d - 1) (mc2 := 0) (ms2 := 0) (as := [xI (41 : Int32)]) mk_Mo_isSign rfl (x_rk (ci := 11) g55 rfl rfl) wM_Mo_202 mi_Mo_isSign me_Mo_isSign rfl (Nat.le_of_ble_eq_true rfl) (Nat.le_of_ble_eq_true rfl) dc_Mo_atom_61 (by omega) (Nat.zero_le _) (Nat.zero_le _) ?_
          refine t_Mo_isSign (by omega) ⟨q54, eq54, ?_⟩
          refine sx_eq0 (lc2 := [some (xR a0), some (xI q52.1)]) (st2 := [xI q54.1]) rfl rfl ?_
          refine hk.j (X := fun x56 => Sx l z d mc ms M_Mo_atom 71 [some (xR a0), some (xI q52.1)] [] x56 Ph) (fun x56 hk => ?_) (fun k57 jk57 hk => ?_)
          · refine sx_aload_n dc_Mo_atom_71 rfl ?_
            refine sx_dup dc_Mo_atom_72 rfl ?_
            obtain ⟨g58, hk⟩ := hk.g
            refine sx_get (ci := 11) (k := 25) rfl (by decide) wF_Mo_171 g58 dc_Mo_atom_73 ?_
            refine sx_iconst (v := (1 : Int32)) dc_Mo_atom_76 (by decide) ?_
            refine sx_isub dc_Mo_atom_77 ?_
            refine sx_putI (ci := 11) (k := 25) rfl (by decide) wF_Mo_171 rfl g58 (Or.inl rfl) dc_Mo_atom_78 ?_
            refine sx_aload_n dc_Mo_atom_81 rfl ?_
            refine sx_get (ci := 11) (k := 26) rfl (by decide) wF_Mo_161 g58 dc_Mo_atom_82 ?_
            refine sx_if_ne (tgt := 161) dc_Mo_atom_85 (by decide) (fun c59 => ?_) (fun c59 => ?_)
            · replace hk := hk.f c59
              exact jk29 (q52.1, (hIu x56 a0 25 ((hI x56 a0 25) - (1 : Int32)))) hk
            · replace hk := hk.t c59
              refine sx_aload_n dc_Mo_atom_88 rfl ?_
              obtain ⟨q60, eq60, hk⟩ := hk.bind
              refine sx_callV (d2 := d - 1) (mc2 := 0) (ms2 := 0) (as := []) mk_Mo_next rfl (x_rk (ci := 11) g58 rfl rfl) wM_Mo_177 mi_Mo_next me_Mo_next rfl (Nat.le_of_ble_eq_true rfl) (Nat.le_of_ble_eq_true rfl) dc_Mo_atom_89 (by omega) (Nat.zero_le _) (Nat.zero_le _) ?_
              refine t_Mo_next (by omega) ⟨q60, eq60, ?_⟩
              refine sx_eq0 (lc2 := [some (xR a0), some (xI q52.1)]) (st2 := []) rfl rfl ?_
              refine sx_goto (tgt := 161) dc_Mo_atom_92 (by decide) ?_
              exact jk29 (q52.1, q60.2) hk
          · refine sx_if_ne (tgt := 71) dc_Mo_atom_64 (by decide) (fun c61 => ?_) (fun c61 => ?_)
            · replace hk := hk.f c61
              exact jk57 q54.2 hk
            · replace hk := hk.t c61
              refine sx_aload_n dc_Mo_atom_67 rfl ?_
              obtain ⟨g63, hk⟩ := hk.g
              obtain ⟨q62, eq62, hk⟩ := hk.bind
              refine sx_callV (d2 := d - 1) (mc2 := 0) (ms2 := 0) (as := []) mk_Mo_fail rfl (x_rk (ci := 11) g63 rfl rfl) wM_Mo_174 mi_Mo_fail me_Mo_fail rfl (Nat.le_of_ble_eq_true rfl) (Nat.le_of_ble_eq_true rfl) dc_Mo_atom_68 (by omega) (Nat.zero_le _) (Nat.zero_le _) ?_
              refine t_Mo_fail (by omega) ⟨q62, eq62, ?_⟩
              refine sx_eq0 (lc2 := [some (xR a0), some (xI q52.1)]) (st2 := []) rfl rfl ?_
              exact jk57 q62.2 hk
    · replace hk := hk.f c30
      refine sx_aload_n dc_Mo_atom_11 rfl ?_
      obtain ⟨g65, hk⟩ := hk.g
      obtain ⟨q64, eq64, hk⟩ := hk.bind
      refine sx_callV (d2 := d - 1) (mc2 := 0) (ms2 := 0) (as := []) mk_Mo_opens rfl (x_rk (ci := 11) g65 rfl rfl) wM_Mo_205 mi_Mo_opens me_Mo_opens rfl (Nat.le_of_ble_eq_true rfl) (Nat.le_of_ble_eq_true rfl) dc_Mo_atom_12 (by omega) (Nat.zero_le _) (Nat.zero_le _) ?_
      refine t_Mo_opens (by omega) ⟨q64, eq64, ?_⟩
      refine sx_eq0 (lc2 := [some (xR a0), some (xI (0 : Int32))]) (st2 := [xI q64.1]) rfl rfl ?_
      refine sx_if_eq (tgt := 161) dc_Mo_atom_15 (by decide) (fun c66 => ?_) (fun c66 => ?_)
      · replace hk := hk.t c66
        exact jk29 ((0 : Int32), q64.2) hk
      · replace hk := hk.f c66
        refine sx_aload_n dc_Mo_atom_18 rfl ?_
        obtain ⟨g68, hk⟩ := hk.g
        obtain ⟨q67, eq67, hk⟩ := hk.bind
        refine sx_callV (d2 := d - 1) (mc2 := 0) (ms2 := 0) (as := []) mk_Mo_atom rfl (x_rk (ci := 11) g68 rfl rfl) wM_Mo_209 mi_Mo_atom me_Mo_atom rfl (Nat.le_of_ble_eq_true rfl) (Nat.le_of_ble_eq_true rfl) dc_Mo_atom_19 (by omega) (Nat.zero_le _) (Nat.zero_le _) ?_
        refine hR0 (by omega) ⟨q67, eq67, ?_⟩
        refine sx_eq0 (lc2 := [some (xR a0), some (xI (0 : Int32))]) (st2 := [xI q67.1]) rfl rfl ?_
        refine sx_ineg dc_Mo_atom_22 ?_
        refine sx_istore_n dc_Mo_atom_23 (by decide) (sx_eq (lc2 := [some (xR a0), some (xI (-q67.1))]) rfl rfl ?_)
        refine sx_aload_n dc_Mo_atom_24 rfl ?_
        refine sx_dup dc_Mo_atom_25 rfl ?_
        obtain ⟨g69, hk⟩ := hk.g
        refine sx_get (ci := 11) (k := 25) rfl (by decide) wF_Mo_171 g69 dc_Mo_atom_26 ?_
        refine sx_iconst (v := (1 : Int32)) dc_Mo_atom_29 (by decide) ?_
        refine sx_isub dc_Mo_atom_30 ?_
        refine sx_putI (ci := 11) (k := 25) rfl (by decide) wF_Mo_171 rfl g69 (Or.inl rfl) dc_Mo_atom_31 ?_
        refine sx_goto (tgt := 161) dc_Mo_atom_34 (by decide) ?_
        exact jk29 ((-q67.1), (hIu q67.2 a0 25 ((hI q67.2 a0 25) - (1 : Int32)))) hk
theorem tb_Mo_not {l : Launch} {z : xZ} {d mc ms : Nat} {Ph : Option xV → xH → Prop} {R0 : Nat → xH → Option (Int32 × xH)} {R1 : Nat → xH → Option (Int32 × xH)} {B : Nat} (hR0 : ∀ {d mc ms : Nat} {Ph : Option xV → xH → Prop} {a0 : Nat} {h : xH}, B ≤ d → OK (R0 a0 h) (fun q => Ph (some (xI q.1)) q.2) → Sx l z d mc ms M_Mo_atom 0 (x_en [xR a0] 2) [] h Ph) (hR1 : ∀ {d mc ms : Nat} {Ph : Option xV → xH → Prop} {a0 : Nat} {h : xH}, B ≤ d → OK (R1 a0 h) (fun q => Ph (some (xI q.1)) q.2) → Sx l z d mc ms M_Mo_not 0 (x_en [xR a0] 4) [] h Ph) {a0 : Nat}  {h : xH} (hd : B + 5 ≤ d) (hk : OK (fb_Mo_not R0 R1 a0 h) (fun q => Ph (some (xI q.1)) q.2)) : Sx l z d mc ms M_Mo_not 0 (x_en [xR a0] 4) [] h Ph := by
  unfold fb_Mo_not at hk
  refine sx_eq (lc2 := [some (xR a0), none, none, none]) rfl rfl ?_
  refine sx_aload_n dc_Mo_not_0 rfl ?_
  refine sx_bipush (v := (110 : Int32)) dc_Mo_not_1 (by decide) ?_
  refine sx_bipush (v := (111 : Int32)) dc_Mo_not_3 (by decide) ?_
  refine sx_bipush (v := (116 : Int32)) dc_Mo_not_5 (by decide) ?_
  refine sx_iconst (v := (0 : Int32)) dc_Mo_not_7 (by decide) ?_
  refine sx_iconst (v := (0 : Int32)) dc_Mo_not_8 (by decide) ?_
  refine sx_iconst (v := (0 : Int32)) dc_Mo_not_9 (by decide) ?_
  refine sx_iconst (v := (0 : Int32)) dc_Mo_not_10 (by decide) ?_
  refine sx_iconst (v := (0 : Int32)) dc_Mo_not_11 (by decide) ?_
  obtain ⟨g19, hk⟩ := hk.g
  obtain ⟨q18, eq18, hk⟩ := hk.bind
  refine sx_callV (d2 := d - 1) (mc2 := 0) (ms2 := 0) (as := [xI (110 : Int32), xI (111 : Int32), xI (116 : Int32), xI (0 : Int32), xI (0 : Int32), xI (0 : Int32), xI (0 : Int32), xI (0 : Int32)]) mk_Mo_isWord rfl (x_rk (ci := 11) g19 rfl rfl) wM_Mo_180 mi_Mo_isWord me_Mo_isWord rfl (Nat.le_of_ble_eq_true rfl) (Nat.le_of_ble_eq_true rfl) dc_Mo_not_12 (by omega) (Nat.zero_le _) (Nat.zero_le _) ?_
  refine t_Mo_isWord (by omega) ⟨q18, eq18, ?_⟩
  refine sx_eq0 (lc2 := [some (xR a0), none, none, none]) (st2 := [xI q18.1]) rfl rfl ?_
  refine sx_if_eq (tgt := 52) dc_Mo_not_15 (by decide) (fun c20 => ?_) (fun c20 => ?_)
  · replace hk := hk.t c20
    refine sx_aload_n dc_Mo_not_52 rfl ?_
    obtain ⟨g22, hk⟩ := hk.g
    obtain ⟨q21, eq21, hk⟩ := hk.bind
    refine sx_callV (d2 := d - 1) (mc2 := 0) (ms2 := 0) (as := []) mk_Mo_added rfl (x_rk (ci := 11) g22 rfl rfl) wM_Mo_227 mi_Mo_added me_Mo_added rfl (Nat.le_of_ble_eq_true rfl) (Nat.le_of_ble_eq_true rfl) dc_Mo_not_53 (by omega) (Nat.zero_le _) (Nat.zero_le _) ?_
    refine t_Mo_added hR0 hR1 (by omega) ⟨q21, eq21, ?_⟩
    refine sx_eq0 (lc2 := [some (xR a0), none, none, none]) (st2 := [xI q21.1]) rfl rfl ?_
    refine sx_istore_n dc_Mo_not_56 (by decide) (sx_eq (lc2 := [some (xR a0), some (xI q21.1), none, none]) rfl rfl ?_)
    refine sx_aload_n dc_Mo_not_57 rfl ?_
    refine sx_bipush (v := (60 : Int32)) dc_Mo_not_58 (by decide) ?_
    obtain ⟨g24, hk⟩ := hk.g
    obtain ⟨q23, eq23, hk⟩ := hk.bind
    refine sx_callV (d2 := d - 1) (mc2 := 0) (ms2 := 0) (as := [xI (60 : Int32)]) mk_Mo_isSign rfl (x_rk (ci := 11) g24 rfl rfl) wM_Mo_202 mi_Mo_isSign me_Mo_isSign rfl (Nat.le_of_ble_eq_true rfl) (Nat.le_of_ble_eq_true rfl) dc_Mo_not_60 (by omega) (Nat.zero_le _) (Nat.zero_le _) ?_
    refine t_Mo_isSign (by omega) ⟨q23, eq23, ?_⟩
    refine sx_eq0 (lc2 := [some (xR a0), some (xI q21.1), none, none]) (st2 := [xI q23.1]) rfl rfl ?_
    refine hk.j (X := fun x25 => Sx l z d mc ms M_Mo_not 77 [some (xR a0), some (xI q21.1), none, none] [] x25 Ph) (fun x25 hk => ?_) (fun k26 jk26 hk => ?_)
    · refine sx_aload_n dc_Mo_not_77 rfl ?_
      obtain ⟨g27, hk⟩ := hk.g
      refine sx_get (ci := 11) (k := 24) rfl (by decide) wF_Mo_155 g27 dc_Mo_not_78 ?_
      refine sx_ldc2 (v := 60) wJ_Mo_230 dc_Mo_not_81 ?_
      refine sx_lcmp dc_Mo_not_84 ?_
      refine sx_mg (pc2 := 93) (lc2 := [some (xR a0), some (xI q21.1), none, none]) (st2 := [xI (if (jCmpL ((hI x25 a0 24).toInt64) (60 : Int64)) = 0 then (1 : Int32) else (0 : Int32))]) (h2 := x25) ?_ (fun J28 => ?_)
      · refine sx_istore_n dc_Mo_not_93 (by decide) (sx_eq (lc2 := [some (xR a0), some (xI q21.1), some (xI (if (jCmpL ((hI x25 a0 24).toInt64) (60 : Int64)) = 0 then (1 : Int32) else (0 : Int32))), none]) rfl rfl ?_)
        refine sx_aload_n dc_Mo_not_94 rfl ?_
        obtain ⟨q30, eq30, hk⟩ := hk.bind
        refine sx_callV (d2 := d - 1) (mc2 := 0) (ms2 := 0) (as := []) mk_Mo_next rfl (x_rk (ci := 11) g27 rfl rfl) wM_Mo_177 mi_Mo_next me_Mo_next rfl (Nat.le_of_ble_eq_true rfl) (Nat.le_of_ble_eq_true rfl) dc_Mo_not_95 (by omega) (Nat.zero_le _) (Nat.zero_le _) ?_
        refine t_Mo_next (by omega) ⟨q30, eq30, ?_⟩
        refine sx_eq0 (lc2 := [some (xR a0), some (xI q21.1), some (xI (if (jCmpL ((hI x25 a0 24).toInt64) (60 : Int64)) = 0 then (1 : Int32) else (0 : Int32))), none]) (st2 := []) rfl rfl ?_
        refine sx_aload_n dc_Mo_not_98 rfl ?_
        obtain ⟨g32, hk⟩ := hk.g
        obtain ⟨q31, eq31, hk⟩ := hk.bind
        refine sx_callV (d2 := d - 1) (mc2 := 0) (ms2 := 0) (as := []) mk_Mo_added rfl (x_rk (ci := 11) g32 rfl rfl) wM_Mo_227 mi_Mo_added me_Mo_added rfl (Nat.le_of_ble_eq_true rfl) (Nat.le_of_ble_eq_true rfl) dc_Mo_not_99 (by omega) (Nat.zero_le _) (Nat.zero_le _) ?_
        refine t_Mo_added hR0 hR1 (by omega) ⟨q31, eq31, ?_⟩
        refine sx_eq0 (lc2 := [some (xR a0), some (xI q21.1), some (xI (if (jCmpL ((hI x25 a0 24).toInt64) (60 : Int64)) = 0 then (1 : Int32) else (0 : Int32))), none]) (st2 := [xI q31.1]) rfl rfl ?_
        refine sx_istore_n dc_Mo_not_102 (by decide) (sx_eq (lc2 := [some (xR a0), some (xI q21.1), some (xI (if (jCmpL ((hI x25 a0 24).toInt64) (60 : Int64)) = 0 then (1 : Int32) else (0 : Int32))), some (xI q31.1)]) rfl rfl ?_)
        refine sx_iload_n dc_Mo_not_103 rfl ?_
        refine hk.j (X := fun x33 => Sx l z d mc ms M_Mo_not 125 [some (xR a0), some (xI q21.1), some (xI (if (jCmpL ((hI x25 a0 24).toInt64) (60 : Int64)) = 0 then (1 : Int32) else (0 : Int32))), some (xI q31.1)] [xI x33] q31.2 Ph) (fun x33 hk => ?_) (fun k34 jk34 hk => ?_)
        · exact sx_retI dc_Mo_not_125 rfl hk.val
        · refine hk.j (X := fun x35 => Sx l z d mc ms M_Mo_not 120 [some (xR a0), some (xI q21.1), some (xI (if (jCmpL ((hI x25 a0 24).toInt64) (60 : Int64)) = 0 then (1 : Int32) else (0 : Int32))), some (xI q31.1)] [] q31.2 Ph) (fun x35 hk => ?_) (fun k36 jk36 hk => ?_)
          · refine sx_iconst (v := (1 : Int32)) dc_Mo_not_120 (by decide) ?_
            refine sx_goto (tgt := 125) dc_Mo_not_121 (by decide) ?_
            exact jk34 (1 : Int32) hk
          · refine hk.j (X := fun x37 => Sx l z d mc ms M_Mo_not 124 [some (xR a0), some (xI q21.1), some (xI (if (jCmpL ((hI x25 a0 24).toInt64) (60 : Int64)) = 0 then (1 : Int32) else (0 : Int32))), some (xI q31.1)] [] q31.2 Ph) (fun x37 hk => ?_) (fun k38 jk38 hk => ?_)
            · refine sx_iconst (v := (0 : Int32)) dc_Mo_not_124 (by decide) ?_
              exact jk34 (0 : Int32) hk
            · refine sx_if_eq (tgt := 115) dc_Mo_not_104 (by decide) (fun c39 => ?_) (fun c39 => ?_)
              · replace hk := hk.t c39
                refine sx_iload_n dc_Mo_not_115 rfl ?_
                refine sx_iload_n dc_Mo_not_116 rfl ?_
                refine sx_icmp_ne (tgt := 124) dc_Mo_not_117 (by decide) (fun c40 => ?_) (fun c40 => ?_)
                · replace hk := hk.f c40
                  exact jk38 () hk
                · replace hk := hk.t c40
                  exact jk36 () hk
              · replace hk := hk.f c39
                refine sx_iload_n dc_Mo_not_107 rfl ?_
                refine sx_iload_n dc_Mo_not_108 rfl ?_
                refine sx_icmp_ge (tgt := 124) dc_Mo_not_109 (by decide) (fun c41 => ?_) (fun c41 => ?_)
                · replace hk := hk.t c41
                  exact jk38 () hk
                · replace hk := hk.f c41
                  refine sx_goto (tgt := 120) dc_Mo_not_112 (by decide) ?_
                  exact jk36 () hk
      · refine sx_if_ne (tgt := 92) dc_Mo_not_85 (by decide) (fun c29 => ?_) (fun c29 => ?_)
        · try simp only [if_neg c29] at J28
          refine sx_iconst (v := (0 : Int32)) dc_Mo_not_92 (by decide) ?_
          exact J28
        · try simp only [if_pos c29] at J28
          refine sx_iconst (v := (1 : Int32)) dc_Mo_not_88 (by decide) ?_
          refine sx_goto (tgt := 93) dc_Mo_not_89 (by decide) ?_
          exact J28
    · refine sx_if_ne (tgt := 77) dc_Mo_not_63 (by decide) (fun c42 => ?_) (fun c42 => ?_)
      · replace hk := hk.f c42
        exact jk26 q23.2 hk
      · replace hk := hk.t c42
        refine sx_aload_n dc_Mo_not_66 rfl ?_
        refine sx_bipush (v := (61 : Int32)) dc_Mo_not_67 (by decide) ?_
        obtain ⟨g44, hk⟩ := hk.g
        obtain ⟨q43, eq43, hk⟩ := hk.bind
        refine sx_callV (d2 := d - 1) (mc2 := 0) (ms2 := 0) (as := [xI (61 : Int32)]) mk_Mo_isSign rfl (x_rk (ci := 11) g44 rfl rfl) wM_Mo_202 mi_Mo_isSign me_Mo_isSign rfl (Nat.le_of_ble_eq_true rfl) (Nat.le_of_ble_eq_true rfl) dc_Mo_not_69 (by omega) (Nat.zero_le _) (Nat.zero_le _) ?_
        refine t_Mo_isSign (by omega) ⟨q43, eq43, ?_⟩
        refine sx_eq0 (lc2 := [some (xR a0), some (xI q21.1), none, none]) (st2 := [xI q43.1]) rfl rfl ?_
        refine sx_if_ne (tgt := 77) dc_Mo_not_72 (by decide) (fun c45 => ?_) (fun c45 => ?_)
        · replace hk := hk.f c45
          exact jk26 q43.2 hk
        · replace hk := hk.t c45
          refine sx_iload_n dc_Mo_not_75 rfl ?_
          exact sx_retI dc_Mo_not_76 rfl hk.val
  · replace hk := hk.f c20
    refine sx_aload_n dc_Mo_not_18 rfl ?_
    obtain ⟨g47, hk⟩ := hk.g
    obtain ⟨q46, eq46, hk⟩ := hk.bind
    refine sx_callV (d2 := d - 1) (mc2 := 0) (ms2 := 0) (as := []) mk_Mo_opens rfl (x_rk (ci := 11) g47 rfl rfl) wM_Mo_205 mi_Mo_opens me_Mo_opens rfl (Nat.le_of_ble_eq_true rfl) (Nat.le_of_ble_eq_true rfl) dc_Mo_not_19 (by omega) (Nat.zero_le _) (Nat.zero_le _) ?_
    refine t_Mo_opens (by omega) ⟨q46, eq46, ?_⟩
    refine sx_eq0 (lc2 := [some (xR a0), none, none, none]) (st2 := [xI q46.1]) rfl rfl ?_
    refine sx_if_ne (tgt := 27) dc_Mo_not_22 (by decide) (fun c48 => ?_) (fun c48 => ?_)
    · replace hk := hk.f c48
      refine sx_aload_n dc_Mo_not_27 rfl ?_
      obtain ⟨g50, hk⟩ := hk.g
      obtain ⟨q49, eq49, hk⟩ := hk.bind
      refine sx_callV (d2 := d - 1) (mc2 := 0) (ms2 := 0) (as := []) mk_Mo_not rfl (x_rk (ci := 11) g50 rfl rfl) wM_Mo_224 mi_Mo_not me_Mo_not rfl (Nat.le_of_ble_eq_true rfl) (Nat.le_of_ble_eq_true rfl) dc_Mo_not_28 (by omega) (Nat.zero_le _) (Nat.zero_le _) ?_
      refine hR1 (by omega) ⟨q49, eq49, ?_⟩
      refine sx_eq0 (lc2 := [some (xR a0), none, none, none]) (st2 := [xI q49.1]) rfl rfl ?_
      refine sx_istore_n dc_Mo_not_31 (by decide) (sx_eq (lc2 := [some (xR a0), some (xI q49.1), none, none]) rfl rfl ?_)
      refine sx_aload_n dc_Mo_not_32 rfl ?_
      refine sx_dup dc_Mo_not_33 rfl ?_
      obtain ⟨g51, hk⟩ := hk.g
      refine sx_get (ci := 11) (k := 25) rfl (by decide) wF_Mo_171 g51 dc_Mo_not_34 ?_
      refine sx_iconst (v := (1 : Int32)) dc_Mo_not_37 (by decide) ?_
      refine sx_isub dc_Mo_not_38 ?_
      refine sx_putI (ci := 11) (k := 25) rfl (by decide) wF_Mo_171 rfl g51 (Or.inl rfl) dc_Mo_not_39 ?_
      refine sx_iload_n dc_Mo_not_42 rfl ?_
      refine sx_mg (pc2 := 51) (lc2 := [some (xR a0), some (xI q49.1), none, none]) (st2 := [xI (if q49.1 = 0 then (1 : Int32) else (0 : Int32))]) (h2 := (hIu q49.2 a0 25 ((hI q49.2 a0 25) - (1 : Int32)))) ?_ (fun J52 => ?_)
      · exact sx_retI dc_Mo_not_51 rfl hk.val
      · refine sx_if_ne (tgt := 50) dc_Mo_not_43 (by decide) (fun c53 => ?_) (fun c53 => ?_)
        · try simp only [if_neg c53] at J52
          refine sx_iconst (v := (0 : Int32)) dc_Mo_not_50 (by decide) ?_
          exact J52
        · try simp only [if_pos c53] at J52
          refine sx_iconst (v := (1 : Int32)) dc_Mo_not_46 (by decide) ?_
          refine sx_goto (tgt := 51) dc_Mo_not_47 (by decide) ?_
          exact J52
    · replace hk := hk.t c48
      refine sx_iconst (v := (0 : Int32)) dc_Mo_not_25 (by decide) ?_
      exact sx_retI dc_Mo_not_26 rfl hk.val
theorem tg_Mo {l : Launch} {z : xZ} : ∀ (g : Nat), (∀ {d mc ms : Nat} {Ph : Option xV → xH → Prop} {a0 : Nat} {h : xH}, 6 * g ≤ d → OK ((G_Mo g).1 a0 h) (fun q => Ph (some (xI q.1)) q.2) → Sx l z d mc ms M_Mo_atom 0 (x_en [xR a0] 2) [] h Ph) ∧ (∀ {d mc ms : Nat} {Ph : Option xV → xH → Prop} {a0 : Nat} {h : xH}, 6 * g ≤ d → OK ((G_Mo g).2 a0 h) (fun q => Ph (some (xI q.1)) q.2) → Sx l z d mc ms M_Mo_not 0 (x_en [xR a0] 4) [] h Ph)
  | 0 => ⟨fun _ hk => hk.no, fun _ hk => hk.no⟩
  | g + 1 => ⟨fun hd hk => tb_Mo_atom (R0 := (G_Mo g).1) (R1 := (G_Mo g).2) (B := 6 * g) (fun hd hk => (tg_Mo g).1 hd hk) (fun hd hk => (tg_Mo g).2 hd hk) (by omega) hk, fun hd hk => tb_Mo_not (R0 := (G_Mo g).1) (R1 := (G_Mo g).2) (B := 6 * g) (fun hd hk => (tg_Mo g).1 hd hk) (fun hd hk => (tg_Mo g).2 hd hk) (by omega) hk⟩
theorem t_Mo_atom {l : Launch} {z : xZ} {d mc ms : Nat} {Ph : Option xV → xH → Prop} {a0 : Nat} {h : xH} (hd : 144 ≤ d) (hk : OK (f_Mo_atom a0 h) (fun q => Ph (some (xI q.1)) q.2)) : Sx l z d mc ms M_Mo_atom 0 (x_en [xR a0] 2) [] h Ph := (tg_Mo 24).1 (by omega) hk
theorem t_Mo_not {l : Launch} {z : xZ} {d mc ms : Nat} {Ph : Option xV → xH → Prop} {a0 : Nat} {h : xH} (hd : 144 ≤ d) (hk : OK (f_Mo_not a0 h) (fun q => Ph (some (xI q.1)) q.2)) : Sx l z d mc ms M_Mo_not 0 (x_en [xR a0] 4) [] h Ph := (tg_Mo 24).2 (by omega) hk
theorem to_Mo_either {l : Launch} {z : xZ} {d mc ms : Nat} {Ph : Option xV → xH → Prop} {a0 : Nat} {h : xH} (hd : 149 ≤ d) (hk : OK (fo_Mo_either a0 h) (fun q => Ph (some (xI q.1)) q.2)) : Sx l z d mc ms M_Mo_either 0 (x_en [xR a0] 3) [] h Ph := t_Mo_either (B := 144) (fun hd hk => (tg_Mo 24).1 hd hk) (fun hd hk => (tg_Mo 24).2 hd hk) (by omega) hk
theorem dc_Mo_part_0 : decode M_Mo_part.2.1 0 = .ok (.iload_n 1, 1) := by decide +kernel
theorem dc_Mo_part_1 : decode M_Mo_part.2.1 1 = .ok (.ifCond .ne 7, 3) := by decide +kernel
theorem dc_Mo_part_4 : decode M_Mo_part.2.1 4 = .ok (.aload_n 0, 1) := by decide +kernel
theorem dc_Mo_part_5 : decode M_Mo_part.2.1 5 = .ok (.invokevirtual 174, 3) := by decide +kernel
theorem dc_Mo_part_8 : decode M_Mo_part.2.1 8 = .ok (.aload_n 0, 1) := by decide +kernel
theorem dc_Mo_part_9 : decode M_Mo_part.2.1 9 = .ok (.getfield 161, 3) := by decide +kernel
theorem dc_Mo_part_12 : decode M_Mo_part.2.1 12 = .ok (.ifCond .ne 7, 3) := by decide +kernel
theorem dc_Mo_part_15 : decode M_Mo_part.2.1 15 = .ok (.aload_n 0, 1) := by decide +kernel
theorem dc_Mo_part_16 : decode M_Mo_part.2.1 16 = .ok (.invokevirtual 177, 3) := by decide +kernel
theorem dc_Mo_part_19 : decode M_Mo_part.2.1 19 = .ok (.aload_n 0, 1) := by decide +kernel
theorem dc_Mo_part_20 : decode M_Mo_part.2.1 20 = .ok (.getfield 161, 3) := by decide +kernel
theorem dc_Mo_part_23 : decode M_Mo_part.2.1 23 = .ok (.ifCond .eq 7, 3) := by decide +kernel
theorem dc_Mo_part_26 : decode M_Mo_part.2.1 26 = .ok (.iconst 0, 1) := by decide +kernel
theorem dc_Mo_part_27 : decode M_Mo_part.2.1 27 = .ok (.goto 7, 3) := by decide +kernel
theorem dc_Mo_part_30 : decode M_Mo_part.2.1 30 = .ok (.aload_n 0, 1) := by decide +kernel
theorem dc_Mo_part_31 : decode M_Mo_part.2.1 31 = .ok (.invokevirtual 213, 3) := by decide +kernel
theorem dc_Mo_part_34 : decode M_Mo_part.2.1 34 = .ok (.istore_n 2, 1) := by decide +kernel
theorem dc_Mo_part_35 : decode M_Mo_part.2.1 35 = .ok (.aload_n 0, 1) := by decide +kernel
theorem dc_Mo_part_36 : decode M_Mo_part.2.1 36 = .ok (.bipush 59, 2) := by decide +kernel
theorem dc_Mo_part_38 : decode M_Mo_part.2.1 38 = .ok (.invokevirtual 202, 3) := by decide +kernel
theorem dc_Mo_part_41 : decode M_Mo_part.2.1 41 = .ok (.ifCond .ne 7, 3) := by decide +kernel
theorem dc_Mo_part_44 : decode M_Mo_part.2.1 44 = .ok (.aload_n 0, 1) := by decide +kernel
theorem dc_Mo_part_45 : decode M_Mo_part.2.1 45 = .ok (.invokevirtual 174, 3) := by decide +kernel
theorem dc_Mo_part_48 : decode M_Mo_part.2.1 48 = .ok (.aload_n 0, 1) := by decide +kernel
theorem dc_Mo_part_49 : decode M_Mo_part.2.1 49 = .ok (.getfield 161, 3) := by decide +kernel
theorem dc_Mo_part_52 : decode M_Mo_part.2.1 52 = .ok (.ifCond .ne 7, 3) := by decide +kernel
theorem dc_Mo_part_55 : decode M_Mo_part.2.1 55 = .ok (.aload_n 0, 1) := by decide +kernel
theorem dc_Mo_part_56 : decode M_Mo_part.2.1 56 = .ok (.invokevirtual 177, 3) := by decide +kernel
theorem dc_Mo_part_59 : decode M_Mo_part.2.1 59 = .ok (.iload_n 2, 1) := by decide +kernel
theorem dc_Mo_part_60 : decode M_Mo_part.2.1 60 = .ok (.ireturn, 1) := by decide +kernel
def f_Mo_part (a0 : Nat) (a1 : Int32) (h : xH) : Option (Int32 × xH) := jn (fun (x11 : xH) => gd (hK x11 a0 = 11) (jn (fun (x14 : xH) => gd (hK x14 a0 = 11) (jn (fun (x17 : Int32 × xH) => gd (hK x17.2 a0 = 11) (Option.bind (f_Mo_isSign a0 (59 : Int32) x17.2) (fun q19 => jn (fun (x21 : xH) => gd (hK x21 a0 = 11) (jn (fun (x24 : xH) => some (x17.1, x24)) (fun k25 => if (hI x21 a0 26) = 0 then Option.bind (f_Mo_next a0 x21) (fun q27 => k25 q27.2) else k25 x21))) (fun k22 => if q19.1 = 0 then gd (hK q19.2 a0 = 11) (Option.bind (f_Mo_fail a0 q19.2) (fun q29 => k22 q29.2)) else k22 q19.2)))) (fun k18 => if (hI x14 a0 26) = 0 then Option.bind (fo_Mo_either a0 x14) (fun q32 => k18 (q32.1, q32.2)) else k18 ((0 : Int32), x14)))) (fun k15 => if (hI x11 a0 26) = 0 then Option.bind (f_Mo_next a0 x11) (fun q34 => k15 q34.2) else k15 x11))) (fun k12 => if a1 = 0 then gd (hK h a0 = 11) (Option.bind (f_Mo_fail a0 h) (fun q36 => k12 q36.2)) else k12 h)
theorem t_Mo_part {l : Launch} {z : xZ} {d mc ms : Nat} {Ph : Option xV → xH → Prop} {a0 : Nat} {a1 : Int32}  {h : xH} (hd : 150 ≤ d) (hk : OK (f_Mo_part a0 a1 h) (fun q => Ph (some (xI q.1)) q.2)) : Sx l z d mc ms M_Mo_part 0 (x_en [xR a0, xI a1] 3) [] h Ph := by
  unfold f_Mo_part at hk
  refine sx_eq (lc2 := [some (xR a0), some (xI a1), none]) rfl rfl ?_
  refine sx_iload_n dc_Mo_part_0 rfl ?_
  refine hk.j (X := fun x11 => Sx l z d mc ms M_Mo_part 8 [some (xR a0), some (xI a1), none] [] x11 Ph) (fun x11 hk => ?_) (fun k12 jk12 hk => ?_)
  · refine sx_aload_n dc_Mo_part_8 rfl ?_
    obtain ⟨g13, hk⟩ := hk.g
    refine sx_get (ci := 11) (k := 26) rfl (by decide) wF_Mo_161 g13 dc_Mo_part_9 ?_
    refine hk.j (X := fun x14 => Sx l z d mc ms M_Mo_part 19 [some (xR a0), some (xI a1), none] [] x14 Ph) (fun x14 hk => ?_) (fun k15 jk15 hk => ?_)
    · refine sx_aload_n dc_Mo_part_19 rfl ?_
      obtain ⟨g16, hk⟩ := hk.g
      refine sx_get (ci := 11) (k := 26) rfl (by decide) wF_Mo_161 g16 dc_Mo_part_20 ?_
      refine hk.j (X := fun x17 => Sx l z d mc ms M_Mo_part 34 [some (xR a0), some (xI a1), none] [xI x17.1] x17.2 Ph) (fun x17 hk => ?_) (fun k18 jk18 hk => ?_)
      · refine sx_istore_n dc_Mo_part_34 (by decide) (sx_eq (lc2 := [some (xR a0), some (xI a1), some (xI x17.1)]) rfl rfl ?_)
        refine sx_aload_n dc_Mo_part_35 rfl ?_
        refine sx_bipush (v := (59 : Int32)) dc_Mo_part_36 (by decide) ?_
        obtain ⟨g20, hk⟩ := hk.g
        obtain ⟨q19, eq19, hk⟩ := hk.bind
        refine sx_callV (d2 := d - 1) (mc2 := 0) (ms2 := 0) (as := [xI (59 : Int32)]) mk_Mo_isSign rfl (x_rk (ci := 11) g20 rfl rfl) wM_Mo_202 mi_Mo_isSign me_Mo_isSign rfl (Nat.le_of_ble_eq_true rfl) (Nat.le_of_ble_eq_true rfl) dc_Mo_part_38 (by omega) (Nat.zero_le _) (Nat.zero_le _) ?_
        refine t_Mo_isSign (by omega) ⟨q19, eq19, ?_⟩
        refine sx_eq0 (lc2 := [some (xR a0), some (xI a1), some (xI x17.1)]) (st2 := [xI q19.1]) rfl rfl ?_
        refine hk.j (X := fun x21 => Sx l z d mc ms M_Mo_part 48 [some (xR a0), some (xI a1), some (xI x17.1)] [] x21 Ph) (fun x21 hk => ?_) (fun k22 jk22 hk => ?_)
        · refine sx_aload_n dc_Mo_part_48 rfl ?_
          obtain ⟨g23, hk⟩ := hk.g
          refine sx_get (ci := 11) (k := 26) rfl (by decide) wF_Mo_161 g23 dc_Mo_part_49 ?_
          refine hk.j (X := fun x24 => Sx l z d mc ms M_Mo_part 59 [some (xR a0), some (xI a1), some (xI x17.1)] [] x24 Ph) (fun x24 hk => ?_) (fun k25 jk25 hk => ?_)
          · refine sx_iload_n dc_Mo_part_59 rfl ?_
            exact sx_retI dc_Mo_part_60 rfl hk.val
          · refine sx_if_ne (tgt := 59) dc_Mo_part_52 (by decide) (fun c26 => ?_) (fun c26 => ?_)
            · replace hk := hk.f c26
              exact jk25 x21 hk
            · replace hk := hk.t c26
              refine sx_aload_n dc_Mo_part_55 rfl ?_
              obtain ⟨q27, eq27, hk⟩ := hk.bind
              refine sx_callV (d2 := d - 1) (mc2 := 0) (ms2 := 0) (as := []) mk_Mo_next rfl (x_rk (ci := 11) g23 rfl rfl) wM_Mo_177 mi_Mo_next me_Mo_next rfl (Nat.le_of_ble_eq_true rfl) (Nat.le_of_ble_eq_true rfl) dc_Mo_part_56 (by omega) (Nat.zero_le _) (Nat.zero_le _) ?_
              refine t_Mo_next (by omega) ⟨q27, eq27, ?_⟩
              refine sx_eq0 (lc2 := [some (xR a0), some (xI a1), some (xI x17.1)]) (st2 := []) rfl rfl ?_
              exact jk25 q27.2 hk
        · refine sx_if_ne (tgt := 48) dc_Mo_part_41 (by decide) (fun c28 => ?_) (fun c28 => ?_)
          · replace hk := hk.f c28
            exact jk22 q19.2 hk
          · replace hk := hk.t c28
            refine sx_aload_n dc_Mo_part_44 rfl ?_
            obtain ⟨g30, hk⟩ := hk.g
            obtain ⟨q29, eq29, hk⟩ := hk.bind
            refine sx_callV (d2 := d - 1) (mc2 := 0) (ms2 := 0) (as := []) mk_Mo_fail rfl (x_rk (ci := 11) g30 rfl rfl) wM_Mo_174 mi_Mo_fail me_Mo_fail rfl (Nat.le_of_ble_eq_true rfl) (Nat.le_of_ble_eq_true rfl) dc_Mo_part_45 (by omega) (Nat.zero_le _) (Nat.zero_le _) ?_
            refine t_Mo_fail (by omega) ⟨q29, eq29, ?_⟩
            refine sx_eq0 (lc2 := [some (xR a0), some (xI a1), some (xI x17.1)]) (st2 := []) rfl rfl ?_
            exact jk22 q29.2 hk
      · refine sx_if_eq (tgt := 30) dc_Mo_part_23 (by decide) (fun c31 => ?_) (fun c31 => ?_)
        · replace hk := hk.t c31
          refine sx_aload_n dc_Mo_part_30 rfl ?_
          obtain ⟨q32, eq32, hk⟩ := hk.bind
          refine sx_callV (d2 := d - 1) (mc2 := 0) (ms2 := 0) (as := []) mk_Mo_either rfl (x_rk (ci := 11) g16 rfl rfl) wM_Mo_213 mi_Mo_either me_Mo_either rfl (Nat.le_of_ble_eq_true rfl) (Nat.le_of_ble_eq_true rfl) dc_Mo_part_31 (by omega) (Nat.zero_le _) (Nat.zero_le _) ?_
          refine to_Mo_either (by omega) ⟨q32, eq32, ?_⟩
          refine sx_eq0 (lc2 := [some (xR a0), some (xI a1), none]) (st2 := [xI q32.1]) rfl rfl ?_
          exact jk18 (q32.1, q32.2) hk
        · replace hk := hk.f c31
          refine sx_iconst (v := (0 : Int32)) dc_Mo_part_26 (by decide) ?_
          refine sx_goto (tgt := 34) dc_Mo_part_27 (by decide) ?_
          exact jk18 ((0 : Int32), x14) hk
    · refine sx_if_ne (tgt := 19) dc_Mo_part_12 (by decide) (fun c33 => ?_) (fun c33 => ?_)
      · replace hk := hk.f c33
        exact jk15 x11 hk
      · replace hk := hk.t c33
        refine sx_aload_n dc_Mo_part_15 rfl ?_
        obtain ⟨q34, eq34, hk⟩ := hk.bind
        refine sx_callV (d2 := d - 1) (mc2 := 0) (ms2 := 0) (as := []) mk_Mo_next rfl (x_rk (ci := 11) g13 rfl rfl) wM_Mo_177 mi_Mo_next me_Mo_next rfl (Nat.le_of_ble_eq_true rfl) (Nat.le_of_ble_eq_true rfl) dc_Mo_part_16 (by omega) (Nat.zero_le _) (Nat.zero_le _) ?_
        refine t_Mo_next (by omega) ⟨q34, eq34, ?_⟩
        refine sx_eq0 (lc2 := [some (xR a0), some (xI a1), none]) (st2 := []) rfl rfl ?_
        exact jk15 q34.2 hk
  · refine sx_if_ne (tgt := 8) dc_Mo_part_1 (by decide) (fun c35 => ?_) (fun c35 => ?_)
    · replace hk := hk.f c35
      exact jk12 h hk
    · replace hk := hk.t c35
      refine sx_aload_n dc_Mo_part_4 rfl ?_
      obtain ⟨g37, hk⟩ := hk.g
      obtain ⟨q36, eq36, hk⟩ := hk.bind
      refine sx_callV (d2 := d - 1) (mc2 := 0) (ms2 := 0) (as := []) mk_Mo_fail rfl (x_rk (ci := 11) g37 rfl rfl) wM_Mo_174 mi_Mo_fail me_Mo_fail rfl (Nat.le_of_ble_eq_true rfl) (Nat.le_of_ble_eq_true rfl) dc_Mo_part_5 (by omega) (Nat.zero_le _) (Nat.zero_le _) ?_
      refine t_Mo_fail (by omega) ⟨q36, eq36, ?_⟩
      refine sx_eq0 (lc2 := [some (xR a0), some (xI a1), none]) (st2 := []) rfl rfl ?_
      exact jk12 q36.2 hk
theorem dc_Mo_read_0 : decode M_Mo_read.2.1 0 = .ok (.aload_n 0, 1) := by decide +kernel
theorem dc_Mo_read_1 : decode M_Mo_read.2.1 1 = .ok (.sipush 160, 3) := by decide +kernel
theorem dc_Mo_read_4 : decode M_Mo_read.2.1 4 = .ok (.iload_n 1, 1) := by decide +kernel
theorem dc_Mo_read_5 : decode M_Mo_read.2.1 5 = .ok (.imul, 1) := by decide +kernel
theorem dc_Mo_read_6 : decode M_Mo_read.2.1 6 = .ok (.putfield 132, 3) := by decide +kernel
theorem dc_Mo_read_9 : decode M_Mo_read.2.1 9 = .ok (.aload_n 0, 1) := by decide +kernel
theorem dc_Mo_read_10 : decode M_Mo_read.2.1 10 = .ok (.aload_n 0, 1) := by decide +kernel
theorem dc_Mo_read_11 : decode M_Mo_read.2.1 11 = .ok (.getfield 17, 3) := by decide +kernel
theorem dc_Mo_read_14 : decode M_Mo_read.2.1 14 = .ok (.iload_n 1, 1) := by decide +kernel
theorem dc_Mo_read_15 : decode M_Mo_read.2.1 15 = .ok (.iaload, 1) := by decide +kernel
theorem dc_Mo_read_16 : decode M_Mo_read.2.1 16 = .ok (.putfield 129, 3) := by decide +kernel
theorem dc_Mo_read_19 : decode M_Mo_read.2.1 19 = .ok (.aload_n 0, 1) := by decide +kernel
theorem dc_Mo_read_20 : decode M_Mo_read.2.1 20 = .ok (.iconst 0, 1) := by decide +kernel
theorem dc_Mo_read_21 : decode M_Mo_read.2.1 21 = .ok (.putfield 135, 3) := by decide +kernel
theorem dc_Mo_read_24 : decode M_Mo_read.2.1 24 = .ok (.aload_n 0, 1) := by decide +kernel
theorem dc_Mo_read_25 : decode M_Mo_read.2.1 25 = .ok (.iconst 0, 1) := by decide +kernel
theorem dc_Mo_read_26 : decode M_Mo_read.2.1 26 = .ok (.putfield 171, 3) := by decide +kernel
theorem dc_Mo_read_29 : decode M_Mo_read.2.1 29 = .ok (.aload_n 0, 1) := by decide +kernel
theorem dc_Mo_read_30 : decode M_Mo_read.2.1 30 = .ok (.iconst 0, 1) := by decide +kernel
theorem dc_Mo_read_31 : decode M_Mo_read.2.1 31 = .ok (.putfield 161, 3) := by decide +kernel
theorem dc_Mo_read_34 : decode M_Mo_read.2.1 34 = .ok (.aload_n 0, 1) := by decide +kernel
theorem dc_Mo_read_35 : decode M_Mo_read.2.1 35 = .ok (.invokevirtual 177, 3) := by decide +kernel
theorem dc_Mo_read_38 : decode M_Mo_read.2.1 38 = .ok (.aload_n 0, 1) := by decide +kernel
theorem dc_Mo_read_39 : decode M_Mo_read.2.1 39 = .ok (.aload_n 0, 1) := by decide +kernel
theorem dc_Mo_read_40 : decode M_Mo_read.2.1 40 = .ok (.bipush 99, 2) := by decide +kernel
theorem dc_Mo_read_42 : decode M_Mo_read.2.1 42 = .ok (.bipush 111, 2) := by decide +kernel
theorem dc_Mo_read_44 : decode M_Mo_read.2.1 44 = .ok (.bipush 117, 2) := by decide +kernel
theorem dc_Mo_read_46 : decode M_Mo_read.2.1 46 = .ok (.bipush 110, 2) := by decide +kernel
theorem dc_Mo_read_48 : decode M_Mo_read.2.1 48 = .ok (.bipush 116, 2) := by decide +kernel
theorem dc_Mo_read_50 : decode M_Mo_read.2.1 50 = .ok (.bipush 115, 2) := by decide +kernel
theorem dc_Mo_read_52 : decode M_Mo_read.2.1 52 = .ok (.iconst 0, 1) := by decide +kernel
theorem dc_Mo_read_53 : decode M_Mo_read.2.1 53 = .ok (.iconst 0, 1) := by decide +kernel
theorem dc_Mo_read_54 : decode M_Mo_read.2.1 54 = .ok (.invokevirtual 180, 3) := by decide +kernel
theorem dc_Mo_read_57 : decode M_Mo_read.2.1 57 = .ok (.invokevirtual 235, 3) := by decide +kernel
theorem dc_Mo_read_60 : decode M_Mo_read.2.1 60 = .ok (.istore_n 3, 1) := by decide +kernel
theorem dc_Mo_read_61 : decode M_Mo_read.2.1 61 = .ok (.aload_n 0, 1) := by decide +kernel
theorem dc_Mo_read_62 : decode M_Mo_read.2.1 62 = .ok (.getfield 161, 3) := by decide +kernel
theorem dc_Mo_read_65 : decode M_Mo_read.2.1 65 = .ok (.ifCond .eq 7, 3) := by decide +kernel
theorem dc_Mo_read_68 : decode M_Mo_read.2.1 68 = .ok (.iconst 0, 1) := by decide +kernel
theorem dc_Mo_read_69 : decode M_Mo_read.2.1 69 = .ok (.goto 24, 3) := by decide +kernel
theorem dc_Mo_read_72 : decode M_Mo_read.2.1 72 = .ok (.aload_n 0, 1) := by decide +kernel
theorem dc_Mo_read_73 : decode M_Mo_read.2.1 73 = .ok (.aload_n 0, 1) := by decide +kernel
theorem dc_Mo_read_74 : decode M_Mo_read.2.1 74 = .ok (.bipush 99, 2) := by decide +kernel
theorem dc_Mo_read_76 : decode M_Mo_read.2.1 76 = .ok (.bipush 111, 2) := by decide +kernel
theorem dc_Mo_read_78 : decode M_Mo_read.2.1 78 = .ok (.bipush 115, 2) := by decide +kernel
theorem dc_Mo_read_80 : decode M_Mo_read.2.1 80 = .ok (.bipush 116, 2) := by decide +kernel
theorem dc_Mo_read_82 : decode M_Mo_read.2.1 82 = .ok (.bipush 115, 2) := by decide +kernel
theorem dc_Mo_read_84 : decode M_Mo_read.2.1 84 = .ok (.iconst 0, 1) := by decide +kernel
theorem dc_Mo_read_85 : decode M_Mo_read.2.1 85 = .ok (.iconst 0, 1) := by decide +kernel
theorem dc_Mo_read_86 : decode M_Mo_read.2.1 86 = .ok (.iconst 0, 1) := by decide +kernel
theorem dc_Mo_read_87 : decode M_Mo_read.2.1 87 = .ok (.invokevirtual 180, 3) := by decide +kernel
theorem dc_Mo_read_90 : decode M_Mo_read.2.1 90 = .ok (.invokevirtual 235, 3) := by decide +kernel
theorem dc_Mo_read_93 : decode M_Mo_read.2.1 93 = .ok (.istore 4, 2) := by decide +kernel
theorem dc_Mo_read_95 : decode M_Mo_read.2.1 95 = .ok (.aload_n 0, 1) := by decide +kernel
theorem dc_Mo_read_96 : decode M_Mo_read.2.1 96 = .ok (.getfield 161, 3) := by decide +kernel
theorem dc_Mo_read_99 : decode M_Mo_read.2.1 99 = .ok (.ifCond .eq 7, 3) := by decide +kernel
theorem dc_Mo_read_102 : decode M_Mo_read.2.1 102 = .ok (.iconst 0, 1) := by decide +kernel
theorem dc_Mo_read_103 : decode M_Mo_read.2.1 103 = .ok (.goto 22, 3) := by decide +kernel
theorem dc_Mo_read_106 : decode M_Mo_read.2.1 106 = .ok (.aload_n 0, 1) := by decide +kernel
theorem dc_Mo_read_107 : decode M_Mo_read.2.1 107 = .ok (.aload_n 0, 1) := by decide +kernel
theorem dc_Mo_read_108 : decode M_Mo_read.2.1 108 = .ok (.bipush 106, 2) := by decide +kernel
theorem dc_Mo_read_110 : decode M_Mo_read.2.1 110 = .ok (.bipush 111, 2) := by decide +kernel
theorem dc_Mo_read_112 : decode M_Mo_read.2.1 112 = .ok (.bipush 121, 2) := by decide +kernel
theorem dc_Mo_read_114 : decode M_Mo_read.2.1 114 = .ok (.iconst 0, 1) := by decide +kernel
theorem dc_Mo_read_115 : decode M_Mo_read.2.1 115 = .ok (.iconst 0, 1) := by decide +kernel
theorem dc_Mo_read_116 : decode M_Mo_read.2.1 116 = .ok (.iconst 0, 1) := by decide +kernel
theorem dc_Mo_read_117 : decode M_Mo_read.2.1 117 = .ok (.iconst 0, 1) := by decide +kernel
theorem dc_Mo_read_118 : decode M_Mo_read.2.1 118 = .ok (.iconst 0, 1) := by decide +kernel
theorem dc_Mo_read_119 : decode M_Mo_read.2.1 119 = .ok (.invokevirtual 180, 3) := by decide +kernel
theorem dc_Mo_read_122 : decode M_Mo_read.2.1 122 = .ok (.invokevirtual 235, 3) := by decide +kernel
theorem dc_Mo_read_125 : decode M_Mo_read.2.1 125 = .ok (.istore 5, 2) := by decide +kernel
theorem dc_Mo_read_127 : decode M_Mo_read.2.1 127 = .ok (.aload_n 0, 1) := by decide +kernel
theorem dc_Mo_read_128 : decode M_Mo_read.2.1 128 = .ok (.getfield 161, 3) := by decide +kernel
theorem dc_Mo_read_131 : decode M_Mo_read.2.1 131 = .ok (.ifCond .ne 14, 3) := by decide +kernel
theorem dc_Mo_read_134 : decode M_Mo_read.2.1 134 = .ok (.aload_n 0, 1) := by decide +kernel
theorem dc_Mo_read_135 : decode M_Mo_read.2.1 135 = .ok (.getfield 144, 3) := by decide +kernel
theorem dc_Mo_read_138 : decode M_Mo_read.2.1 138 = .ok (.ifCond .eq 7, 3) := by decide +kernel
theorem dc_Mo_read_141 : decode M_Mo_read.2.1 141 = .ok (.aload_n 0, 1) := by decide +kernel
theorem dc_Mo_read_142 : decode M_Mo_read.2.1 142 = .ok (.invokevirtual 174, 3) := by decide +kernel
theorem dc_Mo_read_145 : decode M_Mo_read.2.1 145 = .ok (.iload_n 2, 1) := by decide +kernel
theorem dc_Mo_read_146 : decode M_Mo_read.2.1 146 = .ok (.ifCond .ne 7, 3) := by decide +kernel
theorem dc_Mo_read_149 : decode M_Mo_read.2.1 149 = .ok (.iload_n 3, 1) := by decide +kernel
theorem dc_Mo_read_150 : decode M_Mo_read.2.1 150 = .ok (.goto 15, 3) := by decide +kernel
theorem dc_Mo_read_153 : decode M_Mo_read.2.1 153 = .ok (.iload_n 2, 1) := by decide +kernel
theorem dc_Mo_read_154 : decode M_Mo_read.2.1 154 = .ok (.iconst 1, 1) := by decide +kernel
theorem dc_Mo_read_155 : decode M_Mo_read.2.1 155 = .ok (.if_icmp .ne 8, 3) := by decide +kernel
theorem dc_Mo_read_158 : decode M_Mo_read.2.1 158 = .ok (.iload 4, 2) := by decide +kernel
theorem dc_Mo_read_160 : decode M_Mo_read.2.1 160 = .ok (.goto 5, 3) := by decide +kernel
theorem dc_Mo_read_163 : decode M_Mo_read.2.1 163 = .ok (.iload 5, 2) := by decide +kernel
theorem dc_Mo_read_165 : decode M_Mo_read.2.1 165 = .ok (.ireturn, 1) := by decide +kernel
def f_Mo_read (a0 : Nat) (a1 : Int32) (a2 : Int32) (h : xH) : Option (Int32 × xH) := gd (hK h a0 = 11) (gd (hK h (hR h a0 2) = 12) (gd (¬ (a1 < 0 ∨ hL h (hR h a0 2) ≤ a1.toNatClampNeg)) (hp (hIu (hIu (hIu (hIu h a0 19 ((160 : Int32) * a1)) a0 20 (hI (hIu h a0 19 ((160 : Int32) * a1)) (hR h a0 2) a1.toNatClampNeg)) a0 21 (0 : Int32)) a0 25 (0 : Int32)) (fun h20 => Option.bind (f_Mo_next a0 (hIu h20 a0 26 (0 : Int32))) (fun q23 => gd (hK q23.2 a0 = 11) (Option.bind (f_Mo_isWord a0 (99 : Int32) (111 : Int32) (117 : Int32) (110 : Int32) (116 : Int32) (115 : Int32) (0 : Int32) (0 : Int32) q23.2) (fun q24 => gd (hK q24.2 a0 = 11) (Option.bind (f_Mo_part a0 q24.1 q24.2) (fun q26 => gd (hK q26.2 a0 = 11) (jn (fun (x29 : Int32 × xH) => gd (hK x29.2 a0 = 11) (jn (fun (x32 : Int32 × xH) => gd (hK x32.2 a0 = 11) (jn (fun (x35 : xH) => some ((if a2 = 0 then q26.1 else if a2 = (1 : Int32) then x29.1 else x32.1), x35)) (fun k36 => if (hI x32.2 a0 26) = 0 then if (hI x32.2 a0 22) = 0 then k36 x32.2 else Option.bind (f_Mo_fail a0 x32.2) (fun q42 => k36 q42.2) else k36 x32.2))) (fun k33 => if (hI x29.2 a0 26) = 0 then Option.bind (f_Mo_isWord a0 (106 : Int32) (111 : Int32) (121 : Int32) (0 : Int32) (0 : Int32) (0 : Int32) (0 : Int32) (0 : Int32) x29.2) (fun q44 => gd (hK q44.2 a0 = 11) (Option.bind (f_Mo_part a0 q44.1 q44.2) (fun q45 => k33 (q45.1, q45.2)))) else k33 ((0 : Int32), x29.2)))) (fun k30 => if (hI q26.2 a0 26) = 0 then Option.bind (f_Mo_isWord a0 (99 : Int32) (111 : Int32) (115 : Int32) (116 : Int32) (115 : Int32) (0 : Int32) (0 : Int32) (0 : Int32) q26.2) (fun q48 => gd (hK q48.2 a0 = 11) (Option.bind (f_Mo_part a0 q48.1 q48.2) (fun q49 => k30 (q49.1, q49.2)))) else k30 ((0 : Int32), q26.2))))))))))))
theorem t_Mo_read {l : Launch} {z : xZ} {d mc ms : Nat} {Ph : Option xV → xH → Prop} {a0 : Nat} {a1 : Int32} {a2 : Int32}  {h : xH} (hd : 151 ≤ d) (hk : OK (f_Mo_read a0 a1 a2 h) (fun q => Ph (some (xI q.1)) q.2)) : Sx l z d mc ms M_Mo_read 0 (x_en [xR a0, xI a1, xI a2] 6) [] h Ph := by
  unfold f_Mo_read at hk
  refine sx_eq (lc2 := [some (xR a0), some (xI a1), some (xI a2), none, none, none]) rfl rfl ?_
  refine sx_aload_n dc_Mo_read_0 rfl ?_
  refine sx_sipush (v := (160 : Int32)) dc_Mo_read_1 (by decide) ?_
  refine sx_iload_n dc_Mo_read_4 rfl ?_
  refine sx_imul dc_Mo_read_5 ?_
  obtain ⟨g17, hk⟩ := hk.g
  refine sx_putI (ci := 11) (k := 19) rfl (by decide) wF_Mo_132 rfl g17 (Or.inl rfl) dc_Mo_read_6 ?_
  refine sx_aload_n dc_Mo_read_9 rfl ?_
  refine sx_aload_n dc_Mo_read_10 rfl ?_
  refine sx_get (ci := 11) (k := 2) rfl (by decide) wF_Mo_17 g17 dc_Mo_read_11 ?_
  refine sx_iload_n dc_Mo_read_14 rfl ?_
  obtain ⟨g18, hk⟩ := hk.g
  obtain ⟨g19, hk⟩ := hk.g
  refine sx_iald g18 g19 dc_Mo_read_15 ?_
  refine sx_putI (ci := 11) (k := 20) rfl (by decide) wF_Mo_129 rfl g17 (Or.inl rfl) dc_Mo_read_16 ?_
  refine sx_aload_n dc_Mo_read_19 rfl ?_
  refine sx_iconst (v := (0 : Int32)) dc_Mo_read_20 (by decide) ?_
  refine sx_putI (ci := 11) (k := 21) rfl (by decide) wF_Mo_135 rfl g17 (Or.inl rfl) dc_Mo_read_21 ?_
  refine sx_aload_n dc_Mo_read_24 rfl ?_
  refine sx_iconst (v := (0 : Int32)) dc_Mo_read_25 (by decide) ?_
  refine sx_putI (ci := 11) (k := 25) rfl (by decide) wF_Mo_171 rfl g17 (Or.inl rfl) dc_Mo_read_26 ?_
  obtain ⟨h20, eh20, hk⟩ := hk.h
  refine sx_hp eh20 ?_
  have g21 : hK h20 a0 = 11 := by rw [eh20]; exact g17
  have g22 : hK h20 (hR h a0 2) = 12 := by rw [eh20]; exact g18
  refine sx_aload_n dc_Mo_read_29 rfl ?_
  refine sx_iconst (v := (0 : Int32)) dc_Mo_read_30 (by decide) ?_
  refine sx_putI (ci := 11) (k := 26) rfl (by decide) wF_Mo_161 rfl g21 (Or.inr ⟨rfl, Or.inl rfl⟩) dc_Mo_read_31 ?_
  refine sx_aload_n dc_Mo_read_34 rfl ?_
  obtain ⟨q23, eq23, hk⟩ := hk.bind
  refine sx_callV (d2 := d - 1) (mc2 := 0) (ms2 := 0) (as := []) mk_Mo_next rfl (x_rk (ci := 11) g21 rfl rfl) wM_Mo_177 mi_Mo_next me_Mo_next rfl (Nat.le_of_ble_eq_true rfl) (Nat.le_of_ble_eq_true rfl) dc_Mo_read_35 (by omega) (Nat.zero_le _) (Nat.zero_le _) ?_
  refine t_Mo_next (by omega) ⟨q23, eq23, ?_⟩
  refine sx_eq0 (lc2 := [some (xR a0), some (xI a1), some (xI a2), none, none, none]) (st2 := []) rfl rfl ?_
  refine sx_aload_n dc_Mo_read_38 rfl ?_
  refine sx_aload_n dc_Mo_read_39 rfl ?_
  refine sx_bipush (v := (99 : Int32)) dc_Mo_read_40 (by decide) ?_
  refine sx_bipush (v := (111 : Int32)) dc_Mo_read_42 (by decide) ?_
  refine sx_bipush (v := (117 : Int32)) dc_Mo_read_44 (by decide) ?_
  refine sx_bipush (v := (110 : Int32)) dc_Mo_read_46 (by decide) ?_
  refine sx_bipush (v := (116 : Int32)) dc_Mo_read_48 (by decide) ?_
  refine sx_bipush (v := (115 : Int32)) dc_Mo_read_50 (by decide) ?_
  refine sx_iconst (v := (0 : Int32)) dc_Mo_read_52 (by decide) ?_
  refine sx_iconst (v := (0 : Int32)) dc_Mo_read_53 (by decide) ?_
  obtain ⟨g25, hk⟩ := hk.g
  obtain ⟨q24, eq24, hk⟩ := hk.bind
  refine sx_callV (d2 := d - 1) (mc2 := 0) (ms2 := 0) (as := [xI (99 : Int32), xI (111 : Int32), xI (117 : Int32), xI (110 : Int32), xI (116 : Int32), xI (115 : Int32), xI (0 : Int32), xI (0 : Int32)]) mk_Mo_isWord rfl (x_rk (ci := 11) g25 rfl rfl) wM_Mo_180 mi_Mo_isWord me_Mo_isWord rfl (Nat.le_of_ble_eq_true rfl) (Nat.le_of_ble_eq_true rfl) dc_Mo_read_54 (by omega) (Nat.zero_le _) (Nat.zero_le _) ?_
  refine t_Mo_isWord (by omega) ⟨q24, eq24, ?_⟩
  refine sx_eq0 (lc2 := [some (xR a0), some (xI a1), some (xI a2), none, none, none]) (st2 := [xI q24.1, xR a0]) rfl rfl ?_
  obtain ⟨g27, hk⟩ := hk.g
  obtain ⟨q26, eq26, hk⟩ := hk.bind
  refine sx_callV (d2 := d - 1) (mc2 := 0) (ms2 := 0) (as := [xI q24.1]) mk_Mo_part rfl (x_rk (ci := 11) g27 rfl rfl) wM_Mo_235 mi_Mo_part me_Mo_part rfl (Nat.le_of_ble_eq_true rfl) (Nat.le_of_ble_eq_true rfl) dc_Mo_read_57 (by omega) (Nat.zero_le _) (Nat.zero_le _) ?_
  refine t_Mo_part (by omega) ⟨q26, eq26, ?_⟩
  refine sx_eq0 (lc2 := [some (xR a0), some (xI a1), some (xI a2), none, none, none]) (st2 := [xI q26.1]) rfl rfl ?_
  refine sx_istore_n dc_Mo_read_60 (by decide) (sx_eq (lc2 := [some (xR a0), some (xI a1), some (xI a2), some (xI q26.1), none, none]) rfl rfl ?_)
  refine sx_aload_n dc_Mo_read_61 rfl ?_
  obtain ⟨g28, hk⟩ := hk.g
  refine sx_get (ci := 11) (k := 26) rfl (by decide) wF_Mo_161 g28 dc_Mo_read_62 ?_
  refine hk.j (X := fun x29 => Sx l z d mc ms M_Mo_read 93 [some (xR a0), some (xI a1), some (xI a2), some (xI q26.1), none, none] [xI x29.1] x29.2 Ph) (fun x29 hk => ?_) (fun k30 jk30 hk => ?_)
  · refine sx_istore dc_Mo_read_93 (by decide) (sx_eq (lc2 := [some (xR a0), some (xI a1), some (xI a2), some (xI q26.1), some (xI x29.1), none]) rfl rfl ?_)
    refine sx_aload_n dc_Mo_read_95 rfl ?_
    obtain ⟨g31, hk⟩ := hk.g
    refine sx_get (ci := 11) (k := 26) rfl (by decide) wF_Mo_161 g31 dc_Mo_read_96 ?_
    refine hk.j (X := fun x32 => Sx l z d mc ms M_Mo_read 125 [some (xR a0), some (xI a1), some (xI a2), some (xI q26.1), some (xI x29.1), none] [xI x32.1] x32.2 Ph) (fun x32 hk => ?_) (fun k33 jk33 hk => ?_)
    · refine sx_istore dc_Mo_read_125 (by decide) (sx_eq (lc2 := [some (xR a0), some (xI a1), some (xI a2), some (xI q26.1), some (xI x29.1), some (xI x32.1)]) rfl rfl ?_)
      refine sx_aload_n dc_Mo_read_127 rfl ?_
      obtain ⟨g34, hk⟩ := hk.g
      refine sx_get (ci := 11) (k := 26) rfl (by decide) wF_Mo_161 g34 dc_Mo_read_128 ?_
      refine hk.j (X := fun x35 => Sx l z d mc ms M_Mo_read 145 [some (xR a0), some (xI a1), some (xI a2), some (xI q26.1), some (xI x29.1), some (xI x32.1)] [] x35 Ph) (fun x35 hk => ?_) (fun k36 jk36 hk => ?_)
      · refine sx_iload_n dc_Mo_read_145 rfl ?_
        refine sx_mg (pc2 := 165) (lc2 := [some (xR a0), some (xI a1), some (xI a2), some (xI q26.1), some (xI x29.1), some (xI x32.1)]) (st2 := [xI (if a2 = 0 then q26.1 else if a2 = (1 : Int32) then x29.1 else x32.1)]) (h2 := x35) ?_ (fun J37 => ?_)
        · exact sx_retI dc_Mo_read_165 rfl hk.val
        · refine sx_if_ne (tgt := 153) dc_Mo_read_146 (by decide) (fun c38 => ?_) (fun c38 => ?_)
          · try simp only [if_neg c38] at J37
            refine sx_iload_n dc_Mo_read_153 rfl ?_
            refine sx_iconst (v := (1 : Int32)) dc_Mo_read_154 (by decide) ?_
            refine sx_icmp_ne (tgt := 163) dc_Mo_read_155 (by decide) (fun c39 => ?_) (fun c39 => ?_)
            · try simp only [if_neg c39] at J37
              refine sx_iload dc_Mo_read_163 rfl ?_
              exact J37
            · try simp only [if_pos c39] at J37
              refine sx_iload dc_Mo_read_158 rfl ?_
              refine sx_goto (tgt := 165) dc_Mo_read_160 (by decide) ?_
              exact J37
          · try simp only [if_pos c38] at J37
            refine sx_iload_n dc_Mo_read_149 rfl ?_
            refine sx_goto (tgt := 165) dc_Mo_read_150 (by decide) ?_
            exact J37
      · refine sx_if_ne (tgt := 145) dc_Mo_read_131 (by decide) (fun c40 => ?_) (fun c40 => ?_)
        · replace hk := hk.f c40
          exact jk36 x32.2 hk
        · replace hk := hk.t c40
          refine sx_aload_n dc_Mo_read_134 rfl ?_
          refine sx_get (ci := 11) (k := 22) rfl (by decide) wF_Mo_144 g34 dc_Mo_read_135 ?_
          refine sx_if_eq (tgt := 145) dc_Mo_read_138 (by decide) (fun c41 => ?_) (fun c41 => ?_)
          · replace hk := hk.t c41
            exact jk36 x32.2 hk
          · replace hk := hk.f c41
            refine sx_aload_n dc_Mo_read_141 rfl ?_
            obtain ⟨q42, eq42, hk⟩ := hk.bind
            refine sx_callV (d2 := d - 1) (mc2 := 0) (ms2 := 0) (as := []) mk_Mo_fail rfl (x_rk (ci := 11) g34 rfl rfl) wM_Mo_174 mi_Mo_fail me_Mo_fail rfl (Nat.le_of_ble_eq_true rfl) (Nat.le_of_ble_eq_true rfl) dc_Mo_read_142 (by omega) (Nat.zero_le _) (Nat.zero_le _) ?_
            refine t_Mo_fail (by omega) ⟨q42, eq42, ?_⟩
            refine sx_eq0 (lc2 := [some (xR a0), some (xI a1), some (xI a2), some (xI q26.1), some (xI x29.1), some (xI x32.1)]) (st2 := []) rfl rfl ?_
            exact jk36 q42.2 hk
    · refine sx_if_eq (tgt := 106) dc_Mo_read_99 (by decide) (fun c43 => ?_) (fun c43 => ?_)
      · replace hk := hk.t c43
        refine sx_aload_n dc_Mo_read_106 rfl ?_
        refine sx_aload_n dc_Mo_read_107 rfl ?_
        refine sx_bipush (v := (106 : Int32)) dc_Mo_read_108 (by decide) ?_
        refine sx_bipush (v := (111 : Int32)) dc_Mo_read_110 (by decide) ?_
        refine sx_bipush (v := (121 : Int32)) dc_Mo_read_112 (by decide) ?_
        refine sx_iconst (v := (0 : Int32)) dc_Mo_read_114 (by decide) ?_
        refine sx_iconst (v := (0 : Int32)) dc_Mo_read_115 (by decide) ?_
        refine sx_iconst (v := (0 : Int32)) dc_Mo_read_116 (by decide) ?_
        refine sx_iconst (v := (0 : Int32)) dc_Mo_read_117 (by decide) ?_
        refine sx_iconst (v := (0 : Int32)) dc_Mo_read_118 (by decide) ?_
        obtain ⟨q44, eq44, hk⟩ := hk.bind
        refine sx_callV (d2 := d - 1) (mc2 := 0) (ms2 := 0) (as := [xI (106 : Int32), xI (111 : Int32), xI (121 : Int32), xI (0 : Int32), xI (0 : Int32), xI (0 : Int32), xI (0 : Int32), xI (0 : Int32)]) mk_Mo_isWord rfl (x_rk (ci := 11) g31 rfl rfl) wM_Mo_180 mi_Mo_isWord me_Mo_isWord rfl (Nat.le_of_ble_eq_true rfl) (Nat.le_of_ble_eq_true rfl) dc_Mo_read_119 (by omega) (Nat.zero_le _) (Nat.zero_le _) ?_
        refine t_Mo_isWord (by omega) ⟨q44, eq44, ?_⟩
        refine sx_eq0 (lc2 := [some (xR a0), some (xI a1), some (xI a2), some (xI q26.1), some (xI x29.1), none]) (st2 := [xI q44.1, xR a0]) rfl rfl ?_
        obtain ⟨g46, hk⟩ := hk.g
        obtain ⟨q45, eq45, hk⟩ := hk.bind
        refine sx_callV (d2 := d - 1) (mc2 := 0) (ms2 := 0) (as := [xI q44.1]) mk_Mo_part rfl (x_rk (ci := 11) g46 rfl rfl) wM_Mo_235 mi_Mo_part me_Mo_part rfl (Nat.le_of_ble_eq_true rfl) (Nat.le_of_ble_eq_true rfl) dc_Mo_read_122 (by omega) (Nat.zero_le _) (Nat.zero_le _) ?_
        refine t_Mo_part (by omega) ⟨q45, eq45, ?_⟩
        refine sx_eq0 (lc2 := [some (xR a0), some (xI a1), some (xI a2), some (xI q26.1), some (xI x29.1), none]) (st2 := [xI q45.1]) rfl rfl ?_
        exact jk33 (q45.1, q45.2) hk
      · replace hk := hk.f c43
        refine sx_iconst (v := (0 : Int32)) dc_Mo_read_102 (by decide) ?_
        refine sx_goto (tgt := 125) dc_Mo_read_103 (by decide) ?_
        exact jk33 ((0 : Int32), x29.2) hk
  · refine sx_if_eq (tgt := 72) dc_Mo_read_65 (by decide) (fun c47 => ?_) (fun c47 => ?_)
    · replace hk := hk.t c47
      refine sx_aload_n dc_Mo_read_72 rfl ?_
      refine sx_aload_n dc_Mo_read_73 rfl ?_
      refine sx_bipush (v := (99 : Int32)) dc_Mo_read_74 (by decide) ?_
      refine sx_bipush (v := (111 : Int32)) dc_Mo_read_76 (by decide) ?_
      refine sx_bipush (v := (115 : Int32)) dc_Mo_read_78 (by decide) ?_
      refine sx_bipush (v := (116 : Int32)) dc_Mo_read_80 (by decide) ?_
      refine sx_bipush (v := (115 : Int32)) dc_Mo_read_82 (by decide) ?_
      refine sx_iconst (v := (0 : Int32)) dc_Mo_read_84 (by decide) ?_
      refine sx_iconst (v := (0 : Int32)) dc_Mo_read_85 (by decide) ?_
      refine sx_iconst (v := (0 : Int32)) dc_Mo_read_86 (by decide) ?_
      obtain ⟨q48, eq48, hk⟩ := hk.bind
      refine sx_callV (d2 := d - 1) (mc2 := 0) (ms2 := 0) (as := [xI (99 : Int32), xI (111 : Int32), xI (115 : Int32), xI (116 : Int32), xI (115 : Int32), xI (0 : Int32), xI (0 : Int32), xI (0 : Int32)]) mk_Mo_isWord rfl (x_rk (ci := 11) g28 rfl rfl) wM_Mo_180 mi_Mo_isWord me_Mo_isWord rfl (Nat.le_of_ble_eq_true rfl) (Nat.le_of_ble_eq_true rfl) dc_Mo_read_87 (by omega) (Nat.zero_le _) (Nat.zero_le _) ?_
      refine t_Mo_isWord (by omega) ⟨q48, eq48, ?_⟩
      refine sx_eq0 (lc2 := [some (xR a0), some (xI a1), some (xI a2), some (xI q26.1), none, none]) (st2 := [xI q48.1, xR a0]) rfl rfl ?_
      obtain ⟨g50, hk⟩ := hk.g
      obtain ⟨q49, eq49, hk⟩ := hk.bind
      refine sx_callV (d2 := d - 1) (mc2 := 0) (ms2 := 0) (as := [xI q48.1]) mk_Mo_part rfl (x_rk (ci := 11) g50 rfl rfl) wM_Mo_235 mi_Mo_part me_Mo_part rfl (Nat.le_of_ble_eq_true rfl) (Nat.le_of_ble_eq_true rfl) dc_Mo_read_90 (by omega) (Nat.zero_le _) (Nat.zero_le _) ?_
      refine t_Mo_part (by omega) ⟨q49, eq49, ?_⟩
      refine sx_eq0 (lc2 := [some (xR a0), some (xI a1), some (xI a2), some (xI q26.1), none, none]) (st2 := [xI q49.1]) rfl rfl ?_
      exact jk30 (q49.1, q49.2) hk
    · replace hk := hk.f c47
      refine sx_iconst (v := (0 : Int32)) dc_Mo_read_68 (by decide) ?_
      refine sx_goto (tgt := 93) dc_Mo_read_69 (by decide) ?_
      exact jk30 ((0 : Int32), q26.2) hk

theorem dc_Mo_init_0 : decode M_Mo_init.2.1 0 = .ok (.aload_n 0, 1) := by decide +kernel
theorem dc_Mo_init_1 : decode M_Mo_init.2.1 1 = .ok (.invokespecial 7, 3) := by decide +kernel
theorem dc_Mo_init_4 : decode M_Mo_init.2.1 4 = .ok (.aload_n 0, 1) := by decide +kernel
theorem dc_Mo_init_5 : decode M_Mo_init.2.1 5 = .ok (.sipush 960, 3) := by decide +kernel
theorem dc_Mo_init_8 : decode M_Mo_init.2.1 8 = .ok (.newarray .int, 2) := by decide +kernel
theorem dc_Mo_init_10 : decode M_Mo_init.2.1 10 = .ok (.putfield 13, 3) := by decide +kernel
theorem dc_Mo_init_13 : decode M_Mo_init.2.1 13 = .ok (.aload_n 0, 1) := by decide +kernel
theorem dc_Mo_init_14 : decode M_Mo_init.2.1 14 = .ok (.bipush 6, 2) := by decide +kernel
theorem dc_Mo_init_16 : decode M_Mo_init.2.1 16 = .ok (.newarray .int, 2) := by decide +kernel
theorem dc_Mo_init_18 : decode M_Mo_init.2.1 18 = .ok (.putfield 17, 3) := by decide +kernel
theorem dc_Mo_init_21 : decode M_Mo_init.2.1 21 = .ok (.aload_n 0, 1) := by decide +kernel
theorem dc_Mo_init_22 : decode M_Mo_init.2.1 22 = .ok (.sipush 160, 3) := by decide +kernel
theorem dc_Mo_init_25 : decode M_Mo_init.2.1 25 = .ok (.newarray .int, 2) := by decide +kernel
theorem dc_Mo_init_27 : decode M_Mo_init.2.1 27 = .ok (.putfield 20, 3) := by decide +kernel
theorem dc_Mo_init_30 : decode M_Mo_init.2.1 30 = .ok (.aload_n 0, 1) := by decide +kernel
theorem dc_Mo_init_31 : decode M_Mo_init.2.1 31 = .ok (.bipush 6, 2) := by decide +kernel
theorem dc_Mo_init_33 : decode M_Mo_init.2.1 33 = .ok (.putfield 23, 3) := by decide +kernel
theorem dc_Mo_init_36 : decode M_Mo_init.2.1 36 = .ok (.aload_n 0, 1) := by decide +kernel
theorem dc_Mo_init_37 : decode M_Mo_init.2.1 37 = .ok (.sipush 32767, 3) := by decide +kernel
theorem dc_Mo_init_40 : decode M_Mo_init.2.1 40 = .ok (.putfield 26, 3) := by decide +kernel
theorem dc_Mo_init_43 : decode M_Mo_init.2.1 43 = .ok (.aload_n 0, 1) := by decide +kernel
theorem dc_Mo_init_44 : decode M_Mo_init.2.1 44 = .ok (.iconst 5, 1) := by decide +kernel
theorem dc_Mo_init_45 : decode M_Mo_init.2.1 45 = .ok (.newarray .int, 2) := by decide +kernel
theorem dc_Mo_init_47 : decode M_Mo_init.2.1 47 = .ok (.putfield 29, 3) := by decide +kernel
theorem dc_Mo_init_50 : decode M_Mo_init.2.1 50 = .ok (.aload_n 0, 1) := by decide +kernel
theorem dc_Mo_init_51 : decode M_Mo_init.2.1 51 = .ok (.iconst 5, 1) := by decide +kernel
theorem dc_Mo_init_52 : decode M_Mo_init.2.1 52 = .ok (.newarray .int, 2) := by decide +kernel
theorem dc_Mo_init_54 : decode M_Mo_init.2.1 54 = .ok (.putfield 32, 3) := by decide +kernel
theorem dc_Mo_init_57 : decode M_Mo_init.2.1 57 = .ok (.aload_n 0, 1) := by decide +kernel
theorem dc_Mo_init_58 : decode M_Mo_init.2.1 58 = .ok (.bipush 35, 2) := by decide +kernel
theorem dc_Mo_init_60 : decode M_Mo_init.2.1 60 = .ok (.newarray .int, 2) := by decide +kernel
theorem dc_Mo_init_62 : decode M_Mo_init.2.1 62 = .ok (.putfield 35, 3) := by decide +kernel
theorem dc_Mo_init_65 : decode M_Mo_init.2.1 65 = .ok (.aload_n 0, 1) := by decide +kernel
theorem dc_Mo_init_66 : decode M_Mo_init.2.1 66 = .ok (.bipush 35, 2) := by decide +kernel
theorem dc_Mo_init_68 : decode M_Mo_init.2.1 68 = .ok (.newarray .int, 2) := by decide +kernel
theorem dc_Mo_init_70 : decode M_Mo_init.2.1 70 = .ok (.putfield 38, 3) := by decide +kernel
theorem dc_Mo_init_73 : decode M_Mo_init.2.1 73 = .ok (.aload_n 0, 1) := by decide +kernel
theorem dc_Mo_init_74 : decode M_Mo_init.2.1 74 = .ok (.bipush 35, 2) := by decide +kernel
theorem dc_Mo_init_76 : decode M_Mo_init.2.1 76 = .ok (.newarray .boolean, 2) := by decide +kernel
theorem dc_Mo_init_78 : decode M_Mo_init.2.1 78 = .ok (.putfield 41, 3) := by decide +kernel
theorem dc_Mo_init_81 : decode M_Mo_init.2.1 81 = .ok (.aload_n 0, 1) := by decide +kernel
theorem dc_Mo_init_82 : decode M_Mo_init.2.1 82 = .ok (.bipush 35, 2) := by decide +kernel
theorem dc_Mo_init_84 : decode M_Mo_init.2.1 84 = .ok (.newarray .boolean, 2) := by decide +kernel
theorem dc_Mo_init_86 : decode M_Mo_init.2.1 86 = .ok (.putfield 45, 3) := by decide +kernel
theorem dc_Mo_init_89 : decode M_Mo_init.2.1 89 = .ok (.aload_n 0, 1) := by decide +kernel
theorem dc_Mo_init_90 : decode M_Mo_init.2.1 90 = .ok (.bipush 21, 2) := by decide +kernel
theorem dc_Mo_init_92 : decode M_Mo_init.2.1 92 = .ok (.newarray .int, 2) := by decide +kernel
theorem dc_Mo_init_94 : decode M_Mo_init.2.1 94 = .ok (.putfield 48, 3) := by decide +kernel
theorem dc_Mo_init_97 : decode M_Mo_init.2.1 97 = .ok (.aload_n 0, 1) := by decide +kernel
theorem dc_Mo_init_98 : decode M_Mo_init.2.1 98 = .ok (.iconst (-1), 1) := by decide +kernel
theorem dc_Mo_init_99 : decode M_Mo_init.2.1 99 = .ok (.putfield 51, 3) := by decide +kernel
theorem dc_Mo_init_102 : decode M_Mo_init.2.1 102 = .ok (.aload_n 0, 1) := by decide +kernel
theorem dc_Mo_init_103 : decode M_Mo_init.2.1 103 = .ok (.iconst 4, 1) := by decide +kernel
theorem dc_Mo_init_104 : decode M_Mo_init.2.1 104 = .ok (.newarray .boolean, 2) := by decide +kernel
theorem dc_Mo_init_106 : decode M_Mo_init.2.1 106 = .ok (.putfield 54, 3) := by decide +kernel
theorem dc_Mo_init_109 : decode M_Mo_init.2.1 109 = .ok (.aload_n 0, 1) := by decide +kernel
theorem dc_Mo_init_110 : decode M_Mo_init.2.1 110 = .ok (.iconst 4, 1) := by decide +kernel
theorem dc_Mo_init_111 : decode M_Mo_init.2.1 111 = .ok (.newarray .int, 2) := by decide +kernel
theorem dc_Mo_init_113 : decode M_Mo_init.2.1 113 = .ok (.putfield 57, 3) := by decide +kernel
theorem dc_Mo_init_116 : decode M_Mo_init.2.1 116 = .ok (.aload_n 0, 1) := by decide +kernel
theorem dc_Mo_init_117 : decode M_Mo_init.2.1 117 = .ok (.iconst 4, 1) := by decide +kernel
theorem dc_Mo_init_118 : decode M_Mo_init.2.1 118 = .ok (.newarray .int, 2) := by decide +kernel
theorem dc_Mo_init_120 : decode M_Mo_init.2.1 120 = .ok (.putfield 60, 3) := by decide +kernel
theorem dc_Mo_init_123 : decode M_Mo_init.2.1 123 = .ok (.aload_n 0, 1) := by decide +kernel
theorem dc_Mo_init_124 : decode M_Mo_init.2.1 124 = .ok (.sipush 160, 3) := by decide +kernel
theorem dc_Mo_init_127 : decode M_Mo_init.2.1 127 = .ok (.newarray .int, 2) := by decide +kernel
theorem dc_Mo_init_129 : decode M_Mo_init.2.1 129 = .ok (.putfield 63, 3) := by decide +kernel
theorem dc_Mo_init_132 : decode M_Mo_init.2.1 132 = .ok (.aload_n 0, 1) := by decide +kernel
theorem dc_Mo_init_133 : decode M_Mo_init.2.1 133 = .ok (.iconst 0, 1) := by decide +kernel
theorem dc_Mo_init_134 : decode M_Mo_init.2.1 134 = .ok (.bipush 99, 2) := by decide +kernel
theorem dc_Mo_init_136 : decode M_Mo_init.2.1 136 = .ok (.bipush 111, 2) := by decide +kernel
theorem dc_Mo_init_138 : decode M_Mo_init.2.1 138 = .ok (.bipush 117, 2) := by decide +kernel
theorem dc_Mo_init_140 : decode M_Mo_init.2.1 140 = .ok (.bipush 110, 2) := by decide +kernel
theorem dc_Mo_init_142 : decode M_Mo_init.2.1 142 = .ok (.bipush 116, 2) := by decide +kernel
theorem dc_Mo_init_144 : decode M_Mo_init.2.1 144 = .ok (.bipush 115, 2) := by decide +kernel
theorem dc_Mo_init_146 : decode M_Mo_init.2.1 146 = .ok (.bipush 32, 2) := by decide +kernel
theorem dc_Mo_init_148 : decode M_Mo_init.2.1 148 = .ok (.bipush 49, 2) := by decide +kernel
theorem dc_Mo_init_150 : decode M_Mo_init.2.1 150 = .ok (.invokevirtual 66, 3) := by decide +kernel
theorem dc_Mo_init_153 : decode M_Mo_init.2.1 153 = .ok (.aload_n 0, 1) := by decide +kernel
theorem dc_Mo_init_154 : decode M_Mo_init.2.1 154 = .ok (.bipush 8, 2) := by decide +kernel
theorem dc_Mo_init_156 : decode M_Mo_init.2.1 156 = .ok (.bipush 32, 2) := by decide +kernel
theorem dc_Mo_init_158 : decode M_Mo_init.2.1 158 = .ok (.bipush 59, 2) := by decide +kernel
theorem dc_Mo_init_160 : decode M_Mo_init.2.1 160 = .ok (.bipush 32, 2) := by decide +kernel
theorem dc_Mo_init_162 : decode M_Mo_init.2.1 162 = .ok (.bipush 99, 2) := by decide +kernel
theorem dc_Mo_init_164 : decode M_Mo_init.2.1 164 = .ok (.bipush 111, 2) := by decide +kernel
theorem dc_Mo_init_166 : decode M_Mo_init.2.1 166 = .ok (.bipush 115, 2) := by decide +kernel
theorem dc_Mo_init_168 : decode M_Mo_init.2.1 168 = .ok (.bipush 116, 2) := by decide +kernel
theorem dc_Mo_init_170 : decode M_Mo_init.2.1 170 = .ok (.bipush 115, 2) := by decide +kernel
theorem dc_Mo_init_172 : decode M_Mo_init.2.1 172 = .ok (.invokevirtual 66, 3) := by decide +kernel
theorem dc_Mo_init_175 : decode M_Mo_init.2.1 175 = .ok (.aload_n 0, 1) := by decide +kernel
theorem dc_Mo_init_176 : decode M_Mo_init.2.1 176 = .ok (.bipush 16, 2) := by decide +kernel
theorem dc_Mo_init_178 : decode M_Mo_init.2.1 178 = .ok (.bipush 32, 2) := by decide +kernel
theorem dc_Mo_init_180 : decode M_Mo_init.2.1 180 = .ok (.bipush 49, 2) := by decide +kernel
theorem dc_Mo_init_182 : decode M_Mo_init.2.1 182 = .ok (.bipush 32, 2) := by decide +kernel
theorem dc_Mo_init_184 : decode M_Mo_init.2.1 184 = .ok (.bipush 59, 2) := by decide +kernel
theorem dc_Mo_init_186 : decode M_Mo_init.2.1 186 = .ok (.bipush 32, 2) := by decide +kernel
theorem dc_Mo_init_188 : decode M_Mo_init.2.1 188 = .ok (.bipush 106, 2) := by decide +kernel
theorem dc_Mo_init_190 : decode M_Mo_init.2.1 190 = .ok (.bipush 111, 2) := by decide +kernel
theorem dc_Mo_init_192 : decode M_Mo_init.2.1 192 = .ok (.bipush 121, 2) := by decide +kernel
theorem dc_Mo_init_194 : decode M_Mo_init.2.1 194 = .ok (.invokevirtual 66, 3) := by decide +kernel
theorem dc_Mo_init_197 : decode M_Mo_init.2.1 197 = .ok (.aload_n 0, 1) := by decide +kernel
theorem dc_Mo_init_198 : decode M_Mo_init.2.1 198 = .ok (.bipush 24, 2) := by decide +kernel
theorem dc_Mo_init_200 : decode M_Mo_init.2.1 200 = .ok (.bipush 32, 2) := by decide +kernel
theorem dc_Mo_init_202 : decode M_Mo_init.2.1 202 = .ok (.bipush 53, 2) := by decide +kernel
theorem dc_Mo_init_204 : decode M_Mo_init.2.1 204 = .ok (.bipush 32, 2) := by decide +kernel
theorem dc_Mo_init_206 : decode M_Mo_init.2.1 206 = .ok (.bipush 45, 2) := by decide +kernel
theorem dc_Mo_init_208 : decode M_Mo_init.2.1 208 = .ok (.bipush 32, 2) := by decide +kernel
theorem dc_Mo_init_210 : decode M_Mo_init.2.1 210 = .ok (.bipush 107, 2) := by decide +kernel
theorem dc_Mo_init_212 : decode M_Mo_init.2.1 212 = .ok (.bipush 110, 2) := by decide +kernel
theorem dc_Mo_init_214 : decode M_Mo_init.2.1 214 = .ok (.bipush 111, 2) := by decide +kernel
theorem dc_Mo_init_216 : decode M_Mo_init.2.1 216 = .ok (.invokevirtual 66, 3) := by decide +kernel
theorem dc_Mo_init_219 : decode M_Mo_init.2.1 219 = .ok (.aload_n 0, 1) := by decide +kernel
theorem dc_Mo_init_220 : decode M_Mo_init.2.1 220 = .ok (.bipush 32, 2) := by decide +kernel
theorem dc_Mo_init_222 : decode M_Mo_init.2.1 222 = .ok (.bipush 119, 2) := by decide +kernel
theorem dc_Mo_init_224 : decode M_Mo_init.2.1 224 = .ok (.bipush 32, 2) := by decide +kernel
theorem dc_Mo_init_226 : decode M_Mo_init.2.1 226 = .ok (.bipush 59, 2) := by decide +kernel
theorem dc_Mo_init_228 : decode M_Mo_init.2.1 228 = .ok (.bipush 32, 2) := by decide +kernel
theorem dc_Mo_init_230 : decode M_Mo_init.2.1 230 = .ok (.bipush 32, 2) := by decide +kernel
theorem dc_Mo_init_232 : decode M_Mo_init.2.1 232 = .ok (.bipush 32, 2) := by decide +kernel
theorem dc_Mo_init_234 : decode M_Mo_init.2.1 234 = .ok (.bipush 32, 2) := by decide +kernel
theorem dc_Mo_init_236 : decode M_Mo_init.2.1 236 = .ok (.bipush 32, 2) := by decide +kernel
theorem dc_Mo_init_238 : decode M_Mo_init.2.1 238 = .ok (.invokevirtual 66, 3) := by decide +kernel
theorem dc_Mo_init_241 : decode M_Mo_init.2.1 241 = .ok (.aload_n 0, 1) := by decide +kernel
theorem dc_Mo_init_242 : decode M_Mo_init.2.1 242 = .ok (.getfield 17, 3) := by decide +kernel
theorem dc_Mo_init_245 : decode M_Mo_init.2.1 245 = .ok (.iconst 0, 1) := by decide +kernel
theorem dc_Mo_init_246 : decode M_Mo_init.2.1 246 = .ok (.bipush 40, 2) := by decide +kernel
theorem dc_Mo_init_248 : decode M_Mo_init.2.1 248 = .ok (.iastore, 1) := by decide +kernel
theorem dc_Mo_init_249 : decode M_Mo_init.2.1 249 = .ok (.aload_n 0, 1) := by decide +kernel
theorem dc_Mo_init_250 : decode M_Mo_init.2.1 250 = .ok (.iconst 1, 1) := by decide +kernel
theorem dc_Mo_init_251 : decode M_Mo_init.2.1 251 = .ok (.putfield 70, 3) := by decide +kernel
theorem dc_Mo_init_254 : decode M_Mo_init.2.1 254 = .ok (.return_, 1) := by decide +kernel
def f_Mo_init (a0 : Nat) (h : xH) : Option (Unit × xH) := gd (hK h a0 = 11) (hp (hNw h 12 960) (fun h29 => gd (hK h29 a0 = 11) (hp (hNw (hRu h29 a0 1 (hN h)) 12 6) (fun h32 => gd (hK h32 a0 = 11) (hp (hNw (hRu h32 a0 2 (hN (hRu h29 a0 1 (hN h)))) 12 160) (fun h35 => gd (hK h35 a0 = 11) (hp (hNw (hIu (hIu (hRu h35 a0 5 (hN (hRu h32 a0 2 (hN (hRu h29 a0 1 (hN h)))))) a0 7 (6 : Int32)) a0 9 (32767 : Int32)) 12 5) (fun h38 => gd (hK h38 a0 = 11) (hp (hNw (hRu h38 a0 10 (hN (hIu (hIu (hRu h35 a0 5 (hN (hRu h32 a0 2 (hN (hRu h29 a0 1 (hN h)))))) a0 7 (6 : Int32)) a0 9 (32767 : Int32)))) 12 5) (fun h41 => gd (hK h41 a0 = 11) (hp (hRu h41 a0 11 (hN (hRu h38 a0 10 (hN (hIu (hIu (hRu h35 a0 5 (hN (hRu h32 a0 2 (hN (hRu h29 a0 1 (hN h)))))) a0 7 (6 : Int32)) a0 9 (32767 : Int32)))))) (fun h44 => hp (hNw h44 12 35) (fun h47 => gd (hK h47 a0 = 11) (hp (hNw (hRu h47 a0 28 (hN h44)) 12 35) (fun h50 => gd (hK h50 a0 = 11) (hp (hNw (hRu h50 a0 29 (hN (hRu h47 a0 28 (hN h44)))) 13 35) (fun h53 => gd (hK h53 a0 = 11) (hp (hNw (hRu h53 a0 30 (hN (hRu h50 a0 29 (hN (hRu h47 a0 28 (hN h44)))))) 13 35) (fun h56 => gd (hK h56 a0 = 11) (hp (hNw (hRu h56 a0 31 (hN (hRu h53 a0 30 (hN (hRu h50 a0 29 (hN (hRu h47 a0 28 (hN h44)))))))) 12 21) (fun h59 => gd (hK h59 a0 = 11) (hp (hNw (hIu (hRu h59 a0 33 (hN (hRu h56 a0 31 (hN (hRu h53 a0 30 (hN (hRu h50 a0 29 (hN (hRu h47 a0 28 (hN h44)))))))))) a0 37 (-1 : Int32)) 13 4) (fun h62 => gd (hK h62 a0 = 11) (hp (hRu h62 a0 41 (hN (hIu (hRu h59 a0 33 (hN (hRu h56 a0 31 (hN (hRu h53 a0 30 (hN (hRu h50 a0 29 (hN (hRu h47 a0 28 (hN h44)))))))))) a0 37 (-1 : Int32)))) (fun h65 => hp (hNw h65 12 4) (fun h68 => gd (hK h68 a0 = 11) (hp (hNw (hRu h68 a0 42 (hN h65)) 12 4) (fun h71 => gd (hK h71 a0 = 11) (hp (hNw (hRu h71 a0 43 (hN (hRu h68 a0 42 (hN h65)))) 12 160) (fun h74 => gd (hK h74 a0 = 11) (Option.bind (f_Mo_spell a0 (0 : Int32) (99 : Int32) (111 : Int32) (117 : Int32) (110 : Int32) (116 : Int32) (115 : Int32) (32 : Int32) (49 : Int32) (hRu h74 a0 44 (hN (hRu h71 a0 43 (hN (hRu h68 a0 42 (hN h65))))))) (fun q77 => gd (hK q77.2 a0 = 11) (Option.bind (f_Mo_spell a0 (8 : Int32) (32 : Int32) (59 : Int32) (32 : Int32) (99 : Int32) (111 : Int32) (115 : Int32) (116 : Int32) (115 : Int32) q77.2) (fun q78 => gd (hK q78.2 a0 = 11) (Option.bind (f_Mo_spell a0 (16 : Int32) (32 : Int32) (49 : Int32) (32 : Int32) (59 : Int32) (32 : Int32) (106 : Int32) (111 : Int32) (121 : Int32) q78.2) (fun q80 => gd (hK q80.2 a0 = 11) (Option.bind (f_Mo_spell a0 (24 : Int32) (32 : Int32) (53 : Int32) (32 : Int32) (45 : Int32) (32 : Int32) (107 : Int32) (110 : Int32) (111 : Int32) q80.2) (fun q82 => gd (hK q82.2 a0 = 11) (Option.bind (f_Mo_spell a0 (32 : Int32) (119 : Int32) (32 : Int32) (59 : Int32) (32 : Int32) (32 : Int32) (32 : Int32) (32 : Int32) (32 : Int32) q82.2) (fun q84 => gd (hK q84.2 a0 = 11) (gd (hK q84.2 (hR q84.2 a0 2) = 12) (gd (¬ ((0 : Int32) < 0 ∨ hL q84.2 (hR q84.2 a0 2) ≤ (0 : Int32).toNatClampNeg)) (some ((), hIu (hIu q84.2 (hR q84.2 a0 2) (0 : Int32).toNatClampNeg (40 : Int32)) a0 3 (1 : Int32)))))))))))))))))))))))))))))))))))))))))))))
theorem t_Mo_init {l : Launch} {z : xZ} {d mc ms : Nat} {Ph : Option xV → xH → Prop} {a0 : Nat}  {h : xH} (hd : 2 ≤ d) (hmc : 14 ≤ mc) (hms : 1469 ≤ ms) (hk : OK (f_Mo_init a0 h) (fun q => Ph (none) q.2)) : Sx l z d mc ms M_Mo_init 0 (x_en [xR a0] 1) [] h Ph := by
  unfold f_Mo_init at hk
  refine sx_eq (lc2 := [some (xR a0)]) rfl rfl ?_
  refine sx_aload_n dc_Mo_init_0 rfl ?_
  obtain ⟨g28, hk⟩ := hk.g
  refine sx_objInit g28 (by decide) wM_Mo_7 wO wP (Nat.le_of_ble_eq_true rfl) (by omega) dc_Mo_init_1 ?_
  refine sx_aload_n dc_Mo_init_4 rfl ?_
  refine sx_sipush (v := (960 : Int32)) dc_Mo_init_5 (by decide) ?_
  refine sx_newI (N := 960) (by decide) (by decide) (by decide) wA_int dc_Mo_init_8 (by omega) (by omega) ?_
  obtain ⟨h29, eh29, hk⟩ := hk.h
  refine sx_hp eh29 ?_
  have g30 : hK h29 (hN h) = 12 := by rw [eh29]; exact (show hK (hNw h 12 960) (hN h) = 12 from if_pos rfl)
  obtain ⟨g31, hk⟩ := hk.g
  refine sx_putRF (ci := 11) (k := 1) rfl (by decide) wF_Mo_13 rfl (by rfl) rfl g31 rfl dc_Mo_init_10 ?_
  refine sx_aload_n dc_Mo_init_13 rfl ?_
  refine sx_bipush (v := (6 : Int32)) dc_Mo_init_14 (by decide) ?_
  refine sx_newI (N := 6) (by decide) (by decide) (by decide) wA_int dc_Mo_init_16 (by omega) (by omega) ?_
  obtain ⟨h32, eh32, hk⟩ := hk.h
  refine sx_hp eh32 ?_
  have g33 : hK h32 (hN (hRu h29 a0 1 (hN h))) = 12 := by rw [eh32]; exact (show hK (hNw (hRu h29 a0 1 (hN h)) 12 6) (hN (hRu h29 a0 1 (hN h))) = 12 from if_pos rfl)
  obtain ⟨g34, hk⟩ := hk.g
  refine sx_putRF (ci := 11) (k := 2) rfl (by decide) wF_Mo_17 rfl (by rfl) rfl g34 rfl dc_Mo_init_18 ?_
  refine sx_aload_n dc_Mo_init_21 rfl ?_
  refine sx_sipush (v := (160 : Int32)) dc_Mo_init_22 (by decide) ?_
  refine sx_newI (N := 160) (by decide) (by decide) (by decide) wA_int dc_Mo_init_25 (by omega) (by omega) ?_
  obtain ⟨h35, eh35, hk⟩ := hk.h
  refine sx_hp eh35 ?_
  have g36 : hK h35 (hN (hRu h32 a0 2 (hN (hRu h29 a0 1 (hN h))))) = 12 := by rw [eh35]; exact (show hK (hNw (hRu h32 a0 2 (hN (hRu h29 a0 1 (hN h)))) 12 160) (hN (hRu h32 a0 2 (hN (hRu h29 a0 1 (hN h))))) = 12 from if_pos rfl)
  obtain ⟨g37, hk⟩ := hk.g
  refine sx_putRF (ci := 11) (k := 5) rfl (by decide) wF_Mo_20 rfl (by rfl) rfl g37 rfl dc_Mo_init_27 ?_
  refine sx_aload_n dc_Mo_init_30 rfl ?_
  refine sx_bipush (v := (6 : Int32)) dc_Mo_init_31 (by decide) ?_
  refine sx_putI (ci := 11) (k := 7) rfl (by decide) wF_Mo_23 rfl g37 (Or.inl rfl) dc_Mo_init_33 ?_
  refine sx_aload_n dc_Mo_init_36 rfl ?_
  refine sx_sipush (v := (32767 : Int32)) dc_Mo_init_37 (by decide) ?_
  refine sx_putI (ci := 11) (k := 9) rfl (by decide) wF_Mo_26 rfl g37 (Or.inl rfl) dc_Mo_init_40 ?_
  refine sx_aload_n dc_Mo_init_43 rfl ?_
  refine sx_iconst (v := (5 : Int32)) dc_Mo_init_44 (by decide) ?_
  refine sx_newI (N := 5) (by decide) (by decide) (by decide) wA_int dc_Mo_init_45 (by omega) (by omega) ?_
  obtain ⟨h38, eh38, hk⟩ := hk.h
  refine sx_hp eh38 ?_
  have g39 : hK h38 (hN (hIu (hIu (hRu h35 a0 5 (hN (hRu h32 a0 2 (hN (hRu h29 a0 1 (hN h)))))) a0 7 (6 : Int32)) a0 9 (32767 : Int32))) = 12 := by rw [eh38]; exact (show hK (hNw (hIu (hIu (hRu h35 a0 5 (hN (hRu h32 a0 2 (hN (hRu h29 a0 1 (hN h)))))) a0 7 (6 : Int32)) a0 9 (32767 : Int32)) 12 5) (hN (hIu (hIu (hRu h35 a0 5 (hN (hRu h32 a0 2 (hN (hRu h29 a0 1 (hN h)))))) a0 7 (6 : Int32)) a0 9 (32767 : Int32))) = 12 from if_pos rfl)
  obtain ⟨g40, hk⟩ := hk.g
  refine sx_putRF (ci := 11) (k := 10) rfl (by decide) wF_Mo_29 rfl (by rfl) rfl g40 rfl dc_Mo_init_47 ?_
  refine sx_aload_n dc_Mo_init_50 rfl ?_
  refine sx_iconst (v := (5 : Int32)) dc_Mo_init_51 (by decide) ?_
  refine sx_newI (N := 5) (by decide) (by decide) (by decide) wA_int dc_Mo_init_52 (by omega) (by omega) ?_
  obtain ⟨h41, eh41, hk⟩ := hk.h
  refine sx_hp eh41 ?_
  have g42 : hK h41 (hN (hRu h38 a0 10 (hN (hIu (hIu (hRu h35 a0 5 (hN (hRu h32 a0 2 (hN (hRu h29 a0 1 (hN h)))))) a0 7 (6 : Int32)) a0 9 (32767 : Int32))))) = 12 := by rw [eh41]; exact (show hK (hNw (hRu h38 a0 10 (hN (hIu (hIu (hRu h35 a0 5 (hN (hRu h32 a0 2 (hN (hRu h29 a0 1 (hN h)))))) a0 7 (6 : Int32)) a0 9 (32767 : Int32)))) 12 5) (hN (hRu h38 a0 10 (hN (hIu (hIu (hRu h35 a0 5 (hN (hRu h32 a0 2 (hN (hRu h29 a0 1 (hN h)))))) a0 7 (6 : Int32)) a0 9 (32767 : Int32))))) = 12 from if_pos rfl)
  obtain ⟨g43, hk⟩ := hk.g
  refine sx_putRF (ci := 11) (k := 11) rfl (by decide) wF_Mo_32 rfl (by rfl) rfl g43 rfl dc_Mo_init_54 ?_
  obtain ⟨h44, eh44, hk⟩ := hk.h
  refine sx_hp eh44 ?_
  have g45 : hK h44 (hN (hRu h38 a0 10 (hN (hIu (hIu (hRu h35 a0 5 (hN (hRu h32 a0 2 (hN (hRu h29 a0 1 (hN h)))))) a0 7 (6 : Int32)) a0 9 (32767 : Int32))))) = 12 := by rw [eh44]; exact g42
  have g46 : hK h44 a0 = 11 := by rw [eh44]; exact g43
  refine sx_aload_n dc_Mo_init_57 rfl ?_
  refine sx_bipush (v := (35 : Int32)) dc_Mo_init_58 (by decide) ?_
  refine sx_newI (N := 35) (by decide) (by decide) (by decide) wA_int dc_Mo_init_60 (by omega) (by omega) ?_
  obtain ⟨h47, eh47, hk⟩ := hk.h
  refine sx_hp eh47 ?_
  have g48 : hK h47 (hN h44) = 12 := by rw [eh47]; exact (show hK (hNw h44 12 35) (hN h44) = 12 from if_pos rfl)
  obtain ⟨g49, hk⟩ := hk.g
  refine sx_putRF (ci := 11) (k := 28) rfl (by decide) wF_Mo_35 rfl (by rfl) rfl g49 rfl dc_Mo_init_62 ?_
  refine sx_aload_n dc_Mo_init_65 rfl ?_
  refine sx_bipush (v := (35 : Int32)) dc_Mo_init_66 (by decide) ?_
  refine sx_newI (N := 35) (by decide) (by decide) (by decide) wA_int dc_Mo_init_68 (by omega) (by omega) ?_
  obtain ⟨h50, eh50, hk⟩ := hk.h
  refine sx_hp eh50 ?_
  have g51 : hK h50 (hN (hRu h47 a0 28 (hN h44))) = 12 := by rw [eh50]; exact (show hK (hNw (hRu h47 a0 28 (hN h44)) 12 35) (hN (hRu h47 a0 28 (hN h44))) = 12 from if_pos rfl)
  obtain ⟨g52, hk⟩ := hk.g
  refine sx_putRF (ci := 11) (k := 29) rfl (by decide) wF_Mo_38 rfl (by rfl) rfl g52 rfl dc_Mo_init_70 ?_
  refine sx_aload_n dc_Mo_init_73 rfl ?_
  refine sx_bipush (v := (35 : Int32)) dc_Mo_init_74 (by decide) ?_
  refine sx_newZ (N := 35) (by decide) (by decide) (by decide) wA_boolean dc_Mo_init_76 (by omega) (by omega) ?_
  obtain ⟨h53, eh53, hk⟩ := hk.h
  refine sx_hp eh53 ?_
  have g54 : hK h53 (hN (hRu h50 a0 29 (hN (hRu h47 a0 28 (hN h44))))) = 13 := by rw [eh53]; exact (show hK (hNw (hRu h50 a0 29 (hN (hRu h47 a0 28 (hN h44)))) 13 35) (hN (hRu h50 a0 29 (hN (hRu h47 a0 28 (hN h44))))) = 13 from if_pos rfl)
  obtain ⟨g55, hk⟩ := hk.g
  refine sx_putRF (ci := 11) (k := 30) rfl (by decide) wF_Mo_41 rfl (by rfl) rfl g55 rfl dc_Mo_init_78 ?_
  refine sx_aload_n dc_Mo_init_81 rfl ?_
  refine sx_bipush (v := (35 : Int32)) dc_Mo_init_82 (by decide) ?_
  refine sx_newZ (N := 35) (by decide) (by decide) (by decide) wA_boolean dc_Mo_init_84 (by omega) (by omega) ?_
  obtain ⟨h56, eh56, hk⟩ := hk.h
  refine sx_hp eh56 ?_
  have g57 : hK h56 (hN (hRu h53 a0 30 (hN (hRu h50 a0 29 (hN (hRu h47 a0 28 (hN h44))))))) = 13 := by rw [eh56]; exact (show hK (hNw (hRu h53 a0 30 (hN (hRu h50 a0 29 (hN (hRu h47 a0 28 (hN h44)))))) 13 35) (hN (hRu h53 a0 30 (hN (hRu h50 a0 29 (hN (hRu h47 a0 28 (hN h44))))))) = 13 from if_pos rfl)
  obtain ⟨g58, hk⟩ := hk.g
  refine sx_putRF (ci := 11) (k := 31) rfl (by decide) wF_Mo_45 rfl (by rfl) rfl g58 rfl dc_Mo_init_86 ?_
  refine sx_aload_n dc_Mo_init_89 rfl ?_
  refine sx_bipush (v := (21 : Int32)) dc_Mo_init_90 (by decide) ?_
  refine sx_newI (N := 21) (by decide) (by decide) (by decide) wA_int dc_Mo_init_92 (by omega) (by omega) ?_
  obtain ⟨h59, eh59, hk⟩ := hk.h
  refine sx_hp eh59 ?_
  have g60 : hK h59 (hN (hRu h56 a0 31 (hN (hRu h53 a0 30 (hN (hRu h50 a0 29 (hN (hRu h47 a0 28 (hN h44))))))))) = 12 := by rw [eh59]; exact (show hK (hNw (hRu h56 a0 31 (hN (hRu h53 a0 30 (hN (hRu h50 a0 29 (hN (hRu h47 a0 28 (hN h44)))))))) 12 21) (hN (hRu h56 a0 31 (hN (hRu h53 a0 30 (hN (hRu h50 a0 29 (hN (hRu h47 a0 28 (hN h44))))))))) = 12 from if_pos rfl)
  obtain ⟨g61, hk⟩ := hk.g
  refine sx_putRF (ci := 11) (k := 33) rfl (by decide) wF_Mo_48 rfl (by rfl) rfl g61 rfl dc_Mo_init_94 ?_
  refine sx_aload_n dc_Mo_init_97 rfl ?_
  refine sx_iconst (v := (-1 : Int32)) dc_Mo_init_98 (by decide) ?_
  refine sx_putI (ci := 11) (k := 37) rfl (by decide) wF_Mo_51 rfl g61 (Or.inl rfl) dc_Mo_init_99 ?_
  refine sx_aload_n dc_Mo_init_102 rfl ?_
  refine sx_iconst (v := (4 : Int32)) dc_Mo_init_103 (by decide) ?_
  refine sx_newZ (N := 4) (by decide) (by decide) (by decide) wA_boolean dc_Mo_init_104 (by omega) (by omega) ?_
  obtain ⟨h62, eh62, hk⟩ := hk.h
  refine sx_hp eh62 ?_
  have g63 : hK h62 (hN (hIu (hRu h59 a0 33 (hN (hRu h56 a0 31 (hN (hRu h53 a0 30 (hN (hRu h50 a0 29 (hN (hRu h47 a0 28 (hN h44)))))))))) a0 37 (-1 : Int32))) = 13 := by rw [eh62]; exact (show hK (hNw (hIu (hRu h59 a0 33 (hN (hRu h56 a0 31 (hN (hRu h53 a0 30 (hN (hRu h50 a0 29 (hN (hRu h47 a0 28 (hN h44)))))))))) a0 37 (-1 : Int32)) 13 4) (hN (hIu (hRu h59 a0 33 (hN (hRu h56 a0 31 (hN (hRu h53 a0 30 (hN (hRu h50 a0 29 (hN (hRu h47 a0 28 (hN h44)))))))))) a0 37 (-1 : Int32))) = 13 from if_pos rfl)
  obtain ⟨g64, hk⟩ := hk.g
  refine sx_putRF (ci := 11) (k := 41) rfl (by decide) wF_Mo_54 rfl (by rfl) rfl g64 rfl dc_Mo_init_106 ?_
  obtain ⟨h65, eh65, hk⟩ := hk.h
  refine sx_hp eh65 ?_
  have g66 : hK h65 (hN (hIu (hRu h59 a0 33 (hN (hRu h56 a0 31 (hN (hRu h53 a0 30 (hN (hRu h50 a0 29 (hN (hRu h47 a0 28 (hN h44)))))))))) a0 37 (-1 : Int32))) = 13 := by rw [eh65]; exact g63
  have g67 : hK h65 a0 = 11 := by rw [eh65]; exact g64
  refine sx_aload_n dc_Mo_init_109 rfl ?_
  refine sx_iconst (v := (4 : Int32)) dc_Mo_init_110 (by decide) ?_
  refine sx_newI (N := 4) (by decide) (by decide) (by decide) wA_int dc_Mo_init_111 (by omega) (by omega) ?_
  obtain ⟨h68, eh68, hk⟩ := hk.h
  refine sx_hp eh68 ?_
  have g69 : hK h68 (hN h65) = 12 := by rw [eh68]; exact (show hK (hNw h65 12 4) (hN h65) = 12 from if_pos rfl)
  obtain ⟨g70, hk⟩ := hk.g
  refine sx_putRF (ci := 11) (k := 42) rfl (by decide) wF_Mo_57 rfl (by rfl) rfl g70 rfl dc_Mo_init_113 ?_
  refine sx_aload_n dc_Mo_init_116 rfl ?_
  refine sx_iconst (v := (4 : Int32)) dc_Mo_init_117 (by decide) ?_
  refine sx_newI (N := 4) (by decide) (by decide) (by decide) wA_int dc_Mo_init_118 (by omega) (by omega) ?_
  obtain ⟨h71, eh71, hk⟩ := hk.h
  refine sx_hp eh71 ?_
  have g72 : hK h71 (hN (hRu h68 a0 42 (hN h65))) = 12 := by rw [eh71]; exact (show hK (hNw (hRu h68 a0 42 (hN h65)) 12 4) (hN (hRu h68 a0 42 (hN h65))) = 12 from if_pos rfl)
  obtain ⟨g73, hk⟩ := hk.g
  refine sx_putRF (ci := 11) (k := 43) rfl (by decide) wF_Mo_60 rfl (by rfl) rfl g73 rfl dc_Mo_init_120 ?_
  refine sx_aload_n dc_Mo_init_123 rfl ?_
  refine sx_sipush (v := (160 : Int32)) dc_Mo_init_124 (by decide) ?_
  refine sx_newI (N := 160) (by decide) (by decide) (by decide) wA_int dc_Mo_init_127 (by omega) (by omega) ?_
  obtain ⟨h74, eh74, hk⟩ := hk.h
  refine sx_hp eh74 ?_
  have g75 : hK h74 (hN (hRu h71 a0 43 (hN (hRu h68 a0 42 (hN h65))))) = 12 := by rw [eh74]; exact (show hK (hNw (hRu h71 a0 43 (hN (hRu h68 a0 42 (hN h65)))) 12 160) (hN (hRu h71 a0 43 (hN (hRu h68 a0 42 (hN h65))))) = 12 from if_pos rfl)
  obtain ⟨g76, hk⟩ := hk.g
  refine sx_putRF (ci := 11) (k := 44) rfl (by decide) wF_Mo_63 rfl (by rfl) rfl g76 rfl dc_Mo_init_129 ?_
  refine sx_aload_n dc_Mo_init_132 rfl ?_
  refine sx_iconst (v := (0 : Int32)) dc_Mo_init_133 (by decide) ?_
  refine sx_bipush (v := (99 : Int32)) dc_Mo_init_134 (by decide) ?_
  refine sx_bipush (v := (111 : Int32)) dc_Mo_init_136 (by decide) ?_
  refine sx_bipush (v := (117 : Int32)) dc_Mo_init_138 (by decide) ?_
  refine sx_bipush (v := (110 : Int32)) dc_Mo_init_140 (by decide) ?_
  refine sx_bipush (v := (116 : Int32)) dc_Mo_init_142 (by decide) ?_
  refine sx_bipush (v := (115 : Int32)) dc_Mo_init_144 (by decide) ?_
  refine sx_bipush (v := (32 : Int32)) dc_Mo_init_146 (by decide) ?_
  refine sx_bipush (v := (49 : Int32)) dc_Mo_init_148 (by decide) ?_
  obtain ⟨q77, eq77, hk⟩ := hk.bind
  refine sx_callV (d2 := d - 1) (mc2 := 0) (ms2 := 0) (as := [xI (0 : Int32), xI (99 : Int32), xI (111 : Int32), xI (117 : Int32), xI (110 : Int32), xI (116 : Int32), xI (115 : Int32), xI (32 : Int32), xI (49 : Int32)]) mk_Mo_spell rfl (x_rk (ci := 11) g76 rfl rfl) wM_Mo_66 mi_Mo_spell me_Mo_spell rfl (Nat.le_of_ble_eq_true rfl) (Nat.le_of_ble_eq_true rfl) dc_Mo_init_150 (by omega) (Nat.zero_le _) (Nat.zero_le _) ?_
  refine t_Mo_spell (by omega) ⟨q77, eq77, ?_⟩
  refine sx_eq0 (lc2 := [some (xR a0)]) (st2 := []) rfl rfl ?_
  refine sx_aload_n dc_Mo_init_153 rfl ?_
  refine sx_bipush (v := (8 : Int32)) dc_Mo_init_154 (by decide) ?_
  refine sx_bipush (v := (32 : Int32)) dc_Mo_init_156 (by decide) ?_
  refine sx_bipush (v := (59 : Int32)) dc_Mo_init_158 (by decide) ?_
  refine sx_bipush (v := (32 : Int32)) dc_Mo_init_160 (by decide) ?_
  refine sx_bipush (v := (99 : Int32)) dc_Mo_init_162 (by decide) ?_
  refine sx_bipush (v := (111 : Int32)) dc_Mo_init_164 (by decide) ?_
  refine sx_bipush (v := (115 : Int32)) dc_Mo_init_166 (by decide) ?_
  refine sx_bipush (v := (116 : Int32)) dc_Mo_init_168 (by decide) ?_
  refine sx_bipush (v := (115 : Int32)) dc_Mo_init_170 (by decide) ?_
  obtain ⟨g79, hk⟩ := hk.g
  obtain ⟨q78, eq78, hk⟩ := hk.bind
  refine sx_callV (d2 := d - 1) (mc2 := 0) (ms2 := 0) (as := [xI (8 : Int32), xI (32 : Int32), xI (59 : Int32), xI (32 : Int32), xI (99 : Int32), xI (111 : Int32), xI (115 : Int32), xI (116 : Int32), xI (115 : Int32)]) mk_Mo_spell rfl (x_rk (ci := 11) g79 rfl rfl) wM_Mo_66 mi_Mo_spell me_Mo_spell rfl (Nat.le_of_ble_eq_true rfl) (Nat.le_of_ble_eq_true rfl) dc_Mo_init_172 (by omega) (Nat.zero_le _) (Nat.zero_le _) ?_
  refine t_Mo_spell (by omega) ⟨q78, eq78, ?_⟩
  refine sx_eq0 (lc2 := [some (xR a0)]) (st2 := []) rfl rfl ?_
  refine sx_aload_n dc_Mo_init_175 rfl ?_
  refine sx_bipush (v := (16 : Int32)) dc_Mo_init_176 (by decide) ?_
  refine sx_bipush (v := (32 : Int32)) dc_Mo_init_178 (by decide) ?_
  refine sx_bipush (v := (49 : Int32)) dc_Mo_init_180 (by decide) ?_
  refine sx_bipush (v := (32 : Int32)) dc_Mo_init_182 (by decide) ?_
  refine sx_bipush (v := (59 : Int32)) dc_Mo_init_184 (by decide) ?_
  refine sx_bipush (v := (32 : Int32)) dc_Mo_init_186 (by decide) ?_
  refine sx_bipush (v := (106 : Int32)) dc_Mo_init_188 (by decide) ?_
  refine sx_bipush (v := (111 : Int32)) dc_Mo_init_190 (by decide) ?_
  refine sx_bipush (v := (121 : Int32)) dc_Mo_init_192 (by decide) ?_
  obtain ⟨g81, hk⟩ := hk.g
  obtain ⟨q80, eq80, hk⟩ := hk.bind
  refine sx_callV (d2 := d - 1) (mc2 := 0) (ms2 := 0) (as := [xI (16 : Int32), xI (32 : Int32), xI (49 : Int32), xI (32 : Int32), xI (59 : Int32), xI (32 : Int32), xI (106 : Int32), xI (111 : Int32), xI (121 : Int32)]) mk_Mo_spell rfl (x_rk (ci := 11) g81 rfl rfl) wM_Mo_66 mi_Mo_spell me_Mo_spell rfl (Nat.le_of_ble_eq_true rfl) (Nat.le_of_ble_eq_true rfl) dc_Mo_init_194 (by omega) (Nat.zero_le _) (Nat.zero_le _) ?_
  refine t_Mo_spell (by omega) ⟨q80, eq80, ?_⟩
  refine sx_eq0 (lc2 := [some (xR a0)]) (st2 := []) rfl rfl ?_
  refine sx_aload_n dc_Mo_init_197 rfl ?_
  refine sx_bipush (v := (24 : Int32)) dc_Mo_init_198 (by decide) ?_
  refine sx_bipush (v := (32 : Int32)) dc_Mo_init_200 (by decide) ?_
  refine sx_bipush (v := (53 : Int32)) dc_Mo_init_202 (by decide) ?_
  refine sx_bipush (v := (32 : Int32)) dc_Mo_init_204 (by decide) ?_
  refine sx_bipush (v := (45 : Int32)) dc_Mo_init_206 (by decide) ?_
  refine sx_bipush (v := (32 : Int32)) dc_Mo_init_208 (by decide) ?_
  refine sx_bipush (v := (107 : Int32)) dc_Mo_init_210 (by decide) ?_
  refine sx_bipush (v := (110 : Int32)) dc_Mo_init_212 (by decide) ?_
  refine sx_bipush (v := (111 : Int32)) dc_Mo_init_214 (by decide) ?_
  obtain ⟨g83, hk⟩ := hk.g
  obtain ⟨q82, eq82, hk⟩ := hk.bind
  refine sx_callV (d2 := d - 1) (mc2 := 0) (ms2 := 0) (as := [xI (24 : Int32), xI (32 : Int32), xI (53 : Int32), xI (32 : Int32), xI (45 : Int32), xI (32 : Int32), xI (107 : Int32), xI (110 : Int32), xI (111 : Int32)]) mk_Mo_spell rfl (x_rk (ci := 11) g83 rfl rfl) wM_Mo_66 mi_Mo_spell me_Mo_spell rfl (Nat.le_of_ble_eq_true rfl) (Nat.le_of_ble_eq_true rfl) dc_Mo_init_216 (by omega) (Nat.zero_le _) (Nat.zero_le _) ?_
  refine t_Mo_spell (by omega) ⟨q82, eq82, ?_⟩
  refine sx_eq0 (lc2 := [some (xR a0)]) (st2 := []) rfl rfl ?_
  refine sx_aload_n dc_Mo_init_219 rfl ?_
  refine sx_bipush (v := (32 : Int32)) dc_Mo_init_220 (by decide) ?_
  refine sx_bipush (v := (119 : Int32)) dc_Mo_init_222 (by decide) ?_
  refine sx_bipush (v := (32 : Int32)) dc_Mo_init_224 (by decide) ?_
  refine sx_bipush (v := (59 : Int32)) dc_Mo_init_226 (by decide) ?_
  refine sx_bipush (v := (32 : Int32)) dc_Mo_init_228 (by decide) ?_
  refine sx_bipush (v := (32 : Int32)) dc_Mo_init_230 (by decide) ?_
  refine sx_bipush (v := (32 : Int32)) dc_Mo_init_232 (by decide) ?_
  refine sx_bipush (v := (32 : Int32)) dc_Mo_init_234 (by decide) ?_
  refine sx_bipush (v := (32 : Int32)) dc_Mo_init_236 (by decide) ?_
  obtain ⟨g85, hk⟩ := hk.g
  obtain ⟨q84, eq84, hk⟩ := hk.bind
  refine sx_callV (d2 := d - 1) (mc2 := 0) (ms2 := 0) (as := [xI (32 : Int32), xI (119 : Int32), xI (32 : Int32), xI (59 : Int32), xI (32 : Int32), xI (32 : Int32), xI (32 : Int32), xI (32 : Int32), xI (32 : Int32)]) mk_Mo_spell rfl (x_rk (ci := 11) g85 rfl rfl) wM_Mo_66 mi_Mo_spell me_Mo_spell rfl (Nat.le_of_ble_eq_true rfl) (Nat.le_of_ble_eq_true rfl) dc_Mo_init_238 (by omega) (Nat.zero_le _) (Nat.zero_le _) ?_
  refine t_Mo_spell (by omega) ⟨q84, eq84, ?_⟩
  refine sx_eq0 (lc2 := [some (xR a0)]) (st2 := []) rfl rfl ?_
  refine sx_aload_n dc_Mo_init_241 rfl ?_
  obtain ⟨g86, hk⟩ := hk.g
  refine sx_get (ci := 11) (k := 2) rfl (by decide) wF_Mo_17 g86 dc_Mo_init_242 ?_
  refine sx_iconst (v := (0 : Int32)) dc_Mo_init_245 (by decide) ?_
  refine sx_bipush (v := (40 : Int32)) dc_Mo_init_246 (by decide) ?_
  obtain ⟨g87, hk⟩ := hk.g
  obtain ⟨g88, hk⟩ := hk.g
  refine sx_iast g87 g88 dc_Mo_init_248 ?_
  refine sx_aload_n dc_Mo_init_249 rfl ?_
  refine sx_iconst (v := (1 : Int32)) dc_Mo_init_250 (by decide) ?_
  refine sx_putI (ci := 11) (k := 3) rfl (by decide) wF_Mo_70 rfl g86 (Or.inl rfl) dc_Mo_init_251 ?_
  exact sx_retV dc_Mo_init_254 rfl hk.val
theorem dc_Mo_isGuest_0 : decode M_Mo_isGuest.2.1 0 = .ok (.iload_n 1, 1) := by decide +kernel
theorem dc_Mo_isGuest_1 : decode M_Mo_isGuest.2.1 1 = .ok (.i2l, 1) := by decide +kernel
theorem dc_Mo_isGuest_2 : decode M_Mo_isGuest.2.1 2 = .ok (.lconst 0, 1) := by decide +kernel
theorem dc_Mo_isGuest_3 : decode M_Mo_isGuest.2.1 3 = .ok (.aload_n 0, 1) := by decide +kernel
theorem dc_Mo_isGuest_4 : decode M_Mo_isGuest.2.1 4 = .ok (.getfield 23, 3) := by decide +kernel
theorem dc_Mo_isGuest_7 : decode M_Mo_isGuest.2.1 7 = .ok (.iconst 1, 1) := by decide +kernel
theorem dc_Mo_isGuest_8 : decode M_Mo_isGuest.2.1 8 = .ok (.isub, 1) := by decide +kernel
theorem dc_Mo_isGuest_9 : decode M_Mo_isGuest.2.1 9 = .ok (.i2l, 1) := by decide +kernel
theorem dc_Mo_isGuest_10 : decode M_Mo_isGuest.2.1 10 = .ok (.invokestatic 73, 3) := by decide +kernel
theorem dc_Mo_isGuest_13 : decode M_Mo_isGuest.2.1 13 = .ok (.ireturn, 1) := by decide +kernel
def f_Mo_isGuest (a0 : Nat) (a1 : Int32) (h : xH) : Option (Int32 × xH) := gd (hK h a0 = 11) (Option.bind (f_Mo_in a1.toInt64 (0 : Int64) (((hI h a0 7) - (1 : Int32)).toInt64) h) (fun q4 => some (nb q4.1, q4.2)))
theorem t_Mo_isGuest {l : Launch} {z : xZ} {d mc ms : Nat} {Ph : Option xV → xH → Prop} {a0 : Nat} {a1 : Int32}  {h : xH} (hd : 2 ≤ d) (hk : OK (f_Mo_isGuest a0 a1 h) (fun q => Ph (some (xI q.1)) q.2)) : Sx l z d mc ms M_Mo_isGuest 0 (x_en [xR a0, xI a1] 2) [] h Ph := by
  unfold f_Mo_isGuest at hk
  refine sx_eq (lc2 := [some (xR a0), some (xI a1)]) rfl rfl ?_
  refine sx_iload_n dc_Mo_isGuest_0 rfl ?_
  refine sx_i2l dc_Mo_isGuest_1 ?_
  refine sx_lconst (v := 0) dc_Mo_isGuest_2 (by decide) ?_
  refine sx_aload_n dc_Mo_isGuest_3 rfl ?_
  obtain ⟨g3, hk⟩ := hk.g
  refine sx_get (ci := 11) (k := 7) rfl (by decide) wF_Mo_23 g3 dc_Mo_isGuest_4 ?_
  refine sx_iconst (v := (1 : Int32)) dc_Mo_isGuest_7 (by decide) ?_
  refine sx_isub dc_Mo_isGuest_8 ?_
  refine sx_i2l dc_Mo_isGuest_9 ?_
  obtain ⟨q4, eq4, hk⟩ := hk.bind
  refine sx_callS (d2 := d - 1) (mc2 := 0) (ms2 := 0) (as := [xJ a1.toInt64, xJ (0 : Int64), xJ (((hI h a0 7) - (1 : Int32)).toInt64)]) mk_Mo_in rfl wM_Mo_73 mt_Mo_in rfl (Nat.le_of_ble_eq_true rfl) (Nat.le_of_ble_eq_true rfl) dc_Mo_isGuest_10 (by omega) (Nat.zero_le _) (Nat.zero_le _) ?_
  refine t_Mo_in (by omega) ⟨q4, eq4, ?_⟩
  refine sx_eq0 (lc2 := [some (xR a0), some (xI a1)]) (st2 := [xI q4.1]) rfl rfl ?_
  exact sx_retT dc_Mo_isGuest_13 (Or.inl ⟨rfl, rfl⟩) rfl hk.val
theorem dc_Mo_seat_0 : decode M_Mo_seat.2.1 0 = .ok (.iload_n 0, 1) := by decide +kernel
theorem dc_Mo_seat_1 : decode M_Mo_seat.2.1 1 = .ok (.iload_n 1, 1) := by decide +kernel
theorem dc_Mo_seat_2 : decode M_Mo_seat.2.1 2 = .ok (.if_icmp .ge 15, 3) := by decide +kernel
theorem dc_Mo_seat_5 : decode M_Mo_seat.2.1 5 = .ok (.iload_n 1, 1) := by decide +kernel
theorem dc_Mo_seat_6 : decode M_Mo_seat.2.1 6 = .ok (.iload_n 1, 1) := by decide +kernel
theorem dc_Mo_seat_7 : decode M_Mo_seat.2.1 7 = .ok (.iconst 1, 1) := by decide +kernel
theorem dc_Mo_seat_8 : decode M_Mo_seat.2.1 8 = .ok (.isub, 1) := by decide +kernel
theorem dc_Mo_seat_9 : decode M_Mo_seat.2.1 9 = .ok (.imul, 1) := by decide +kernel
theorem dc_Mo_seat_10 : decode M_Mo_seat.2.1 10 = .ok (.iconst 2, 1) := by decide +kernel
theorem dc_Mo_seat_11 : decode M_Mo_seat.2.1 11 = .ok (.idiv, 1) := by decide +kernel
theorem dc_Mo_seat_12 : decode M_Mo_seat.2.1 12 = .ok (.iload_n 0, 1) := by decide +kernel
theorem dc_Mo_seat_13 : decode M_Mo_seat.2.1 13 = .ok (.iadd, 1) := by decide +kernel
theorem dc_Mo_seat_14 : decode M_Mo_seat.2.1 14 = .ok (.goto 12, 3) := by decide +kernel
theorem dc_Mo_seat_17 : decode M_Mo_seat.2.1 17 = .ok (.iload_n 0, 1) := by decide +kernel
theorem dc_Mo_seat_18 : decode M_Mo_seat.2.1 18 = .ok (.iload_n 0, 1) := by decide +kernel
theorem dc_Mo_seat_19 : decode M_Mo_seat.2.1 19 = .ok (.iconst 1, 1) := by decide +kernel
theorem dc_Mo_seat_20 : decode M_Mo_seat.2.1 20 = .ok (.isub, 1) := by decide +kernel
theorem dc_Mo_seat_21 : decode M_Mo_seat.2.1 21 = .ok (.imul, 1) := by decide +kernel
theorem dc_Mo_seat_22 : decode M_Mo_seat.2.1 22 = .ok (.iconst 2, 1) := by decide +kernel
theorem dc_Mo_seat_23 : decode M_Mo_seat.2.1 23 = .ok (.idiv, 1) := by decide +kernel
theorem dc_Mo_seat_24 : decode M_Mo_seat.2.1 24 = .ok (.iload_n 1, 1) := by decide +kernel
theorem dc_Mo_seat_25 : decode M_Mo_seat.2.1 25 = .ok (.iadd, 1) := by decide +kernel
theorem dc_Mo_seat_26 : decode M_Mo_seat.2.1 26 = .ok (.ireturn, 1) := by decide +kernel
def f_Mo_seat (a0 : Int32) (a1 : Int32) (h : xH) : Option (Int32 × xH) := jn (fun (x1 : Int32) => some (x1, h)) (fun k2 => if a1 ≤ a0 then k2 (((a0 * (a0 - (1 : Int32))) / (2 : Int32)) + a1) else k2 (((a1 * (a1 - (1 : Int32))) / (2 : Int32)) + a0))
theorem t_Mo_seat {l : Launch} {z : xZ} {d mc ms : Nat} {Ph : Option xV → xH → Prop} {a0 : Int32} {a1 : Int32}  {h : xH} (hd : 1 ≤ d) (hk : OK (f_Mo_seat a0 a1 h) (fun q => Ph (some (xI q.1)) q.2)) : Sx l z d mc ms M_Mo_seat 0 (x_en [xI a0, xI a1] 2) [] h Ph := by
  unfold f_Mo_seat at hk
  refine sx_eq (lc2 := [some (xI a0), some (xI a1)]) rfl rfl ?_
  refine sx_iload_n dc_Mo_seat_0 rfl ?_
  refine sx_iload_n dc_Mo_seat_1 rfl ?_
  refine hk.j (X := fun x1 => Sx l z d mc ms M_Mo_seat 26 [some (xI a0), some (xI a1)] [xI x1] h Ph) (fun x1 hk => ?_) (fun k2 jk2 hk => ?_)
  · exact sx_retI dc_Mo_seat_26 rfl hk.val
  · refine sx_icmp_ge (tgt := 17) dc_Mo_seat_2 (by decide) (fun c3 => ?_) (fun c3 => ?_)
    · replace hk := hk.t c3
      refine sx_iload_n dc_Mo_seat_17 rfl ?_
      refine sx_iload_n dc_Mo_seat_18 rfl ?_
      refine sx_iconst (v := (1 : Int32)) dc_Mo_seat_19 (by decide) ?_
      refine sx_isub dc_Mo_seat_20 ?_
      refine sx_imul dc_Mo_seat_21 ?_
      refine sx_iconst (v := (2 : Int32)) dc_Mo_seat_22 (by decide) ?_
      refine sx_idiv dc_Mo_seat_23 (by decide) ?_
      refine sx_iload_n dc_Mo_seat_24 rfl ?_
      refine sx_iadd dc_Mo_seat_25 ?_
      exact jk2 (((a0 * (a0 - (1 : Int32))) / (2 : Int32)) + a1) hk
    · replace hk := hk.f c3
      refine sx_iload_n dc_Mo_seat_5 rfl ?_
      refine sx_iload_n dc_Mo_seat_6 rfl ?_
      refine sx_iconst (v := (1 : Int32)) dc_Mo_seat_7 (by decide) ?_
      refine sx_isub dc_Mo_seat_8 ?_
      refine sx_imul dc_Mo_seat_9 ?_
      refine sx_iconst (v := (2 : Int32)) dc_Mo_seat_10 (by decide) ?_
      refine sx_idiv dc_Mo_seat_11 (by decide) ?_
      refine sx_iload_n dc_Mo_seat_12 rfl ?_
      refine sx_iadd dc_Mo_seat_13 ?_
      refine sx_goto (tgt := 26) dc_Mo_seat_14 (by decide) ?_
      exact jk2 (((a1 * (a1 - (1 : Int32))) / (2 : Int32)) + a0) hk
theorem dc_Mo_allOf_0 : decode M_Mo_allOf.2.1 0 = .ok (.iconst 1, 1) := by decide +kernel
theorem dc_Mo_allOf_1 : decode M_Mo_allOf.2.1 1 = .ok (.iload_n 0, 1) := by decide +kernel
theorem dc_Mo_allOf_2 : decode M_Mo_allOf.2.1 2 = .ok (.iload_n 0, 1) := by decide +kernel
theorem dc_Mo_allOf_3 : decode M_Mo_allOf.2.1 3 = .ok (.iconst 1, 1) := by decide +kernel
theorem dc_Mo_allOf_4 : decode M_Mo_allOf.2.1 4 = .ok (.isub, 1) := by decide +kernel
theorem dc_Mo_allOf_5 : decode M_Mo_allOf.2.1 5 = .ok (.imul, 1) := by decide +kernel
theorem dc_Mo_allOf_6 : decode M_Mo_allOf.2.1 6 = .ok (.iconst 2, 1) := by decide +kernel
theorem dc_Mo_allOf_7 : decode M_Mo_allOf.2.1 7 = .ok (.idiv, 1) := by decide +kernel
theorem dc_Mo_allOf_8 : decode M_Mo_allOf.2.1 8 = .ok (.ishl, 1) := by decide +kernel
theorem dc_Mo_allOf_9 : decode M_Mo_allOf.2.1 9 = .ok (.iconst 1, 1) := by decide +kernel
theorem dc_Mo_allOf_10 : decode M_Mo_allOf.2.1 10 = .ok (.isub, 1) := by decide +kernel
theorem dc_Mo_allOf_11 : decode M_Mo_allOf.2.1 11 = .ok (.ireturn, 1) := by decide +kernel
def f_Mo_allOf (a0 : Int32) (h : xH) : Option (Int32 × xH) := some ((jShl (1 : Int32) ((a0 * (a0 - (1 : Int32))) / (2 : Int32))) - (1 : Int32), h)
theorem t_Mo_allOf {l : Launch} {z : xZ} {d mc ms : Nat} {Ph : Option xV → xH → Prop} {a0 : Int32}  {h : xH} (hd : 1 ≤ d) (hk : OK (f_Mo_allOf a0 h) (fun q => Ph (some (xI q.1)) q.2)) : Sx l z d mc ms M_Mo_allOf 0 (x_en [xI a0] 1) [] h Ph := by
  unfold f_Mo_allOf at hk
  refine sx_eq (lc2 := [some (xI a0)]) rfl rfl ?_
  refine sx_iconst (v := (1 : Int32)) dc_Mo_allOf_0 (by decide) ?_
  refine sx_iload_n dc_Mo_allOf_1 rfl ?_
  refine sx_iload_n dc_Mo_allOf_2 rfl ?_
  refine sx_iconst (v := (1 : Int32)) dc_Mo_allOf_3 (by decide) ?_
  refine sx_isub dc_Mo_allOf_4 ?_
  refine sx_imul dc_Mo_allOf_5 ?_
  refine sx_iconst (v := (2 : Int32)) dc_Mo_allOf_6 (by decide) ?_
  refine sx_idiv dc_Mo_allOf_7 (by decide) ?_
  refine sx_ishl dc_Mo_allOf_8 ?_
  refine sx_iconst (v := (1 : Int32)) dc_Mo_allOf_9 (by decide) ?_
  refine sx_isub dc_Mo_allOf_10 ?_
  exact sx_retI dc_Mo_allOf_11 rfl hk.val
theorem dc_Mo_know_0 : decode M_Mo_know.2.1 0 = .ok (.aload_n 0, 1) := by decide +kernel
theorem dc_Mo_know_1 : decode M_Mo_know.2.1 1 = .ok (.getfield 77, 3) := by decide +kernel
theorem dc_Mo_know_4 : decode M_Mo_know.2.1 4 = .ok (.iload_n 1, 1) := by decide +kernel
theorem dc_Mo_know_5 : decode M_Mo_know.2.1 5 = .ok (.iload_n 2, 1) := by decide +kernel
theorem dc_Mo_know_6 : decode M_Mo_know.2.1 6 = .ok (.invokestatic 80, 3) := by decide +kernel
theorem dc_Mo_know_9 : decode M_Mo_know.2.1 9 = .ok (.ishr, 1) := by decide +kernel
theorem dc_Mo_know_10 : decode M_Mo_know.2.1 10 = .ok (.iconst 1, 1) := by decide +kernel
theorem dc_Mo_know_11 : decode M_Mo_know.2.1 11 = .ok (.iand, 1) := by decide +kernel
theorem dc_Mo_know_12 : decode M_Mo_know.2.1 12 = .ok (.iconst 1, 1) := by decide +kernel
theorem dc_Mo_know_13 : decode M_Mo_know.2.1 13 = .ok (.if_icmp .ne 7, 3) := by decide +kernel
theorem dc_Mo_know_16 : decode M_Mo_know.2.1 16 = .ok (.iconst 1, 1) := by decide +kernel
theorem dc_Mo_know_17 : decode M_Mo_know.2.1 17 = .ok (.goto 4, 3) := by decide +kernel
theorem dc_Mo_know_20 : decode M_Mo_know.2.1 20 = .ok (.iconst 0, 1) := by decide +kernel
theorem dc_Mo_know_21 : decode M_Mo_know.2.1 21 = .ok (.ireturn, 1) := by decide +kernel
def f_Mo_know (a0 : Nat) (a1 : Int32) (a2 : Int32) (h : xH) : Option (Int32 × xH) := gd (hK h a0 = 11) (Option.bind (f_Mo_seat a1 a2 h) (fun q4 => some (nb (if ((jShr (hI h a0 8) q4.1) &&& (1 : Int32)) = (1 : Int32) then (1 : Int32) else (0 : Int32)), q4.2)))
theorem t_Mo_know {l : Launch} {z : xZ} {d mc ms : Nat} {Ph : Option xV → xH → Prop} {a0 : Nat} {a1 : Int32} {a2 : Int32}  {h : xH} (hd : 2 ≤ d) (hk : OK (f_Mo_know a0 a1 a2 h) (fun q => Ph (some (xI q.1)) q.2)) : Sx l z d mc ms M_Mo_know 0 (x_en [xR a0, xI a1, xI a2] 3) [] h Ph := by
  unfold f_Mo_know at hk
  refine sx_eq (lc2 := [some (xR a0), some (xI a1), some (xI a2)]) rfl rfl ?_
  refine sx_aload_n dc_Mo_know_0 rfl ?_
  obtain ⟨g3, hk⟩ := hk.g
  refine sx_get (ci := 11) (k := 8) rfl (by decide) wF_Mo_77 g3 dc_Mo_know_1 ?_
  refine sx_iload_n dc_Mo_know_4 rfl ?_
  refine sx_iload_n dc_Mo_know_5 rfl ?_
  obtain ⟨q4, eq4, hk⟩ := hk.bind
  refine sx_callS (d2 := d - 1) (mc2 := 0) (ms2 := 0) (as := [xI a1, xI a2]) mk_Mo_seat rfl wM_Mo_80 mt_Mo_seat rfl (Nat.le_of_ble_eq_true rfl) (Nat.le_of_ble_eq_true rfl) dc_Mo_know_6 (by omega) (Nat.zero_le _) (Nat.zero_le _) ?_
  refine t_Mo_seat (by omega) ⟨q4, eq4, ?_⟩
  refine sx_eq0 (lc2 := [some (xR a0), some (xI a1), some (xI a2)]) (st2 := [xI q4.1, xI (hI h a0 8)]) rfl rfl ?_
  refine sx_ishr dc_Mo_know_9 ?_
  refine sx_iconst (v := (1 : Int32)) dc_Mo_know_10 (by decide) ?_
  refine sx_iand dc_Mo_know_11 ?_
  refine sx_iconst (v := (1 : Int32)) dc_Mo_know_12 (by decide) ?_
  refine sx_mg (pc2 := 21) (lc2 := [some (xR a0), some (xI a1), some (xI a2)]) (st2 := [xI (if ((jShr (hI h a0 8) q4.1) &&& (1 : Int32)) = (1 : Int32) then (1 : Int32) else (0 : Int32))]) (h2 := q4.2) ?_ (fun J5 => ?_)
  · exact sx_retT dc_Mo_know_21 (Or.inl ⟨rfl, rfl⟩) rfl hk.val
  · refine sx_icmp_ne (tgt := 20) dc_Mo_know_13 (by decide) (fun c6 => ?_) (fun c6 => ?_)
    · try simp only [if_neg c6] at J5
      refine sx_iconst (v := (0 : Int32)) dc_Mo_know_20 (by decide) ?_
      exact J5
    · try simp only [if_pos c6] at J5
      refine sx_iconst (v := (1 : Int32)) dc_Mo_know_16 (by decide) ?_
      refine sx_goto (tgt := 21) dc_Mo_know_17 (by decide) ?_
      exact J5
theorem dc_Mo_isPair_0 : decode M_Mo_isPair.2.1 0 = .ok (.aload_n 0, 1) := by decide +kernel
theorem dc_Mo_isPair_1 : decode M_Mo_isPair.2.1 1 = .ok (.iload_n 1, 1) := by decide +kernel
theorem dc_Mo_isPair_2 : decode M_Mo_isPair.2.1 2 = .ok (.invokevirtual 84, 3) := by decide +kernel
theorem dc_Mo_isPair_5 : decode M_Mo_isPair.2.1 5 = .ok (.ifCond .eq 20, 3) := by decide +kernel
theorem dc_Mo_isPair_8 : decode M_Mo_isPair.2.1 8 = .ok (.aload_n 0, 1) := by decide +kernel
theorem dc_Mo_isPair_9 : decode M_Mo_isPair.2.1 9 = .ok (.iload_n 2, 1) := by decide +kernel
theorem dc_Mo_isPair_10 : decode M_Mo_isPair.2.1 10 = .ok (.invokevirtual 84, 3) := by decide +kernel
theorem dc_Mo_isPair_13 : decode M_Mo_isPair.2.1 13 = .ok (.ifCond .eq 12, 3) := by decide +kernel
theorem dc_Mo_isPair_16 : decode M_Mo_isPair.2.1 16 = .ok (.iload_n 1, 1) := by decide +kernel
theorem dc_Mo_isPair_17 : decode M_Mo_isPair.2.1 17 = .ok (.iload_n 2, 1) := by decide +kernel
theorem dc_Mo_isPair_18 : decode M_Mo_isPair.2.1 18 = .ok (.if_icmp .eq 7, 3) := by decide +kernel
theorem dc_Mo_isPair_21 : decode M_Mo_isPair.2.1 21 = .ok (.iconst 1, 1) := by decide +kernel
theorem dc_Mo_isPair_22 : decode M_Mo_isPair.2.1 22 = .ok (.goto 4, 3) := by decide +kernel
theorem dc_Mo_isPair_25 : decode M_Mo_isPair.2.1 25 = .ok (.iconst 0, 1) := by decide +kernel
theorem dc_Mo_isPair_26 : decode M_Mo_isPair.2.1 26 = .ok (.ireturn, 1) := by decide +kernel
def f_Mo_isPair (a0 : Nat) (a1 : Int32) (a2 : Int32) (h : xH) : Option (Int32 × xH) := gd (hK h a0 = 11) (Option.bind (f_Mo_isGuest a0 a1 h) (fun q5 => jn (fun (x7 : Int32 × xH) => some (nb x7.1, x7.2)) (fun k8 => jn (fun (x9 : xH) => k8 ((0 : Int32), x9)) (fun k10 => if q5.1 = 0 then k10 q5.2 else gd (hK q5.2 a0 = 11) (Option.bind (f_Mo_isGuest a0 a2 q5.2) (fun q12 => if q12.1 = 0 then k10 q12.2 else if a1 = a2 then k10 q12.2 else k8 ((1 : Int32), q12.2)))))))
theorem t_Mo_isPair {l : Launch} {z : xZ} {d mc ms : Nat} {Ph : Option xV → xH → Prop} {a0 : Nat} {a1 : Int32} {a2 : Int32}  {h : xH} (hd : 3 ≤ d) (hk : OK (f_Mo_isPair a0 a1 a2 h) (fun q => Ph (some (xI q.1)) q.2)) : Sx l z d mc ms M_Mo_isPair 0 (x_en [xR a0, xI a1, xI a2] 3) [] h Ph := by
  unfold f_Mo_isPair at hk
  refine sx_eq (lc2 := [some (xR a0), some (xI a1), some (xI a2)]) rfl rfl ?_
  refine sx_aload_n dc_Mo_isPair_0 rfl ?_
  refine sx_iload_n dc_Mo_isPair_1 rfl ?_
  obtain ⟨g6, hk⟩ := hk.g
  obtain ⟨q5, eq5, hk⟩ := hk.bind
  refine sx_callV (d2 := d - 1) (mc2 := 0) (ms2 := 0) (as := [xI a1]) mk_Mo_isGuest rfl (x_rk (ci := 11) g6 rfl rfl) wM_Mo_84 mi_Mo_isGuest me_Mo_isGuest rfl (Nat.le_of_ble_eq_true rfl) (Nat.le_of_ble_eq_true rfl) dc_Mo_isPair_2 (by omega) (Nat.zero_le _) (Nat.zero_le _) ?_
  refine t_Mo_isGuest (by omega) ⟨q5, eq5, ?_⟩
  refine sx_eq0 (lc2 := [some (xR a0), some (xI a1), some (xI a2)]) (st2 := [xI q5.1]) rfl rfl ?_
  refine hk.j (X := fun x7 => Sx l z d mc ms M_Mo_isPair 26 [some (xR a0), some (xI a1), some (xI a2)] [xI x7.1] x7.2 Ph) (fun x7 hk => ?_) (fun k8 jk8 hk => ?_)
  · exact sx_retT dc_Mo_isPair_26 (Or.inl ⟨rfl, rfl⟩) rfl hk.val
  · refine hk.j (X := fun x9 => Sx l z d mc ms M_Mo_isPair 25 [some (xR a0), some (xI a1), some (xI a2)] [] x9 Ph) (fun x9 hk => ?_) (fun k10 jk10 hk => ?_)
    · refine sx_iconst (v := (0 : Int32)) dc_Mo_isPair_25 (by decide) ?_
      exact jk8 ((0 : Int32), x9) hk
    · refine sx_if_eq (tgt := 25) dc_Mo_isPair_5 (by decide) (fun c11 => ?_) (fun c11 => ?_)
      · replace hk := hk.t c11
        exact jk10 q5.2 hk
      · replace hk := hk.f c11
        refine sx_aload_n dc_Mo_isPair_8 rfl ?_
        refine sx_iload_n dc_Mo_isPair_9 rfl ?_
        obtain ⟨g13, hk⟩ := hk.g
        obtain ⟨q12, eq12, hk⟩ := hk.bind
        refine sx_callV (d2 := d - 1) (mc2 := 0) (ms2 := 0) (as := [xI a2]) mk_Mo_isGuest rfl (x_rk (ci := 11) g13 rfl rfl) wM_Mo_84 mi_Mo_isGuest me_Mo_isGuest rfl (Nat.le_of_ble_eq_true rfl) (Nat.le_of_ble_eq_true rfl) dc_Mo_isPair_10 (by omega) (Nat.zero_le _) (Nat.zero_le _) ?_
        refine t_Mo_isGuest (by omega) ⟨q12, eq12, ?_⟩
        refine sx_eq0 (lc2 := [some (xR a0), some (xI a1), some (xI a2)]) (st2 := [xI q12.1]) rfl rfl ?_
        refine sx_if_eq (tgt := 25) dc_Mo_isPair_13 (by decide) (fun c14 => ?_) (fun c14 => ?_)
        · replace hk := hk.t c14
          exact jk10 q12.2 hk
        · replace hk := hk.f c14
          refine sx_iload_n dc_Mo_isPair_16 rfl ?_
          refine sx_iload_n dc_Mo_isPair_17 rfl ?_
          refine sx_icmp_eq (tgt := 25) dc_Mo_isPair_18 (by decide) (fun c15 => ?_) (fun c15 => ?_)
          · replace hk := hk.t c15
            exact jk10 q12.2 hk
          · replace hk := hk.f c15
            refine sx_iconst (v := (1 : Int32)) dc_Mo_isPair_21 (by decide) ?_
            refine sx_goto (tgt := 26) dc_Mo_isPair_22 (by decide) ?_
            exact jk8 ((1 : Int32), q12.2) hk
theorem dc_Mo_sit_0 : decode M_Mo_sit.2.1 0 = .ok (.iload_n 1, 1) := by decide +kernel
theorem dc_Mo_sit_1 : decode M_Mo_sit.2.1 1 = .ok (.i2l, 1) := by decide +kernel
theorem dc_Mo_sit_2 : decode M_Mo_sit.2.1 2 = .ok (.lconst 1, 1) := by decide +kernel
theorem dc_Mo_sit_3 : decode M_Mo_sit.2.1 3 = .ok (.ldc2_w 88, 3) := by decide +kernel
theorem dc_Mo_sit_6 : decode M_Mo_sit.2.1 6 = .ok (.invokestatic 73, 3) := by decide +kernel
theorem dc_Mo_sit_9 : decode M_Mo_sit.2.1 9 = .ok (.ifCond .ne 6, 3) := by decide +kernel
theorem dc_Mo_sit_12 : decode M_Mo_sit.2.1 12 = .ok (.bipush (-2), 2) := by decide +kernel
theorem dc_Mo_sit_14 : decode M_Mo_sit.2.1 14 = .ok (.ireturn, 1) := by decide +kernel
theorem dc_Mo_sit_15 : decode M_Mo_sit.2.1 15 = .ok (.aload_n 0, 1) := by decide +kernel
theorem dc_Mo_sit_16 : decode M_Mo_sit.2.1 16 = .ok (.getfield 23, 3) := by decide +kernel
theorem dc_Mo_sit_19 : decode M_Mo_sit.2.1 19 = .ok (.istore_n 2, 1) := by decide +kernel
theorem dc_Mo_sit_20 : decode M_Mo_sit.2.1 20 = .ok (.aload_n 0, 1) := by decide +kernel
theorem dc_Mo_sit_21 : decode M_Mo_sit.2.1 21 = .ok (.iload_n 1, 1) := by decide +kernel
theorem dc_Mo_sit_22 : decode M_Mo_sit.2.1 22 = .ok (.putfield 23, 3) := by decide +kernel
theorem dc_Mo_sit_25 : decode M_Mo_sit.2.1 25 = .ok (.aload_n 0, 1) := by decide +kernel
theorem dc_Mo_sit_26 : decode M_Mo_sit.2.1 26 = .ok (.iconst 0, 1) := by decide +kernel
theorem dc_Mo_sit_27 : decode M_Mo_sit.2.1 27 = .ok (.putfield 77, 3) := by decide +kernel
theorem dc_Mo_sit_30 : decode M_Mo_sit.2.1 30 = .ok (.aload_n 0, 1) := by decide +kernel
theorem dc_Mo_sit_31 : decode M_Mo_sit.2.1 31 = .ok (.aload_n 0, 1) := by decide +kernel
theorem dc_Mo_sit_32 : decode M_Mo_sit.2.1 32 = .ok (.getfield 23, 3) := by decide +kernel
theorem dc_Mo_sit_35 : decode M_Mo_sit.2.1 35 = .ok (.invokestatic 90, 3) := by decide +kernel
theorem dc_Mo_sit_38 : decode M_Mo_sit.2.1 38 = .ok (.putfield 26, 3) := by decide +kernel
theorem dc_Mo_sit_41 : decode M_Mo_sit.2.1 41 = .ok (.iload_n 2, 1) := by decide +kernel
theorem dc_Mo_sit_42 : decode M_Mo_sit.2.1 42 = .ok (.ireturn, 1) := by decide +kernel
def f_Mo_sit (a0 : Nat) (a1 : Int32) (h : xH) : Option (Int32 × xH) := Option.bind (f_Mo_in a1.toInt64 (1 : Int64) (7 : Int64) h) (fun q5 => if q5.1 = 0 then some ((-2 : Int32), q5.2) else gd (hK q5.2 a0 = 11) (Option.bind (f_Mo_allOf (hI (hIu (hIu q5.2 a0 7 a1) a0 8 (0 : Int32)) a0 7) (hIu (hIu q5.2 a0 7 a1) a0 8 (0 : Int32))) (fun q8 => gd (hK q8.2 a0 = 11) (some (hI q5.2 a0 7, hIu q8.2 a0 9 q8.1)))))
theorem t_Mo_sit {l : Launch} {z : xZ} {d mc ms : Nat} {Ph : Option xV → xH → Prop} {a0 : Nat} {a1 : Int32}  {h : xH} (hd : 2 ≤ d) (hk : OK (f_Mo_sit a0 a1 h) (fun q => Ph (some (xI q.1)) q.2)) : Sx l z d mc ms M_Mo_sit 0 (x_en [xR a0, xI a1] 3) [] h Ph := by
  unfold f_Mo_sit at hk
  refine sx_eq (lc2 := [some (xR a0), some (xI a1), none]) rfl rfl ?_
  refine sx_iload_n dc_Mo_sit_0 rfl ?_
  refine sx_i2l dc_Mo_sit_1 ?_
  refine sx_lconst (v := 1) dc_Mo_sit_2 (by decide) ?_
  refine sx_ldc2 (v := 7) wJ_Mo_88 dc_Mo_sit_3 ?_
  obtain ⟨q5, eq5, hk⟩ := hk.bind
  refine sx_callS (d2 := d - 1) (mc2 := 0) (ms2 := 0) (as := [xJ a1.toInt64, xJ (1 : Int64), xJ (7 : Int64)]) mk_Mo_in rfl wM_Mo_73 mt_Mo_in rfl (Nat.le_of_ble_eq_true rfl) (Nat.le_of_ble_eq_true rfl) dc_Mo_sit_6 (by omega) (Nat.zero_le _) (Nat.zero_le _) ?_
  refine t_Mo_in (by omega) ⟨q5, eq5, ?_⟩
  refine sx_eq0 (lc2 := [some (xR a0), some (xI a1), none]) (st2 := [xI q5.1]) rfl rfl ?_
  refine sx_if_ne (tgt := 15) dc_Mo_sit_9 (by decide) (fun c6 => ?_) (fun c6 => ?_)
  · replace hk := hk.f c6
    refine sx_aload_n dc_Mo_sit_15 rfl ?_
    obtain ⟨g7, hk⟩ := hk.g
    refine sx_get (ci := 11) (k := 7) rfl (by decide) wF_Mo_23 g7 dc_Mo_sit_16 ?_
    refine sx_istore_n dc_Mo_sit_19 (by decide) (sx_eq (lc2 := [some (xR a0), some (xI a1), some (xI (hI q5.2 a0 7))]) rfl rfl ?_)
    refine sx_aload_n dc_Mo_sit_20 rfl ?_
    refine sx_iload_n dc_Mo_sit_21 rfl ?_
    refine sx_putI (ci := 11) (k := 7) rfl (by decide) wF_Mo_23 rfl g7 (Or.inl rfl) dc_Mo_sit_22 ?_
    refine sx_aload_n dc_Mo_sit_25 rfl ?_
    refine sx_iconst (v := (0 : Int32)) dc_Mo_sit_26 (by decide) ?_
    refine sx_putI (ci := 11) (k := 8) rfl (by decide) wF_Mo_77 rfl g7 (Or.inl rfl) dc_Mo_sit_27 ?_
    refine sx_aload_n dc_Mo_sit_30 rfl ?_
    refine sx_aload_n dc_Mo_sit_31 rfl ?_
    refine sx_get (ci := 11) (k := 7) rfl (by decide) wF_Mo_23 g7 dc_Mo_sit_32 ?_
    obtain ⟨q8, eq8, hk⟩ := hk.bind
    refine sx_callS (d2 := d - 1) (mc2 := 0) (ms2 := 0) (as := [xI (hI (hIu (hIu q5.2 a0 7 a1) a0 8 (0 : Int32)) a0 7)]) mk_Mo_allOf rfl wM_Mo_90 mt_Mo_allOf rfl (Nat.le_of_ble_eq_true rfl) (Nat.le_of_ble_eq_true rfl) dc_Mo_sit_35 (by omega) (Nat.zero_le _) (Nat.zero_le _) ?_
    refine t_Mo_allOf (by omega) ⟨q8, eq8, ?_⟩
    refine sx_eq0 (lc2 := [some (xR a0), some (xI a1), some (xI (hI q5.2 a0 7))]) (st2 := [xI q8.1, xR a0]) rfl rfl ?_
    obtain ⟨g9, hk⟩ := hk.g
    refine sx_putI (ci := 11) (k := 9) rfl (by decide) wF_Mo_26 rfl g9 (Or.inl rfl) dc_Mo_sit_38 ?_
    refine sx_iload_n dc_Mo_sit_41 rfl ?_
    exact sx_retI dc_Mo_sit_42 rfl hk.val
  · replace hk := hk.t c6
    refine sx_bipush (v := (-2 : Int32)) dc_Mo_sit_12 (by decide) ?_
    exact sx_retI dc_Mo_sit_14 rfl hk.val
theorem dc_Mo_pairAt_0 : decode M_Mo_pairAt.2.1 0 = .ok (.aload_n 0, 1) := by decide +kernel
theorem dc_Mo_pairAt_1 : decode M_Mo_pairAt.2.1 1 = .ok (.getfield 26, 3) := by decide +kernel
theorem dc_Mo_pairAt_4 : decode M_Mo_pairAt.2.1 4 = .ok (.iload_n 1, 1) := by decide +kernel
theorem dc_Mo_pairAt_5 : decode M_Mo_pairAt.2.1 5 = .ok (.ishr, 1) := by decide +kernel
theorem dc_Mo_pairAt_6 : decode M_Mo_pairAt.2.1 6 = .ok (.iconst 1, 1) := by decide +kernel
theorem dc_Mo_pairAt_7 : decode M_Mo_pairAt.2.1 7 = .ok (.iand, 1) := by decide +kernel
theorem dc_Mo_pairAt_8 : decode M_Mo_pairAt.2.1 8 = .ok (.ifCond .ne 7, 3) := by decide +kernel
theorem dc_Mo_pairAt_11 : decode M_Mo_pairAt.2.1 11 = .ok (.iconst 2, 1) := by decide +kernel
theorem dc_Mo_pairAt_12 : decode M_Mo_pairAt.2.1 12 = .ok (.goto 11, 3) := by decide +kernel
theorem dc_Mo_pairAt_15 : decode M_Mo_pairAt.2.1 15 = .ok (.aload_n 0, 1) := by decide +kernel
theorem dc_Mo_pairAt_16 : decode M_Mo_pairAt.2.1 16 = .ok (.getfield 77, 3) := by decide +kernel
theorem dc_Mo_pairAt_19 : decode M_Mo_pairAt.2.1 19 = .ok (.iload_n 1, 1) := by decide +kernel
theorem dc_Mo_pairAt_20 : decode M_Mo_pairAt.2.1 20 = .ok (.ishr, 1) := by decide +kernel
theorem dc_Mo_pairAt_21 : decode M_Mo_pairAt.2.1 21 = .ok (.iconst 1, 1) := by decide +kernel
theorem dc_Mo_pairAt_22 : decode M_Mo_pairAt.2.1 22 = .ok (.iand, 1) := by decide +kernel
theorem dc_Mo_pairAt_23 : decode M_Mo_pairAt.2.1 23 = .ok (.ireturn, 1) := by decide +kernel
def f_Mo_pairAt (a0 : Nat) (a1 : Int32) (h : xH) : Option (Int32 × xH) := gd (hK h a0 = 11) (jn (fun (x3 : Int32) => some (x3, h)) (fun k4 => if ((jShr (hI h a0 9) a1) &&& (1 : Int32)) = 0 then k4 (2 : Int32) else k4 ((jShr (hI h a0 8) a1) &&& (1 : Int32))))
theorem t_Mo_pairAt {l : Launch} {z : xZ} {d mc ms : Nat} {Ph : Option xV → xH → Prop} {a0 : Nat} {a1 : Int32}  {h : xH} (hd : 1 ≤ d) (hk : OK (f_Mo_pairAt a0 a1 h) (fun q => Ph (some (xI q.1)) q.2)) : Sx l z d mc ms M_Mo_pairAt 0 (x_en [xR a0, xI a1] 2) [] h Ph := by
  unfold f_Mo_pairAt at hk
  refine sx_eq (lc2 := [some (xR a0), some (xI a1)]) rfl rfl ?_
  refine sx_aload_n dc_Mo_pairAt_0 rfl ?_
  obtain ⟨g2, hk⟩ := hk.g
  refine sx_get (ci := 11) (k := 9) rfl (by decide) wF_Mo_26 g2 dc_Mo_pairAt_1 ?_
  refine sx_iload_n dc_Mo_pairAt_4 rfl ?_
  refine sx_ishr dc_Mo_pairAt_5 ?_
  refine sx_iconst (v := (1 : Int32)) dc_Mo_pairAt_6 (by decide) ?_
  refine sx_iand dc_Mo_pairAt_7 ?_
  refine hk.j (X := fun x3 => Sx l z d mc ms M_Mo_pairAt 23 [some (xR a0), some (xI a1)] [xI x3] h Ph) (fun x3 hk => ?_) (fun k4 jk4 hk => ?_)
  · exact sx_retI dc_Mo_pairAt_23 rfl hk.val
  · refine sx_if_ne (tgt := 15) dc_Mo_pairAt_8 (by decide) (fun c5 => ?_) (fun c5 => ?_)
    · replace hk := hk.f c5
      refine sx_aload_n dc_Mo_pairAt_15 rfl ?_
      refine sx_get (ci := 11) (k := 8) rfl (by decide) wF_Mo_77 g2 dc_Mo_pairAt_16 ?_
      refine sx_iload_n dc_Mo_pairAt_19 rfl ?_
      refine sx_ishr dc_Mo_pairAt_20 ?_
      refine sx_iconst (v := (1 : Int32)) dc_Mo_pairAt_21 (by decide) ?_
      refine sx_iand dc_Mo_pairAt_22 ?_
      exact jk4 ((jShr (hI h a0 8) a1) &&& (1 : Int32)) hk
    · replace hk := hk.t c5
      refine sx_iconst (v := (2 : Int32)) dc_Mo_pairAt_11 (by decide) ?_
      refine sx_goto (tgt := 23) dc_Mo_pairAt_12 (by decide) ?_
      exact jk4 (2 : Int32) hk
theorem dc_Mo_meet_0 : decode M_Mo_meet.2.1 0 = .ok (.aload_n 0, 1) := by decide +kernel
theorem dc_Mo_meet_1 : decode M_Mo_meet.2.1 1 = .ok (.iload_n 1, 1) := by decide +kernel
theorem dc_Mo_meet_2 : decode M_Mo_meet.2.1 2 = .ok (.iload_n 2, 1) := by decide +kernel
theorem dc_Mo_meet_3 : decode M_Mo_meet.2.1 3 = .ok (.invokevirtual 94, 3) := by decide +kernel
theorem dc_Mo_meet_6 : decode M_Mo_meet.2.1 6 = .ok (.ifCond .eq 15, 3) := by decide +kernel
theorem dc_Mo_meet_9 : decode M_Mo_meet.2.1 9 = .ok (.iload_n 3, 1) := by decide +kernel
theorem dc_Mo_meet_10 : decode M_Mo_meet.2.1 10 = .ok (.i2l, 1) := by decide +kernel
theorem dc_Mo_meet_11 : decode M_Mo_meet.2.1 11 = .ok (.lconst 0, 1) := by decide +kernel
theorem dc_Mo_meet_12 : decode M_Mo_meet.2.1 12 = .ok (.ldc2_w 98, 3) := by decide +kernel
theorem dc_Mo_meet_15 : decode M_Mo_meet.2.1 15 = .ok (.invokestatic 73, 3) := by decide +kernel
theorem dc_Mo_meet_18 : decode M_Mo_meet.2.1 18 = .ok (.ifCond .ne 6, 3) := by decide +kernel
theorem dc_Mo_meet_21 : decode M_Mo_meet.2.1 21 = .ok (.bipush (-2), 2) := by decide +kernel
theorem dc_Mo_meet_23 : decode M_Mo_meet.2.1 23 = .ok (.ireturn, 1) := by decide +kernel
theorem dc_Mo_meet_24 : decode M_Mo_meet.2.1 24 = .ok (.iload_n 1, 1) := by decide +kernel
theorem dc_Mo_meet_25 : decode M_Mo_meet.2.1 25 = .ok (.iload_n 2, 1) := by decide +kernel
theorem dc_Mo_meet_26 : decode M_Mo_meet.2.1 26 = .ok (.invokestatic 80, 3) := by decide +kernel
theorem dc_Mo_meet_29 : decode M_Mo_meet.2.1 29 = .ok (.istore 4, 2) := by decide +kernel
theorem dc_Mo_meet_31 : decode M_Mo_meet.2.1 31 = .ok (.aload_n 0, 1) := by decide +kernel
theorem dc_Mo_meet_32 : decode M_Mo_meet.2.1 32 = .ok (.iload 4, 2) := by decide +kernel
theorem dc_Mo_meet_34 : decode M_Mo_meet.2.1 34 = .ok (.invokevirtual 100, 3) := by decide +kernel
theorem dc_Mo_meet_37 : decode M_Mo_meet.2.1 37 = .ok (.istore 5, 2) := by decide +kernel
theorem dc_Mo_meet_39 : decode M_Mo_meet.2.1 39 = .ok (.aload_n 0, 1) := by decide +kernel
theorem dc_Mo_meet_40 : decode M_Mo_meet.2.1 40 = .ok (.aload_n 0, 1) := by decide +kernel
theorem dc_Mo_meet_41 : decode M_Mo_meet.2.1 41 = .ok (.getfield 77, 3) := by decide +kernel
theorem dc_Mo_meet_44 : decode M_Mo_meet.2.1 44 = .ok (.iconst 1, 1) := by decide +kernel
theorem dc_Mo_meet_45 : decode M_Mo_meet.2.1 45 = .ok (.iload 4, 2) := by decide +kernel
theorem dc_Mo_meet_47 : decode M_Mo_meet.2.1 47 = .ok (.ishl, 1) := by decide +kernel
theorem dc_Mo_meet_48 : decode M_Mo_meet.2.1 48 = .ok (.iconst (-1), 1) := by decide +kernel
theorem dc_Mo_meet_49 : decode M_Mo_meet.2.1 49 = .ok (.ixor, 1) := by decide +kernel
theorem dc_Mo_meet_50 : decode M_Mo_meet.2.1 50 = .ok (.iand, 1) := by decide +kernel
theorem dc_Mo_meet_51 : decode M_Mo_meet.2.1 51 = .ok (.iload_n 3, 1) := by decide +kernel
theorem dc_Mo_meet_52 : decode M_Mo_meet.2.1 52 = .ok (.iconst 1, 1) := by decide +kernel
theorem dc_Mo_meet_53 : decode M_Mo_meet.2.1 53 = .ok (.if_icmp .ne 7, 3) := by decide +kernel
theorem dc_Mo_meet_56 : decode M_Mo_meet.2.1 56 = .ok (.iconst 1, 1) := by decide +kernel
theorem dc_Mo_meet_57 : decode M_Mo_meet.2.1 57 = .ok (.goto 4, 3) := by decide +kernel
theorem dc_Mo_meet_60 : decode M_Mo_meet.2.1 60 = .ok (.iconst 0, 1) := by decide +kernel
theorem dc_Mo_meet_61 : decode M_Mo_meet.2.1 61 = .ok (.iload 4, 2) := by decide +kernel
theorem dc_Mo_meet_63 : decode M_Mo_meet.2.1 63 = .ok (.ishl, 1) := by decide +kernel
theorem dc_Mo_meet_64 : decode M_Mo_meet.2.1 64 = .ok (.ior, 1) := by decide +kernel
theorem dc_Mo_meet_65 : decode M_Mo_meet.2.1 65 = .ok (.putfield 77, 3) := by decide +kernel
theorem dc_Mo_meet_68 : decode M_Mo_meet.2.1 68 = .ok (.aload_n 0, 1) := by decide +kernel
theorem dc_Mo_meet_69 : decode M_Mo_meet.2.1 69 = .ok (.aload_n 0, 1) := by decide +kernel
theorem dc_Mo_meet_70 : decode M_Mo_meet.2.1 70 = .ok (.getfield 26, 3) := by decide +kernel
theorem dc_Mo_meet_73 : decode M_Mo_meet.2.1 73 = .ok (.iconst 1, 1) := by decide +kernel
theorem dc_Mo_meet_74 : decode M_Mo_meet.2.1 74 = .ok (.iload 4, 2) := by decide +kernel
theorem dc_Mo_meet_76 : decode M_Mo_meet.2.1 76 = .ok (.ishl, 1) := by decide +kernel
theorem dc_Mo_meet_77 : decode M_Mo_meet.2.1 77 = .ok (.iconst (-1), 1) := by decide +kernel
theorem dc_Mo_meet_78 : decode M_Mo_meet.2.1 78 = .ok (.ixor, 1) := by decide +kernel
theorem dc_Mo_meet_79 : decode M_Mo_meet.2.1 79 = .ok (.iand, 1) := by decide +kernel
theorem dc_Mo_meet_80 : decode M_Mo_meet.2.1 80 = .ok (.iload_n 3, 1) := by decide +kernel
theorem dc_Mo_meet_81 : decode M_Mo_meet.2.1 81 = .ok (.iconst 2, 1) := by decide +kernel
theorem dc_Mo_meet_82 : decode M_Mo_meet.2.1 82 = .ok (.if_icmp .ne 7, 3) := by decide +kernel
theorem dc_Mo_meet_85 : decode M_Mo_meet.2.1 85 = .ok (.iconst 0, 1) := by decide +kernel
theorem dc_Mo_meet_86 : decode M_Mo_meet.2.1 86 = .ok (.goto 4, 3) := by decide +kernel
theorem dc_Mo_meet_89 : decode M_Mo_meet.2.1 89 = .ok (.iconst 1, 1) := by decide +kernel
theorem dc_Mo_meet_90 : decode M_Mo_meet.2.1 90 = .ok (.iload 4, 2) := by decide +kernel
theorem dc_Mo_meet_92 : decode M_Mo_meet.2.1 92 = .ok (.ishl, 1) := by decide +kernel
theorem dc_Mo_meet_93 : decode M_Mo_meet.2.1 93 = .ok (.ior, 1) := by decide +kernel
theorem dc_Mo_meet_94 : decode M_Mo_meet.2.1 94 = .ok (.putfield 26, 3) := by decide +kernel
theorem dc_Mo_meet_97 : decode M_Mo_meet.2.1 97 = .ok (.iload 5, 2) := by decide +kernel
theorem dc_Mo_meet_99 : decode M_Mo_meet.2.1 99 = .ok (.ireturn, 1) := by decide +kernel
def f_Mo_meet (a0 : Nat) (a1 : Int32) (a2 : Int32) (a3 : Int32) (h : xH) : Option (Int32 × xH) := gd (hK h a0 = 11) (Option.bind (f_Mo_isPair a0 a1 a2 h) (fun q8 => jn (fun (x10 : xH) => some ((-2 : Int32), x10)) (fun k11 => if q8.1 = 0 then k11 q8.2 else Option.bind (f_Mo_in a3.toInt64 (0 : Int64) (2 : Int64) q8.2) (fun q13 => if q13.1 = 0 then k11 q13.2 else Option.bind (f_Mo_seat a1 a2 q13.2) (fun q15 => gd (hK q15.2 a0 = 11) (Option.bind (f_Mo_pairAt a0 q15.1 q15.2) (fun q16 => gd (hK q16.2 a0 = 11) (hp (hIu q16.2 a0 8 (((hI q16.2 a0 8) &&& ((jShl (1 : Int32) q15.1) ^^^ (-1 : Int32))) ||| (jShl (if a3 = (1 : Int32) then (1 : Int32) else (0 : Int32)) q15.1))) (fun h21 => hp (hIu h21 a0 9 (((hI h21 a0 9) &&& ((jShl (1 : Int32) q15.1) ^^^ (-1 : Int32))) ||| (jShl (if a3 = (2 : Int32) then (0 : Int32) else (1 : Int32)) q15.1))) (fun h25 => some (q16.1, h25)))))))))))
theorem t_Mo_meet {l : Launch} {z : xZ} {d mc ms : Nat} {Ph : Option xV → xH → Prop} {a0 : Nat} {a1 : Int32} {a2 : Int32} {a3 : Int32}  {h : xH} (hd : 4 ≤ d) (hk : OK (f_Mo_meet a0 a1 a2 a3 h) (fun q => Ph (some (xI q.1)) q.2)) : Sx l z d mc ms M_Mo_meet 0 (x_en [xR a0, xI a1, xI a2, xI a3] 6) [] h Ph := by
  unfold f_Mo_meet at hk
  refine sx_eq (lc2 := [some (xR a0), some (xI a1), some (xI a2), some (xI a3), none, none]) rfl rfl ?_
  refine sx_aload_n dc_Mo_meet_0 rfl ?_
  refine sx_iload_n dc_Mo_meet_1 rfl ?_
  refine sx_iload_n dc_Mo_meet_2 rfl ?_
  obtain ⟨g9, hk⟩ := hk.g
  obtain ⟨q8, eq8, hk⟩ := hk.bind
  refine sx_callV (d2 := d - 1) (mc2 := 0) (ms2 := 0) (as := [xI a1, xI a2]) mk_Mo_isPair rfl (x_rk (ci := 11) g9 rfl rfl) wM_Mo_94 mi_Mo_isPair me_Mo_isPair rfl (Nat.le_of_ble_eq_true rfl) (Nat.le_of_ble_eq_true rfl) dc_Mo_meet_3 (by omega) (Nat.zero_le _) (Nat.zero_le _) ?_
  refine t_Mo_isPair (by omega) ⟨q8, eq8, ?_⟩
  refine sx_eq0 (lc2 := [some (xR a0), some (xI a1), some (xI a2), some (xI a3), none, none]) (st2 := [xI q8.1]) rfl rfl ?_
  refine hk.j (X := fun x10 => Sx l z d mc ms M_Mo_meet 21 [some (xR a0), some (xI a1), some (xI a2), some (xI a3), none, none] [] x10 Ph) (fun x10 hk => ?_) (fun k11 jk11 hk => ?_)
  · refine sx_bipush (v := (-2 : Int32)) dc_Mo_meet_21 (by decide) ?_
    exact sx_retI dc_Mo_meet_23 rfl hk.val
  · refine sx_if_eq (tgt := 21) dc_Mo_meet_6 (by decide) (fun c12 => ?_) (fun c12 => ?_)
    · replace hk := hk.t c12
      exact jk11 q8.2 hk
    · replace hk := hk.f c12
      refine sx_iload_n dc_Mo_meet_9 rfl ?_
      refine sx_i2l dc_Mo_meet_10 ?_
      refine sx_lconst (v := 0) dc_Mo_meet_11 (by decide) ?_
      refine sx_ldc2 (v := 2) wJ_Mo_98 dc_Mo_meet_12 ?_
      obtain ⟨q13, eq13, hk⟩ := hk.bind
      refine sx_callS (d2 := d - 1) (mc2 := 0) (ms2 := 0) (as := [xJ a3.toInt64, xJ (0 : Int64), xJ (2 : Int64)]) mk_Mo_in rfl wM_Mo_73 mt_Mo_in rfl (Nat.le_of_ble_eq_true rfl) (Nat.le_of_ble_eq_true rfl) dc_Mo_meet_15 (by omega) (Nat.zero_le _) (Nat.zero_le _) ?_
      refine t_Mo_in (by omega) ⟨q13, eq13, ?_⟩
      refine sx_eq0 (lc2 := [some (xR a0), some (xI a1), some (xI a2), some (xI a3), none, none]) (st2 := [xI q13.1]) rfl rfl ?_
      refine sx_if_ne (tgt := 24) dc_Mo_meet_18 (by decide) (fun c14 => ?_) (fun c14 => ?_)
      · replace hk := hk.f c14
        refine sx_iload_n dc_Mo_meet_24 rfl ?_
        refine sx_iload_n dc_Mo_meet_25 rfl ?_
        obtain ⟨q15, eq15, hk⟩ := hk.bind
        refine sx_callS (d2 := d - 1) (mc2 := 0) (ms2 := 0) (as := [xI a1, xI a2]) mk_Mo_seat rfl wM_Mo_80 mt_Mo_seat rfl (Nat.le_of_ble_eq_true rfl) (Nat.le_of_ble_eq_true rfl) dc_Mo_meet_26 (by omega) (Nat.zero_le _) (Nat.zero_le _) ?_
        refine t_Mo_seat (by omega) ⟨q15, eq15, ?_⟩
        refine sx_eq0 (lc2 := [some (xR a0), some (xI a1), some (xI a2), some (xI a3), none, none]) (st2 := [xI q15.1]) rfl rfl ?_
        refine sx_istore dc_Mo_meet_29 (by decide) (sx_eq (lc2 := [some (xR a0), some (xI a1), some (xI a2), some (xI a3), some (xI q15.1), none]) rfl rfl ?_)
        refine sx_aload_n dc_Mo_meet_31 rfl ?_
        refine sx_iload dc_Mo_meet_32 rfl ?_
        obtain ⟨g17, hk⟩ := hk.g
        obtain ⟨q16, eq16, hk⟩ := hk.bind
        refine sx_callV (d2 := d - 1) (mc2 := 0) (ms2 := 0) (as := [xI q15.1]) mk_Mo_pairAt rfl (x_rk (ci := 11) g17 rfl rfl) wM_Mo_100 mi_Mo_pairAt me_Mo_pairAt rfl (Nat.le_of_ble_eq_true rfl) (Nat.le_of_ble_eq_true rfl) dc_Mo_meet_34 (by omega) (Nat.zero_le _) (Nat.zero_le _) ?_
        refine t_Mo_pairAt (by omega) ⟨q16, eq16, ?_⟩
        refine sx_eq0 (lc2 := [some (xR a0), some (xI a1), some (xI a2), some (xI a3), some (xI q15.1), none]) (st2 := [xI q16.1]) rfl rfl ?_
        refine sx_istore dc_Mo_meet_37 (by decide) (sx_eq (lc2 := [some (xR a0), some (xI a1), some (xI a2), some (xI a3), some (xI q15.1), some (xI q16.1)]) rfl rfl ?_)
        refine sx_aload_n dc_Mo_meet_39 rfl ?_
        refine sx_aload_n dc_Mo_meet_40 rfl ?_
        obtain ⟨g18, hk⟩ := hk.g
        refine sx_get (ci := 11) (k := 8) rfl (by decide) wF_Mo_77 g18 dc_Mo_meet_41 ?_
        refine sx_iconst (v := (1 : Int32)) dc_Mo_meet_44 (by decide) ?_
        refine sx_iload dc_Mo_meet_45 rfl ?_
        refine sx_ishl dc_Mo_meet_47 ?_
        refine sx_iconst (v := (-1 : Int32)) dc_Mo_meet_48 (by decide) ?_
        refine sx_ixor dc_Mo_meet_49 ?_
        refine sx_iand dc_Mo_meet_50 ?_
        refine sx_iload_n dc_Mo_meet_51 rfl ?_
        refine sx_iconst (v := (1 : Int32)) dc_Mo_meet_52 (by decide) ?_
        refine sx_mg (pc2 := 61) (lc2 := [some (xR a0), some (xI a1), some (xI a2), some (xI a3), some (xI q15.1), some (xI q16.1)]) (st2 := [xI (if a3 = (1 : Int32) then (1 : Int32) else (0 : Int32)), xI ((hI q16.2 a0 8) &&& ((jShl (1 : Int32) q15.1) ^^^ (-1 : Int32))), xR a0]) (h2 := q16.2) ?_ (fun J19 => ?_)
        · refine sx_iload dc_Mo_meet_61 rfl ?_
          refine sx_ishl dc_Mo_meet_63 ?_
          refine sx_ior dc_Mo_meet_64 ?_
          refine sx_putI (ci := 11) (k := 8) rfl (by decide) wF_Mo_77 rfl g18 (Or.inl rfl) dc_Mo_meet_65 ?_
          obtain ⟨h21, eh21, hk⟩ := hk.h
          refine sx_hp eh21 ?_
          have g22 : hK h21 a0 = 11 := by rw [eh21]; exact g18
          refine sx_aload_n dc_Mo_meet_68 rfl ?_
          refine sx_aload_n dc_Mo_meet_69 rfl ?_
          refine sx_get (ci := 11) (k := 9) rfl (by decide) wF_Mo_26 g22 dc_Mo_meet_70 ?_
          refine sx_iconst (v := (1 : Int32)) dc_Mo_meet_73 (by decide) ?_
          refine sx_iload dc_Mo_meet_74 rfl ?_
          refine sx_ishl dc_Mo_meet_76 ?_
          refine sx_iconst (v := (-1 : Int32)) dc_Mo_meet_77 (by decide) ?_
          refine sx_ixor dc_Mo_meet_78 ?_
          refine sx_iand dc_Mo_meet_79 ?_
          refine sx_iload_n dc_Mo_meet_80 rfl ?_
          refine sx_iconst (v := (2 : Int32)) dc_Mo_meet_81 (by decide) ?_
          refine sx_mg (pc2 := 90) (lc2 := [some (xR a0), some (xI a1), some (xI a2), some (xI a3), some (xI q15.1), some (xI q16.1)]) (st2 := [xI (if a3 = (2 : Int32) then (0 : Int32) else (1 : Int32)), xI ((hI h21 a0 9) &&& ((jShl (1 : Int32) q15.1) ^^^ (-1 : Int32))), xR a0]) (h2 := h21) ?_ (fun J23 => ?_)
          · refine sx_iload dc_Mo_meet_90 rfl ?_
            refine sx_ishl dc_Mo_meet_92 ?_
            refine sx_ior dc_Mo_meet_93 ?_
            refine sx_putI (ci := 11) (k := 9) rfl (by decide) wF_Mo_26 rfl g22 (Or.inl rfl) dc_Mo_meet_94 ?_
            obtain ⟨h25, eh25, hk⟩ := hk.h
            refine sx_hp eh25 ?_
            have g26 : hK h25 a0 = 11 := by rw [eh25]; exact g22
            refine sx_iload dc_Mo_meet_97 rfl ?_
            exact sx_retI dc_Mo_meet_99 rfl hk.val
          · refine sx_icmp_ne (tgt := 89) dc_Mo_meet_82 (by decide) (fun c24 => ?_) (fun c24 => ?_)
            · try simp only [if_neg c24] at J23
              refine sx_iconst (v := (1 : Int32)) dc_Mo_meet_89 (by decide) ?_
              exact J23
            · try simp only [if_pos c24] at J23
              refine sx_iconst (v := (0 : Int32)) dc_Mo_meet_85 (by decide) ?_
              refine sx_goto (tgt := 90) dc_Mo_meet_86 (by decide) ?_
              exact J23
        · refine sx_icmp_ne (tgt := 60) dc_Mo_meet_53 (by decide) (fun c20 => ?_) (fun c20 => ?_)
          · try simp only [if_neg c20] at J19
            refine sx_iconst (v := (0 : Int32)) dc_Mo_meet_60 (by decide) ?_
            exact J19
          · try simp only [if_pos c20] at J19
            refine sx_iconst (v := (1 : Int32)) dc_Mo_meet_56 (by decide) ?_
            refine sx_goto (tgt := 61) dc_Mo_meet_57 (by decide) ?_
            exact J19
      · replace hk := hk.t c14
        exact jk11 q13.2 hk
theorem dc_Mo_told_0 : decode M_Mo_told.2.1 0 = .ok (.aload_n 0, 1) := by decide +kernel
theorem dc_Mo_told_1 : decode M_Mo_told.2.1 1 = .ok (.iload_n 1, 1) := by decide +kernel
theorem dc_Mo_told_2 : decode M_Mo_told.2.1 2 = .ok (.iload_n 2, 1) := by decide +kernel
theorem dc_Mo_told_3 : decode M_Mo_told.2.1 3 = .ok (.invokevirtual 94, 3) := by decide +kernel
theorem dc_Mo_told_6 : decode M_Mo_told.2.1 6 = .ok (.ifCond .eq 15, 3) := by decide +kernel
theorem dc_Mo_told_9 : decode M_Mo_told.2.1 9 = .ok (.aload_n 0, 1) := by decide +kernel
theorem dc_Mo_told_10 : decode M_Mo_told.2.1 10 = .ok (.iload_n 1, 1) := by decide +kernel
theorem dc_Mo_told_11 : decode M_Mo_told.2.1 11 = .ok (.iload_n 2, 1) := by decide +kernel
theorem dc_Mo_told_12 : decode M_Mo_told.2.1 12 = .ok (.invokestatic 80, 3) := by decide +kernel
theorem dc_Mo_told_15 : decode M_Mo_told.2.1 15 = .ok (.invokevirtual 100, 3) := by decide +kernel
theorem dc_Mo_told_18 : decode M_Mo_told.2.1 18 = .ok (.goto 5, 3) := by decide +kernel
theorem dc_Mo_told_21 : decode M_Mo_told.2.1 21 = .ok (.bipush (-2), 2) := by decide +kernel
theorem dc_Mo_told_23 : decode M_Mo_told.2.1 23 = .ok (.ireturn, 1) := by decide +kernel
def f_Mo_told (a0 : Nat) (a1 : Int32) (a2 : Int32) (h : xH) : Option (Int32 × xH) := gd (hK h a0 = 11) (Option.bind (f_Mo_isPair a0 a1 a2 h) (fun q6 => jn (fun (x8 : Int32 × xH) => some (x8.1, x8.2)) (fun k9 => if q6.1 = 0 then k9 ((-2 : Int32), q6.2) else Option.bind (f_Mo_seat a1 a2 q6.2) (fun q11 => gd (hK q11.2 a0 = 11) (Option.bind (f_Mo_pairAt a0 q11.1 q11.2) (fun q12 => k9 (q12.1, q12.2)))))))
theorem t_Mo_told {l : Launch} {z : xZ} {d mc ms : Nat} {Ph : Option xV → xH → Prop} {a0 : Nat} {a1 : Int32} {a2 : Int32}  {h : xH} (hd : 4 ≤ d) (hk : OK (f_Mo_told a0 a1 a2 h) (fun q => Ph (some (xI q.1)) q.2)) : Sx l z d mc ms M_Mo_told 0 (x_en [xR a0, xI a1, xI a2] 3) [] h Ph := by
  unfold f_Mo_told at hk
  refine sx_eq (lc2 := [some (xR a0), some (xI a1), some (xI a2)]) rfl rfl ?_
  refine sx_aload_n dc_Mo_told_0 rfl ?_
  refine sx_iload_n dc_Mo_told_1 rfl ?_
  refine sx_iload_n dc_Mo_told_2 rfl ?_
  obtain ⟨g7, hk⟩ := hk.g
  obtain ⟨q6, eq6, hk⟩ := hk.bind
  refine sx_callV (d2 := d - 1) (mc2 := 0) (ms2 := 0) (as := [xI a1, xI a2]) mk_Mo_isPair rfl (x_rk (ci := 11) g7 rfl rfl) wM_Mo_94 mi_Mo_isPair me_Mo_isPair rfl (Nat.le_of_ble_eq_true rfl) (Nat.le_of_ble_eq_true rfl) dc_Mo_told_3 (by omega) (Nat.zero_le _) (Nat.zero_le _) ?_
  refine t_Mo_isPair (by omega) ⟨q6, eq6, ?_⟩
  refine sx_eq0 (lc2 := [some (xR a0), some (xI a1), some (xI a2)]) (st2 := [xI q6.1]) rfl rfl ?_
  refine hk.j (X := fun x8 => Sx l z d mc ms M_Mo_told 23 [some (xR a0), some (xI a1), some (xI a2)] [xI x8.1] x8.2 Ph) (fun x8 hk => ?_) (fun k9 jk9 hk => ?_)
  · exact sx_retI dc_Mo_told_23 rfl hk.val
  · refine sx_if_eq (tgt := 21) dc_Mo_told_6 (by decide) (fun c10 => ?_) (fun c10 => ?_)
    · replace hk := hk.t c10
      refine sx_bipush (v := (-2 : Int32)) dc_Mo_told_21 (by decide) ?_
      exact jk9 ((-2 : Int32), q6.2) hk
    · replace hk := hk.f c10
      refine sx_aload_n dc_Mo_told_9 rfl ?_
      refine sx_iload_n dc_Mo_told_10 rfl ?_
      refine sx_iload_n dc_Mo_told_11 rfl ?_
      obtain ⟨q11, eq11, hk⟩ := hk.bind
      refine sx_callS (d2 := d - 1) (mc2 := 0) (ms2 := 0) (as := [xI a1, xI a2]) mk_Mo_seat rfl wM_Mo_80 mt_Mo_seat rfl (Nat.le_of_ble_eq_true rfl) (Nat.le_of_ble_eq_true rfl) dc_Mo_told_12 (by omega) (Nat.zero_le _) (Nat.zero_le _) ?_
      refine t_Mo_seat (by omega) ⟨q11, eq11, ?_⟩
      refine sx_eq0 (lc2 := [some (xR a0), some (xI a1), some (xI a2)]) (st2 := [xI q11.1, xR a0]) rfl rfl ?_
      obtain ⟨g13, hk⟩ := hk.g
      obtain ⟨q12, eq12, hk⟩ := hk.bind
      refine sx_callV (d2 := d - 1) (mc2 := 0) (ms2 := 0) (as := [xI q11.1]) mk_Mo_pairAt rfl (x_rk (ci := 11) g13 rfl rfl) wM_Mo_100 mi_Mo_pairAt me_Mo_pairAt rfl (Nat.le_of_ble_eq_true rfl) (Nat.le_of_ble_eq_true rfl) dc_Mo_told_15 (by omega) (Nat.zero_le _) (Nat.zero_le _) ?_
      refine t_Mo_pairAt (by omega) ⟨q12, eq12, ?_⟩
      refine sx_eq0 (lc2 := [some (xR a0), some (xI a1), some (xI a2)]) (st2 := [xI q12.1]) rfl rfl ?_
      refine sx_goto (tgt := 23) dc_Mo_told_18 (by decide) ?_
      exact jk9 (q12.1, q12.2) hk
theorem dc_Mo_isTown_0 : decode M_Mo_isTown.2.1 0 = .ok (.iload_n 1, 1) := by decide +kernel
theorem dc_Mo_isTown_1 : decode M_Mo_isTown.2.1 1 = .ok (.i2l, 1) := by decide +kernel
theorem dc_Mo_isTown_2 : decode M_Mo_isTown.2.1 2 = .ok (.lconst 0, 1) := by decide +kernel
theorem dc_Mo_isTown_3 : decode M_Mo_isTown.2.1 3 = .ok (.aload_n 0, 1) := by decide +kernel
theorem dc_Mo_isTown_4 : decode M_Mo_isTown.2.1 4 = .ok (.getfield 103, 3) := by decide +kernel
theorem dc_Mo_isTown_7 : decode M_Mo_isTown.2.1 7 = .ok (.iconst 1, 1) := by decide +kernel
theorem dc_Mo_isTown_8 : decode M_Mo_isTown.2.1 8 = .ok (.isub, 1) := by decide +kernel
theorem dc_Mo_isTown_9 : decode M_Mo_isTown.2.1 9 = .ok (.i2l, 1) := by decide +kernel
theorem dc_Mo_isTown_10 : decode M_Mo_isTown.2.1 10 = .ok (.invokestatic 73, 3) := by decide +kernel
theorem dc_Mo_isTown_13 : decode M_Mo_isTown.2.1 13 = .ok (.ireturn, 1) := by decide +kernel
def f_Mo_isTown (a0 : Nat) (a1 : Int32) (h : xH) : Option (Int32 × xH) := gd (hK h a0 = 11) (Option.bind (f_Mo_in a1.toInt64 (0 : Int64) (((hI h a0 12) - (1 : Int32)).toInt64) h) (fun q4 => some (nb q4.1, q4.2)))
theorem t_Mo_isTown {l : Launch} {z : xZ} {d mc ms : Nat} {Ph : Option xV → xH → Prop} {a0 : Nat} {a1 : Int32}  {h : xH} (hd : 2 ≤ d) (hk : OK (f_Mo_isTown a0 a1 h) (fun q => Ph (some (xI q.1)) q.2)) : Sx l z d mc ms M_Mo_isTown 0 (x_en [xR a0, xI a1] 2) [] h Ph := by
  unfold f_Mo_isTown at hk
  refine sx_eq (lc2 := [some (xR a0), some (xI a1)]) rfl rfl ?_
  refine sx_iload_n dc_Mo_isTown_0 rfl ?_
  refine sx_i2l dc_Mo_isTown_1 ?_
  refine sx_lconst (v := 0) dc_Mo_isTown_2 (by decide) ?_
  refine sx_aload_n dc_Mo_isTown_3 rfl ?_
  obtain ⟨g3, hk⟩ := hk.g
  refine sx_get (ci := 11) (k := 12) rfl (by decide) wF_Mo_103 g3 dc_Mo_isTown_4 ?_
  refine sx_iconst (v := (1 : Int32)) dc_Mo_isTown_7 (by decide) ?_
  refine sx_isub dc_Mo_isTown_8 ?_
  refine sx_i2l dc_Mo_isTown_9 ?_
  obtain ⟨q4, eq4, hk⟩ := hk.bind
  refine sx_callS (d2 := d - 1) (mc2 := 0) (ms2 := 0) (as := [xJ a1.toInt64, xJ (0 : Int64), xJ (((hI h a0 12) - (1 : Int32)).toInt64)]) mk_Mo_in rfl wM_Mo_73 mt_Mo_in rfl (Nat.le_of_ble_eq_true rfl) (Nat.le_of_ble_eq_true rfl) dc_Mo_isTown_10 (by omega) (Nat.zero_le _) (Nat.zero_le _) ?_
  refine t_Mo_in (by omega) ⟨q4, eq4, ?_⟩
  refine sx_eq0 (lc2 := [some (xR a0), some (xI a1)]) (st2 := [xI q4.1]) rfl rfl ?_
  exact sx_retT dc_Mo_isTown_13 (Or.inl ⟨rfl, rfl⟩) rfl hk.val
theorem dc_Mo_town_0 : decode M_Mo_town.2.1 0 = .ok (.iload_n 1, 1) := by decide +kernel
theorem dc_Mo_town_1 : decode M_Mo_town.2.1 1 = .ok (.i2l, 1) := by decide +kernel
theorem dc_Mo_town_2 : decode M_Mo_town.2.1 2 = .ok (.lconst 0, 1) := by decide +kernel
theorem dc_Mo_town_3 : decode M_Mo_town.2.1 3 = .ok (.ldc2_w 106, 3) := by decide +kernel
theorem dc_Mo_town_6 : decode M_Mo_town.2.1 6 = .ok (.invokestatic 73, 3) := by decide +kernel
theorem dc_Mo_town_9 : decode M_Mo_town.2.1 9 = .ok (.ifCond .eq 15, 3) := by decide +kernel
theorem dc_Mo_town_12 : decode M_Mo_town.2.1 12 = .ok (.iload_n 2, 1) := by decide +kernel
theorem dc_Mo_town_13 : decode M_Mo_town.2.1 13 = .ok (.i2l, 1) := by decide +kernel
theorem dc_Mo_town_14 : decode M_Mo_town.2.1 14 = .ok (.lconst 0, 1) := by decide +kernel
theorem dc_Mo_town_15 : decode M_Mo_town.2.1 15 = .ok (.ldc2_w 108, 3) := by decide +kernel
theorem dc_Mo_town_18 : decode M_Mo_town.2.1 18 = .ok (.invokestatic 73, 3) := by decide +kernel
theorem dc_Mo_town_21 : decode M_Mo_town.2.1 21 = .ok (.ifCond .ne 6, 3) := by decide +kernel
theorem dc_Mo_town_24 : decode M_Mo_town.2.1 24 = .ok (.bipush (-2), 2) := by decide +kernel
theorem dc_Mo_town_26 : decode M_Mo_town.2.1 26 = .ok (.ireturn, 1) := by decide +kernel
theorem dc_Mo_town_27 : decode M_Mo_town.2.1 27 = .ok (.aload_n 0, 1) := by decide +kernel
theorem dc_Mo_town_28 : decode M_Mo_town.2.1 28 = .ok (.getfield 103, 3) := by decide +kernel
theorem dc_Mo_town_31 : decode M_Mo_town.2.1 31 = .ok (.iconst 5, 1) := by decide +kernel
theorem dc_Mo_town_32 : decode M_Mo_town.2.1 32 = .ok (.if_icmp .ne 6, 3) := by decide +kernel
theorem dc_Mo_town_35 : decode M_Mo_town.2.1 35 = .ok (.bipush (-4), 2) := by decide +kernel
theorem dc_Mo_town_37 : decode M_Mo_town.2.1 37 = .ok (.ireturn, 1) := by decide +kernel
theorem dc_Mo_town_38 : decode M_Mo_town.2.1 38 = .ok (.aload_n 0, 1) := by decide +kernel
theorem dc_Mo_town_39 : decode M_Mo_town.2.1 39 = .ok (.getfield 29, 3) := by decide +kernel
theorem dc_Mo_town_42 : decode M_Mo_town.2.1 42 = .ok (.aload_n 0, 1) := by decide +kernel
theorem dc_Mo_town_43 : decode M_Mo_town.2.1 43 = .ok (.getfield 103, 3) := by decide +kernel
theorem dc_Mo_town_46 : decode M_Mo_town.2.1 46 = .ok (.iload_n 1, 1) := by decide +kernel
theorem dc_Mo_town_47 : decode M_Mo_town.2.1 47 = .ok (.iastore, 1) := by decide +kernel
theorem dc_Mo_town_48 : decode M_Mo_town.2.1 48 = .ok (.aload_n 0, 1) := by decide +kernel
theorem dc_Mo_town_49 : decode M_Mo_town.2.1 49 = .ok (.getfield 32, 3) := by decide +kernel
theorem dc_Mo_town_52 : decode M_Mo_town.2.1 52 = .ok (.aload_n 0, 1) := by decide +kernel
theorem dc_Mo_town_53 : decode M_Mo_town.2.1 53 = .ok (.getfield 103, 3) := by decide +kernel
theorem dc_Mo_town_56 : decode M_Mo_town.2.1 56 = .ok (.iload_n 2, 1) := by decide +kernel
theorem dc_Mo_town_57 : decode M_Mo_town.2.1 57 = .ok (.iastore, 1) := by decide +kernel
theorem dc_Mo_town_58 : decode M_Mo_town.2.1 58 = .ok (.aload_n 0, 1) := by decide +kernel
theorem dc_Mo_town_59 : decode M_Mo_town.2.1 59 = .ok (.dup, 1) := by decide +kernel
theorem dc_Mo_town_60 : decode M_Mo_town.2.1 60 = .ok (.getfield 103, 3) := by decide +kernel
theorem dc_Mo_town_63 : decode M_Mo_town.2.1 63 = .ok (.iconst 1, 1) := by decide +kernel
theorem dc_Mo_town_64 : decode M_Mo_town.2.1 64 = .ok (.iadd, 1) := by decide +kernel
theorem dc_Mo_town_65 : decode M_Mo_town.2.1 65 = .ok (.putfield 103, 3) := by decide +kernel
theorem dc_Mo_town_68 : decode M_Mo_town.2.1 68 = .ok (.aload_n 0, 1) := by decide +kernel
theorem dc_Mo_town_69 : decode M_Mo_town.2.1 69 = .ok (.getfield 103, 3) := by decide +kernel
theorem dc_Mo_town_72 : decode M_Mo_town.2.1 72 = .ok (.iconst 1, 1) := by decide +kernel
theorem dc_Mo_town_73 : decode M_Mo_town.2.1 73 = .ok (.isub, 1) := by decide +kernel
theorem dc_Mo_town_74 : decode M_Mo_town.2.1 74 = .ok (.ireturn, 1) := by decide +kernel
def f_Mo_town (a0 : Nat) (a1 : Int32) (a2 : Int32) (h : xH) : Option (Int32 × xH) := Option.bind (f_Mo_in a1.toInt64 (0 : Int64) (5 : Int64) h) (fun q8 => jn (fun (x9 : xH) => some ((-2 : Int32), x9)) (fun k10 => if q8.1 = 0 then k10 q8.2 else Option.bind (f_Mo_in a2.toInt64 (0 : Int64) (9 : Int64) q8.2) (fun q12 => if q12.1 = 0 then k10 q12.2 else gd (hK q12.2 a0 = 11) (if (hI q12.2 a0 12) = (5 : Int32) then some ((-4 : Int32), q12.2) else gd (hK q12.2 (hR q12.2 a0 10) = 12) (gd (¬ ((hI q12.2 a0 12) < 0 ∨ hL q12.2 (hR q12.2 a0 10) ≤ (hI q12.2 a0 12).toNatClampNeg)) (gd (hK q12.2 (hR q12.2 a0 11) = 12) (gd (¬ ((hI (hIu q12.2 (hR q12.2 a0 10) (hI q12.2 a0 12).toNatClampNeg a1) a0 12) < 0 ∨ hL q12.2 (hR q12.2 a0 11) ≤ (hI (hIu q12.2 (hR q12.2 a0 10) (hI q12.2 a0 12).toNatClampNeg a1) a0 12).toNatClampNeg)) (hp (hIu (hIu q12.2 (hR q12.2 a0 10) (hI q12.2 a0 12).toNatClampNeg a1) (hR q12.2 a0 11) (hI (hIu q12.2 (hR q12.2 a0 10) (hI q12.2 a0 12).toNatClampNeg a1) a0 12).toNatClampNeg a2) (fun h20 => some ((hI (hIu h20 a0 12 ((hI h20 a0 12) + (1 : Int32))) a0 12) - (1 : Int32), hIu h20 a0 12 ((hI h20 a0 12) + (1 : Int32))))))))))))
theorem t_Mo_town {l : Launch} {z : xZ} {d mc ms : Nat} {Ph : Option xV → xH → Prop} {a0 : Nat} {a1 : Int32} {a2 : Int32}  {h : xH} (hd : 2 ≤ d) (hk : OK (f_Mo_town a0 a1 a2 h) (fun q => Ph (some (xI q.1)) q.2)) : Sx l z d mc ms M_Mo_town 0 (x_en [xR a0, xI a1, xI a2] 3) [] h Ph := by
  unfold f_Mo_town at hk
  refine sx_eq (lc2 := [some (xR a0), some (xI a1), some (xI a2)]) rfl rfl ?_
  refine sx_iload_n dc_Mo_town_0 rfl ?_
  refine sx_i2l dc_Mo_town_1 ?_
  refine sx_lconst (v := 0) dc_Mo_town_2 (by decide) ?_
  refine sx_ldc2 (v := 5) wJ_Mo_106 dc_Mo_town_3 ?_
  obtain ⟨q8, eq8, hk⟩ := hk.bind
  refine sx_callS (d2 := d - 1) (mc2 := 0) (ms2 := 0) (as := [xJ a1.toInt64, xJ (0 : Int64), xJ (5 : Int64)]) mk_Mo_in rfl wM_Mo_73 mt_Mo_in rfl (Nat.le_of_ble_eq_true rfl) (Nat.le_of_ble_eq_true rfl) dc_Mo_town_6 (by omega) (Nat.zero_le _) (Nat.zero_le _) ?_
  refine t_Mo_in (by omega) ⟨q8, eq8, ?_⟩
  refine sx_eq0 (lc2 := [some (xR a0), some (xI a1), some (xI a2)]) (st2 := [xI q8.1]) rfl rfl ?_
  refine hk.j (X := fun x9 => Sx l z d mc ms M_Mo_town 24 [some (xR a0), some (xI a1), some (xI a2)] [] x9 Ph) (fun x9 hk => ?_) (fun k10 jk10 hk => ?_)
  · refine sx_bipush (v := (-2 : Int32)) dc_Mo_town_24 (by decide) ?_
    exact sx_retI dc_Mo_town_26 rfl hk.val
  · refine sx_if_eq (tgt := 24) dc_Mo_town_9 (by decide) (fun c11 => ?_) (fun c11 => ?_)
    · replace hk := hk.t c11
      exact jk10 q8.2 hk
    · replace hk := hk.f c11
      refine sx_iload_n dc_Mo_town_12 rfl ?_
      refine sx_i2l dc_Mo_town_13 ?_
      refine sx_lconst (v := 0) dc_Mo_town_14 (by decide) ?_
      refine sx_ldc2 (v := 9) wJ_Mo_108 dc_Mo_town_15 ?_
      obtain ⟨q12, eq12, hk⟩ := hk.bind
      refine sx_callS (d2 := d - 1) (mc2 := 0) (ms2 := 0) (as := [xJ a2.toInt64, xJ (0 : Int64), xJ (9 : Int64)]) mk_Mo_in rfl wM_Mo_73 mt_Mo_in rfl (Nat.le_of_ble_eq_true rfl) (Nat.le_of_ble_eq_true rfl) dc_Mo_town_18 (by omega) (Nat.zero_le _) (Nat.zero_le _) ?_
      refine t_Mo_in (by omega) ⟨q12, eq12, ?_⟩
      refine sx_eq0 (lc2 := [some (xR a0), some (xI a1), some (xI a2)]) (st2 := [xI q12.1]) rfl rfl ?_
      refine sx_if_ne (tgt := 27) dc_Mo_town_21 (by decide) (fun c13 => ?_) (fun c13 => ?_)
      · replace hk := hk.f c13
        refine sx_aload_n dc_Mo_town_27 rfl ?_
        obtain ⟨g14, hk⟩ := hk.g
        refine sx_get (ci := 11) (k := 12) rfl (by decide) wF_Mo_103 g14 dc_Mo_town_28 ?_
        refine sx_iconst (v := (5 : Int32)) dc_Mo_town_31 (by decide) ?_
        refine sx_icmp_ne (tgt := 38) dc_Mo_town_32 (by decide) (fun c15 => ?_) (fun c15 => ?_)
        · replace hk := hk.f c15
          refine sx_aload_n dc_Mo_town_38 rfl ?_
          refine sx_get (ci := 11) (k := 10) rfl (by decide) wF_Mo_29 g14 dc_Mo_town_39 ?_
          refine sx_aload_n dc_Mo_town_42 rfl ?_
          refine sx_get (ci := 11) (k := 12) rfl (by decide) wF_Mo_103 g14 dc_Mo_town_43 ?_
          refine sx_iload_n dc_Mo_town_46 rfl ?_
          obtain ⟨g16, hk⟩ := hk.g
          obtain ⟨g17, hk⟩ := hk.g
          refine sx_iast g16 g17 dc_Mo_town_47 ?_
          refine sx_aload_n dc_Mo_town_48 rfl ?_
          refine sx_get (ci := 11) (k := 11) rfl (by decide) wF_Mo_32 g14 dc_Mo_town_49 ?_
          refine sx_aload_n dc_Mo_town_52 rfl ?_
          refine sx_get (ci := 11) (k := 12) rfl (by decide) wF_Mo_103 g14 dc_Mo_town_53 ?_
          refine sx_iload_n dc_Mo_town_56 rfl ?_
          obtain ⟨g18, hk⟩ := hk.g
          obtain ⟨g19, hk⟩ := hk.g
          refine sx_iast g18 g19 dc_Mo_town_57 ?_
          obtain ⟨h20, eh20, hk⟩ := hk.h
          refine sx_hp eh20 ?_
          have g21 : hK h20 a0 = 11 := by rw [eh20]; exact g14
          have g22 : hK h20 (hR q12.2 a0 10) = 12 := by rw [eh20]; exact g16
          have g23 : hK h20 (hR q12.2 a0 11) = 12 := by rw [eh20]; exact g18
          refine sx_aload_n dc_Mo_town_58 rfl ?_
          refine sx_dup dc_Mo_town_59 rfl ?_
          refine sx_get (ci := 11) (k := 12) rfl (by decide) wF_Mo_103 g21 dc_Mo_town_60 ?_
          refine sx_iconst (v := (1 : Int32)) dc_Mo_town_63 (by decide) ?_
          refine sx_iadd dc_Mo_town_64 ?_
          refine sx_putI (ci := 11) (k := 12) rfl (by decide) wF_Mo_103 rfl g21 (Or.inl rfl) dc_Mo_town_65 ?_
          refine sx_aload_n dc_Mo_town_68 rfl ?_
          refine sx_get (ci := 11) (k := 12) rfl (by decide) wF_Mo_103 g21 dc_Mo_town_69 ?_
          refine sx_iconst (v := (1 : Int32)) dc_Mo_town_72 (by decide) ?_
          refine sx_isub dc_Mo_town_73 ?_
          exact sx_retI dc_Mo_town_74 rfl hk.val
        · replace hk := hk.t c15
          refine sx_bipush (v := (-4 : Int32)) dc_Mo_town_35 (by decide) ?_
          exact sx_retI dc_Mo_town_37 rfl hk.val
      · replace hk := hk.t c13
        exact jk10 q12.2 hk
theorem dc_Mo_isSo_0 : decode M_Mo_isSo.2.1 0 = .ok (.aload_n 0, 1) := by decide +kernel
theorem dc_Mo_isSo_1 : decode M_Mo_isSo.2.1 1 = .ok (.getfield 29, 3) := by decide +kernel
theorem dc_Mo_isSo_4 : decode M_Mo_isSo.2.1 4 = .ok (.iload_n 1, 1) := by decide +kernel
theorem dc_Mo_isSo_5 : decode M_Mo_isSo.2.1 5 = .ok (.iaload, 1) := by decide +kernel
theorem dc_Mo_isSo_6 : decode M_Mo_isSo.2.1 6 = .ok (.istore 4, 2) := by decide +kernel
theorem dc_Mo_isSo_8 : decode M_Mo_isSo.2.1 8 = .ok (.aload_n 0, 1) := by decide +kernel
theorem dc_Mo_isSo_9 : decode M_Mo_isSo.2.1 9 = .ok (.getfield 32, 3) := by decide +kernel
theorem dc_Mo_isSo_12 : decode M_Mo_isSo.2.1 12 = .ok (.iload_n 1, 1) := by decide +kernel
theorem dc_Mo_isSo_13 : decode M_Mo_isSo.2.1 13 = .ok (.iaload, 1) := by decide +kernel
theorem dc_Mo_isSo_14 : decode M_Mo_isSo.2.1 14 = .ok (.istore 5, 2) := by decide +kernel
theorem dc_Mo_isSo_16 : decode M_Mo_isSo.2.1 16 = .ok (.iload_n 2, 1) := by decide +kernel
theorem dc_Mo_isSo_17 : decode M_Mo_isSo.2.1 17 = .ok (.iload_n 3, 1) := by decide +kernel
theorem dc_Mo_isSo_18 : decode M_Mo_isSo.2.1 18 = .ok (.iadd, 1) := by decide +kernel
theorem dc_Mo_isSo_19 : decode M_Mo_isSo.2.1 19 = .ok (.iconst 2, 1) := by decide +kernel
theorem dc_Mo_isSo_20 : decode M_Mo_isSo.2.1 20 = .ok (.irem, 1) := by decide +kernel
theorem dc_Mo_isSo_21 : decode M_Mo_isSo.2.1 21 = .ok (.iconst 1, 1) := by decide +kernel
theorem dc_Mo_isSo_22 : decode M_Mo_isSo.2.1 22 = .ok (.if_icmp .ne 7, 3) := by decide +kernel
theorem dc_Mo_isSo_25 : decode M_Mo_isSo.2.1 25 = .ok (.iconst 1, 1) := by decide +kernel
theorem dc_Mo_isSo_26 : decode M_Mo_isSo.2.1 26 = .ok (.goto 4, 3) := by decide +kernel
theorem dc_Mo_isSo_29 : decode M_Mo_isSo.2.1 29 = .ok (.iconst 0, 1) := by decide +kernel
theorem dc_Mo_isSo_30 : decode M_Mo_isSo.2.1 30 = .ok (.istore 6, 2) := by decide +kernel
theorem dc_Mo_isSo_32 : decode M_Mo_isSo.2.1 32 = .ok (.iload_n 3, 1) := by decide +kernel
theorem dc_Mo_isSo_33 : decode M_Mo_isSo.2.1 33 = .ok (.iload_n 2, 1) := by decide +kernel
theorem dc_Mo_isSo_34 : decode M_Mo_isSo.2.1 34 = .ok (.isub, 1) := by decide +kernel
theorem dc_Mo_isSo_35 : decode M_Mo_isSo.2.1 35 = .ok (.iconst 1, 1) := by decide +kernel
theorem dc_Mo_isSo_36 : decode M_Mo_isSo.2.1 36 = .ok (.if_icmp .eq 23, 3) := by decide +kernel
theorem dc_Mo_isSo_39 : decode M_Mo_isSo.2.1 39 = .ok (.iload_n 3, 1) := by decide +kernel
theorem dc_Mo_isSo_40 : decode M_Mo_isSo.2.1 40 = .ok (.iload_n 2, 1) := by decide +kernel
theorem dc_Mo_isSo_41 : decode M_Mo_isSo.2.1 41 = .ok (.isub, 1) := by decide +kernel
theorem dc_Mo_isSo_42 : decode M_Mo_isSo.2.1 42 = .ok (.aload_n 0, 1) := by decide +kernel
theorem dc_Mo_isSo_43 : decode M_Mo_isSo.2.1 43 = .ok (.getfield 23, 3) := by decide +kernel
theorem dc_Mo_isSo_46 : decode M_Mo_isSo.2.1 46 = .ok (.iconst 1, 1) := by decide +kernel
theorem dc_Mo_isSo_47 : decode M_Mo_isSo.2.1 47 = .ok (.isub, 1) := by decide +kernel
theorem dc_Mo_isSo_48 : decode M_Mo_isSo.2.1 48 = .ok (.if_icmp .eq 11, 3) := by decide +kernel
theorem dc_Mo_isSo_51 : decode M_Mo_isSo.2.1 51 = .ok (.iload_n 3, 1) := by decide +kernel
theorem dc_Mo_isSo_52 : decode M_Mo_isSo.2.1 52 = .ok (.iload_n 2, 1) := by decide +kernel
theorem dc_Mo_isSo_53 : decode M_Mo_isSo.2.1 53 = .ok (.isub, 1) := by decide +kernel
theorem dc_Mo_isSo_54 : decode M_Mo_isSo.2.1 54 = .ok (.iload 5, 2) := by decide +kernel
theorem dc_Mo_isSo_56 : decode M_Mo_isSo.2.1 56 = .ok (.if_icmp .ne 7, 3) := by decide +kernel
theorem dc_Mo_isSo_59 : decode M_Mo_isSo.2.1 59 = .ok (.iconst 1, 1) := by decide +kernel
theorem dc_Mo_isSo_60 : decode M_Mo_isSo.2.1 60 = .ok (.goto 4, 3) := by decide +kernel
theorem dc_Mo_isSo_63 : decode M_Mo_isSo.2.1 63 = .ok (.iconst 0, 1) := by decide +kernel
theorem dc_Mo_isSo_64 : decode M_Mo_isSo.2.1 64 = .ok (.istore 7, 2) := by decide +kernel
theorem dc_Mo_isSo_66 : decode M_Mo_isSo.2.1 66 = .ok (.iload 4, 2) := by decide +kernel
theorem dc_Mo_isSo_68 : decode M_Mo_isSo.2.1 68 = .ok (.ifCond .ne 5, 3) := by decide +kernel
theorem dc_Mo_isSo_71 : decode M_Mo_isSo.2.1 71 = .ok (.iconst 0, 1) := by decide +kernel
theorem dc_Mo_isSo_72 : decode M_Mo_isSo.2.1 72 = .ok (.ireturn, 1) := by decide +kernel
theorem dc_Mo_isSo_73 : decode M_Mo_isSo.2.1 73 = .ok (.iload 4, 2) := by decide +kernel
theorem dc_Mo_isSo_75 : decode M_Mo_isSo.2.1 75 = .ok (.iconst 1, 1) := by decide +kernel
theorem dc_Mo_isSo_76 : decode M_Mo_isSo.2.1 76 = .ok (.if_icmp .ne 6, 3) := by decide +kernel
theorem dc_Mo_isSo_79 : decode M_Mo_isSo.2.1 79 = .ok (.iload 6, 2) := by decide +kernel
theorem dc_Mo_isSo_81 : decode M_Mo_isSo.2.1 81 = .ok (.ireturn, 1) := by decide +kernel
theorem dc_Mo_isSo_82 : decode M_Mo_isSo.2.1 82 = .ok (.iload 4, 2) := by decide +kernel
theorem dc_Mo_isSo_84 : decode M_Mo_isSo.2.1 84 = .ok (.iconst 3, 1) := by decide +kernel
theorem dc_Mo_isSo_85 : decode M_Mo_isSo.2.1 85 = .ok (.if_icmp .ne 29, 3) := by decide +kernel
theorem dc_Mo_isSo_88 : decode M_Mo_isSo.2.1 88 = .ok (.iload 6, 2) := by decide +kernel
theorem dc_Mo_isSo_90 : decode M_Mo_isSo.2.1 90 = .ok (.ifCond .ne 18, 3) := by decide +kernel
theorem dc_Mo_isSo_93 : decode M_Mo_isSo.2.1 93 = .ok (.iload_n 2, 1) := by decide +kernel
theorem dc_Mo_isSo_94 : decode M_Mo_isSo.2.1 94 = .ok (.iload 5, 2) := by decide +kernel
theorem dc_Mo_isSo_96 : decode M_Mo_isSo.2.1 96 = .ok (.iconst 2, 1) := by decide +kernel
theorem dc_Mo_isSo_97 : decode M_Mo_isSo.2.1 97 = .ok (.iadd, 1) := by decide +kernel
theorem dc_Mo_isSo_98 : decode M_Mo_isSo.2.1 98 = .ok (.irem, 1) := by decide +kernel
theorem dc_Mo_isSo_99 : decode M_Mo_isSo.2.1 99 = .ok (.iload_n 3, 1) := by decide +kernel
theorem dc_Mo_isSo_100 : decode M_Mo_isSo.2.1 100 = .ok (.iload 5, 2) := by decide +kernel
theorem dc_Mo_isSo_102 : decode M_Mo_isSo.2.1 102 = .ok (.iconst 2, 1) := by decide +kernel
theorem dc_Mo_isSo_103 : decode M_Mo_isSo.2.1 103 = .ok (.iadd, 1) := by decide +kernel
theorem dc_Mo_isSo_104 : decode M_Mo_isSo.2.1 104 = .ok (.irem, 1) := by decide +kernel
theorem dc_Mo_isSo_105 : decode M_Mo_isSo.2.1 105 = .ok (.if_icmp .eq 7, 3) := by decide +kernel
theorem dc_Mo_isSo_108 : decode M_Mo_isSo.2.1 108 = .ok (.iconst 1, 1) := by decide +kernel
theorem dc_Mo_isSo_109 : decode M_Mo_isSo.2.1 109 = .ok (.goto 4, 3) := by decide +kernel
theorem dc_Mo_isSo_112 : decode M_Mo_isSo.2.1 112 = .ok (.iconst 0, 1) := by decide +kernel
theorem dc_Mo_isSo_113 : decode M_Mo_isSo.2.1 113 = .ok (.ireturn, 1) := by decide +kernel
theorem dc_Mo_isSo_114 : decode M_Mo_isSo.2.1 114 = .ok (.iload 4, 2) := by decide +kernel
theorem dc_Mo_isSo_116 : decode M_Mo_isSo.2.1 116 = .ok (.iconst 2, 1) := by decide +kernel
theorem dc_Mo_isSo_117 : decode M_Mo_isSo.2.1 117 = .ok (.if_icmp .ne 6, 3) := by decide +kernel
theorem dc_Mo_isSo_120 : decode M_Mo_isSo.2.1 120 = .ok (.iload 7, 2) := by decide +kernel
theorem dc_Mo_isSo_122 : decode M_Mo_isSo.2.1 122 = .ok (.ireturn, 1) := by decide +kernel
theorem dc_Mo_isSo_123 : decode M_Mo_isSo.2.1 123 = .ok (.iload 4, 2) := by decide +kernel
theorem dc_Mo_isSo_125 : decode M_Mo_isSo.2.1 125 = .ok (.iconst 4, 1) := by decide +kernel
theorem dc_Mo_isSo_126 : decode M_Mo_isSo.2.1 126 = .ok (.if_icmp .ne 20, 3) := by decide +kernel
theorem dc_Mo_isSo_129 : decode M_Mo_isSo.2.1 129 = .ok (.iload 7, 2) := by decide +kernel
theorem dc_Mo_isSo_131 : decode M_Mo_isSo.2.1 131 = .ok (.ifCond .ne 7, 3) := by decide +kernel
theorem dc_Mo_isSo_134 : decode M_Mo_isSo.2.1 134 = .ok (.iload_n 2, 1) := by decide +kernel
theorem dc_Mo_isSo_135 : decode M_Mo_isSo.2.1 135 = .ok (.ifCond .ne 7, 3) := by decide +kernel
theorem dc_Mo_isSo_138 : decode M_Mo_isSo.2.1 138 = .ok (.iconst 1, 1) := by decide +kernel
theorem dc_Mo_isSo_139 : decode M_Mo_isSo.2.1 139 = .ok (.goto 38, 3) := by decide +kernel
theorem dc_Mo_isSo_142 : decode M_Mo_isSo.2.1 142 = .ok (.iconst 0, 1) := by decide +kernel
theorem dc_Mo_isSo_143 : decode M_Mo_isSo.2.1 143 = .ok (.goto 34, 3) := by decide +kernel
theorem dc_Mo_isSo_146 : decode M_Mo_isSo.2.1 146 = .ok (.bipush 7, 2) := by decide +kernel
theorem dc_Mo_isSo_148 : decode M_Mo_isSo.2.1 148 = .ok (.iload_n 2, 1) := by decide +kernel
theorem dc_Mo_isSo_149 : decode M_Mo_isSo.2.1 149 = .ok (.imul, 1) := by decide +kernel
theorem dc_Mo_isSo_150 : decode M_Mo_isSo.2.1 150 = .ok (.iconst 5, 1) := by decide +kernel
theorem dc_Mo_isSo_151 : decode M_Mo_isSo.2.1 151 = .ok (.iload_n 3, 1) := by decide +kernel
theorem dc_Mo_isSo_152 : decode M_Mo_isSo.2.1 152 = .ok (.imul, 1) := by decide +kernel
theorem dc_Mo_isSo_153 : decode M_Mo_isSo.2.1 153 = .ok (.iadd, 1) := by decide +kernel
theorem dc_Mo_isSo_154 : decode M_Mo_isSo.2.1 154 = .ok (.iload 5, 2) := by decide +kernel
theorem dc_Mo_isSo_156 : decode M_Mo_isSo.2.1 156 = .ok (.iadd, 1) := by decide +kernel
theorem dc_Mo_isSo_157 : decode M_Mo_isSo.2.1 157 = .ok (.iconst 3, 1) := by decide +kernel
theorem dc_Mo_isSo_158 : decode M_Mo_isSo.2.1 158 = .ok (.irem, 1) := by decide +kernel
theorem dc_Mo_isSo_159 : decode M_Mo_isSo.2.1 159 = .ok (.ifCond .ne 7, 3) := by decide +kernel
theorem dc_Mo_isSo_162 : decode M_Mo_isSo.2.1 162 = .ok (.iconst 1, 1) := by decide +kernel
theorem dc_Mo_isSo_163 : decode M_Mo_isSo.2.1 163 = .ok (.goto 4, 3) := by decide +kernel
theorem dc_Mo_isSo_166 : decode M_Mo_isSo.2.1 166 = .ok (.iconst 0, 1) := by decide +kernel
theorem dc_Mo_isSo_167 : decode M_Mo_isSo.2.1 167 = .ok (.iload 7, 2) := by decide +kernel
theorem dc_Mo_isSo_169 : decode M_Mo_isSo.2.1 169 = .ok (.if_icmp .eq 7, 3) := by decide +kernel
theorem dc_Mo_isSo_172 : decode M_Mo_isSo.2.1 172 = .ok (.iconst 1, 1) := by decide +kernel
theorem dc_Mo_isSo_173 : decode M_Mo_isSo.2.1 173 = .ok (.goto 4, 3) := by decide +kernel
theorem dc_Mo_isSo_176 : decode M_Mo_isSo.2.1 176 = .ok (.iconst 0, 1) := by decide +kernel
theorem dc_Mo_isSo_177 : decode M_Mo_isSo.2.1 177 = .ok (.ireturn, 1) := by decide +kernel
def f_Mo_isSo (a0 : Nat) (a1 : Int32) (a2 : Int32) (a3 : Int32) (h : xH) : Option (Int32 × xH) := gd (hK h a0 = 11) (gd (hK h (hR h a0 10) = 12) (gd (¬ (a1 < 0 ∨ hL h (hR h a0 10) ≤ a1.toNatClampNeg)) (gd (hK h (hR h a0 11) = 12) (gd (¬ (a1 < 0 ∨ hL h (hR h a0 11) ≤ a1.toNatClampNeg)) (jn (fun (x15 : Int32) => if (hI h (hR h a0 10) a1.toNatClampNeg) = 0 then some ((0 : Int32), h) else if (hI h (hR h a0 10) a1.toNatClampNeg) = (1 : Int32) then some (nb (if (jRem (a2 + a3) (2 : Int32)) = (1 : Int32) then (1 : Int32) else (0 : Int32)), h) else if (hI h (hR h a0 10) a1.toNatClampNeg) = (3 : Int32) then jn (fun (x31 : Int32) => some (nb x31, h)) (fun k32 => jn (fun (x33 : Unit) => k32 (1 : Int32)) (fun k34 => if (if (jRem (a2 + a3) (2 : Int32)) = (1 : Int32) then (1 : Int32) else (0 : Int32)) = 0 then gd (¬ ((hI h (hR h a0 11) a1.toNatClampNeg) + (2 : Int32)) = 0) (gd (¬ ((hI h (hR h a0 11) a1.toNatClampNeg) + (2 : Int32)) = 0) (if (jRem a2 ((hI h (hR h a0 11) a1.toNatClampNeg) + (2 : Int32))) = (jRem a3 ((hI h (hR h a0 11) a1.toNatClampNeg) + (2 : Int32))) then k32 (0 : Int32) else k34 ())) else k34 ())) else if (hI h (hR h a0 10) a1.toNatClampNeg) = (2 : Int32) then some (nb x15, h) else jn (fun (x21 : Int32) => some (nb x21, h)) (fun k22 => if (hI h (hR h a0 10) a1.toNatClampNeg) = (4 : Int32) then jn (fun (x27 : Unit) => k22 (1 : Int32)) (fun k28 => if x15 = 0 then if a2 = 0 then k28 () else k22 (0 : Int32) else k28 ()) else if (if (jRem ((((7 : Int32) * a2) + ((5 : Int32) * a3)) + (hI h (hR h a0 11) a1.toNatClampNeg)) (3 : Int32)) = 0 then (1 : Int32) else (0 : Int32)) = x15 then k22 (0 : Int32) else k22 (1 : Int32))) (fun k16 => jn (fun (x39 : Unit) => k16 (1 : Int32)) (fun k40 => if (a3 - a2) = (1 : Int32) then k40 () else if (a3 - a2) = ((hI h a0 7) - (1 : Int32)) then k40 () else if (a3 - a2) = (hI h (hR h a0 11) a1.toNatClampNeg) then k40 () else k16 (0 : Int32))))))))
theorem t_Mo_isSo {l : Launch} {z : xZ} {d mc ms : Nat} {Ph : Option xV → xH → Prop} {a0 : Nat} {a1 : Int32} {a2 : Int32} {a3 : Int32}  {h : xH} (hd : 1 ≤ d) (hk : OK (f_Mo_isSo a0 a1 a2 a3 h) (fun q => Ph (some (xI q.1)) q.2)) : Sx l z d mc ms M_Mo_isSo 0 (x_en [xR a0, xI a1, xI a2, xI a3] 8) [] h Ph := by
  unfold f_Mo_isSo at hk
  refine sx_eq (lc2 := [some (xR a0), some (xI a1), some (xI a2), some (xI a3), none, none, none, none]) rfl rfl ?_
  refine sx_aload_n dc_Mo_isSo_0 rfl ?_
  obtain ⟨g8, hk⟩ := hk.g
  refine sx_get (ci := 11) (k := 10) rfl (by decide) wF_Mo_29 g8 dc_Mo_isSo_1 ?_
  refine sx_iload_n dc_Mo_isSo_4 rfl ?_
  obtain ⟨g9, hk⟩ := hk.g
  obtain ⟨g10, hk⟩ := hk.g
  refine sx_iald g9 g10 dc_Mo_isSo_5 ?_
  refine sx_istore dc_Mo_isSo_6 (by decide) (sx_eq (lc2 := [some (xR a0), some (xI a1), some (xI a2), some (xI a3), some (xI (hI h (hR h a0 10) a1.toNatClampNeg)), none, none, none]) rfl rfl ?_)
  refine sx_aload_n dc_Mo_isSo_8 rfl ?_
  refine sx_get (ci := 11) (k := 11) rfl (by decide) wF_Mo_32 g8 dc_Mo_isSo_9 ?_
  refine sx_iload_n dc_Mo_isSo_12 rfl ?_
  obtain ⟨g11, hk⟩ := hk.g
  obtain ⟨g12, hk⟩ := hk.g
  refine sx_iald g11 g12 dc_Mo_isSo_13 ?_
  refine sx_istore dc_Mo_isSo_14 (by decide) (sx_eq (lc2 := [some (xR a0), some (xI a1), some (xI a2), some (xI a3), some (xI (hI h (hR h a0 10) a1.toNatClampNeg)), some (xI (hI h (hR h a0 11) a1.toNatClampNeg)), none, none]) rfl rfl ?_)
  refine sx_iload_n dc_Mo_isSo_16 rfl ?_
  refine sx_iload_n dc_Mo_isSo_17 rfl ?_
  refine sx_iadd dc_Mo_isSo_18 ?_
  refine sx_iconst (v := (2 : Int32)) dc_Mo_isSo_19 (by decide) ?_
  refine sx_irem dc_Mo_isSo_20 (by decide) ?_
  refine sx_iconst (v := (1 : Int32)) dc_Mo_isSo_21 (by decide) ?_
  refine sx_mg (pc2 := 30) (lc2 := [some (xR a0), some (xI a1), some (xI a2), some (xI a3), some (xI (hI h (hR h a0 10) a1.toNatClampNeg)), some (xI (hI h (hR h a0 11) a1.toNatClampNeg)), none, none]) (st2 := [xI (if (jRem (a2 + a3) (2 : Int32)) = (1 : Int32) then (1 : Int32) else (0 : Int32))]) (h2 := h) ?_ (fun J13 => ?_)
  · refine sx_istore dc_Mo_isSo_30 (by decide) (sx_eq (lc2 := [some (xR a0), some (xI a1), some (xI a2), some (xI a3), some (xI (hI h (hR h a0 10) a1.toNatClampNeg)), some (xI (hI h (hR h a0 11) a1.toNatClampNeg)), some (xI (if (jRem (a2 + a3) (2 : Int32)) = (1 : Int32) then (1 : Int32) else (0 : Int32))), none]) rfl rfl ?_)
    refine sx_iload_n dc_Mo_isSo_32 rfl ?_
    refine sx_iload_n dc_Mo_isSo_33 rfl ?_
    refine sx_isub dc_Mo_isSo_34 ?_
    refine sx_iconst (v := (1 : Int32)) dc_Mo_isSo_35 (by decide) ?_
    refine hk.j (X := fun x15 => Sx l z d mc ms M_Mo_isSo 64 [some (xR a0), some (xI a1), some (xI a2), some (xI a3), some (xI (hI h (hR h a0 10) a1.toNatClampNeg)), some (xI (hI h (hR h a0 11) a1.toNatClampNeg)), some (xI (if (jRem (a2 + a3) (2 : Int32)) = (1 : Int32) then (1 : Int32) else (0 : Int32))), none] [xI x15] h Ph) (fun x15 hk => ?_) (fun k16 jk16 hk => ?_)
    · refine sx_istore dc_Mo_isSo_64 (by decide) (sx_eq (lc2 := [some (xR a0), some (xI a1), some (xI a2), some (xI a3), some (xI (hI h (hR h a0 10) a1.toNatClampNeg)), some (xI (hI h (hR h a0 11) a1.toNatClampNeg)), some (xI (if (jRem (a2 + a3) (2 : Int32)) = (1 : Int32) then (1 : Int32) else (0 : Int32))), some (xI x15)]) rfl rfl ?_)
      refine sx_iload dc_Mo_isSo_66 rfl ?_
      refine sx_if_ne (tgt := 73) dc_Mo_isSo_68 (by decide) (fun c17 => ?_) (fun c17 => ?_)
      · replace hk := hk.f c17
        refine sx_iload dc_Mo_isSo_73 rfl ?_
        refine sx_iconst (v := (1 : Int32)) dc_Mo_isSo_75 (by decide) ?_
        refine sx_icmp_ne (tgt := 82) dc_Mo_isSo_76 (by decide) (fun c18 => ?_) (fun c18 => ?_)
        · replace hk := hk.f c18
          refine sx_iload dc_Mo_isSo_82 rfl ?_
          refine sx_iconst (v := (3 : Int32)) dc_Mo_isSo_84 (by decide) ?_
          refine sx_icmp_ne (tgt := 114) dc_Mo_isSo_85 (by decide) (fun c19 => ?_) (fun c19 => ?_)
          · replace hk := hk.f c19
            refine sx_iload dc_Mo_isSo_114 rfl ?_
            refine sx_iconst (v := (2 : Int32)) dc_Mo_isSo_116 (by decide) ?_
            refine sx_icmp_ne (tgt := 123) dc_Mo_isSo_117 (by decide) (fun c20 => ?_) (fun c20 => ?_)
            · replace hk := hk.f c20
              refine sx_iload dc_Mo_isSo_123 rfl ?_
              refine sx_iconst (v := (4 : Int32)) dc_Mo_isSo_125 (by decide) ?_
              refine hk.j (X := fun x21 => Sx l z d mc ms M_Mo_isSo 177 [some (xR a0), some (xI a1), some (xI a2), some (xI a3), some (xI (hI h (hR h a0 10) a1.toNatClampNeg)), some (xI (hI h (hR h a0 11) a1.toNatClampNeg)), some (xI (if (jRem (a2 + a3) (2 : Int32)) = (1 : Int32) then (1 : Int32) else (0 : Int32))), some (xI x15)] [xI x21] h Ph) (fun x21 hk => ?_) (fun k22 jk22 hk => ?_)
              · exact sx_retT dc_Mo_isSo_177 (Or.inl ⟨rfl, rfl⟩) rfl hk.val
              · refine sx_icmp_ne (tgt := 146) dc_Mo_isSo_126 (by decide) (fun c23 => ?_) (fun c23 => ?_)
                · replace hk := hk.f c23
                  refine sx_bipush (v := (7 : Int32)) dc_Mo_isSo_146 (by decide) ?_
                  refine sx_iload_n dc_Mo_isSo_148 rfl ?_
                  refine sx_imul dc_Mo_isSo_149 ?_
                  refine sx_iconst (v := (5 : Int32)) dc_Mo_isSo_150 (by decide) ?_
                  refine sx_iload_n dc_Mo_isSo_151 rfl ?_
                  refine sx_imul dc_Mo_isSo_152 ?_
                  refine sx_iadd dc_Mo_isSo_153 ?_
                  refine sx_iload dc_Mo_isSo_154 rfl ?_
                  refine sx_iadd dc_Mo_isSo_156 ?_
                  refine sx_iconst (v := (3 : Int32)) dc_Mo_isSo_157 (by decide) ?_
                  refine sx_irem dc_Mo_isSo_158 (by decide) ?_
                  refine sx_mg (pc2 := 167) (lc2 := [some (xR a0), some (xI a1), some (xI a2), some (xI a3), some (xI (hI h (hR h a0 10) a1.toNatClampNeg)), some (xI (hI h (hR h a0 11) a1.toNatClampNeg)), some (xI (if (jRem (a2 + a3) (2 : Int32)) = (1 : Int32) then (1 : Int32) else (0 : Int32))), some (xI x15)]) (st2 := [xI (if (jRem ((((7 : Int32) * a2) + ((5 : Int32) * a3)) + (hI h (hR h a0 11) a1.toNatClampNeg)) (3 : Int32)) = 0 then (1 : Int32) else (0 : Int32))]) (h2 := h) ?_ (fun J24 => ?_)
                  · refine sx_iload dc_Mo_isSo_167 rfl ?_
                    refine sx_icmp_eq (tgt := 176) dc_Mo_isSo_169 (by decide) (fun c26 => ?_) (fun c26 => ?_)
                    · replace hk := hk.t c26
                      refine sx_iconst (v := (0 : Int32)) dc_Mo_isSo_176 (by decide) ?_
                      exact jk22 (0 : Int32) hk
                    · replace hk := hk.f c26
                      refine sx_iconst (v := (1 : Int32)) dc_Mo_isSo_172 (by decide) ?_
                      refine sx_goto (tgt := 177) dc_Mo_isSo_173 (by decide) ?_
                      exact jk22 (1 : Int32) hk
                  · refine sx_if_ne (tgt := 166) dc_Mo_isSo_159 (by decide) (fun c25 => ?_) (fun c25 => ?_)
                    · try simp only [if_neg c25] at J24
                      refine sx_iconst (v := (0 : Int32)) dc_Mo_isSo_166 (by decide) ?_
                      exact J24
                    · try simp only [if_pos c25] at J24
                      refine sx_iconst (v := (1 : Int32)) dc_Mo_isSo_162 (by decide) ?_
                      refine sx_goto (tgt := 167) dc_Mo_isSo_163 (by decide) ?_
                      exact J24
                · replace hk := hk.t c23
                  refine sx_iload dc_Mo_isSo_129 rfl ?_
                  refine hk.j (X := fun x27 => Sx l z d mc ms M_Mo_isSo 138 [some (xR a0), some (xI a1), some (xI a2), some (xI a3), some (xI (hI h (hR h a0 10) a1.toNatClampNeg)), some (xI (hI h (hR h a0 11) a1.toNatClampNeg)), some (xI (if (jRem (a2 + a3) (2 : Int32)) = (1 : Int32) then (1 : Int32) else (0 : Int32))), some (xI x15)] [] h Ph) (fun x27 hk => ?_) (fun k28 jk28 hk => ?_)
                  · refine sx_iconst (v := (1 : Int32)) dc_Mo_isSo_138 (by decide) ?_
                    refine sx_goto (tgt := 177) dc_Mo_isSo_139 (by decide) ?_
                    exact jk22 (1 : Int32) hk
                  · refine sx_if_ne (tgt := 138) dc_Mo_isSo_131 (by decide) (fun c29 => ?_) (fun c29 => ?_)
                    · replace hk := hk.f c29
                      exact jk28 () hk
                    · replace hk := hk.t c29
                      refine sx_iload_n dc_Mo_isSo_134 rfl ?_
                      refine sx_if_ne (tgt := 142) dc_Mo_isSo_135 (by decide) (fun c30 => ?_) (fun c30 => ?_)
                      · replace hk := hk.f c30
                        refine sx_iconst (v := (0 : Int32)) dc_Mo_isSo_142 (by decide) ?_
                        refine sx_goto (tgt := 177) dc_Mo_isSo_143 (by decide) ?_
                        exact jk22 (0 : Int32) hk
                      · replace hk := hk.t c30
                        exact jk28 () hk
            · replace hk := hk.t c20
              refine sx_iload dc_Mo_isSo_120 rfl ?_
              exact sx_retT dc_Mo_isSo_122 (Or.inl ⟨rfl, rfl⟩) rfl hk.val
          · replace hk := hk.t c19
            refine sx_iload dc_Mo_isSo_88 rfl ?_
            refine hk.j (X := fun x31 => Sx l z d mc ms M_Mo_isSo 113 [some (xR a0), some (xI a1), some (xI a2), some (xI a3), some (xI (hI h (hR h a0 10) a1.toNatClampNeg)), some (xI (hI h (hR h a0 11) a1.toNatClampNeg)), some (xI (if (jRem (a2 + a3) (2 : Int32)) = (1 : Int32) then (1 : Int32) else (0 : Int32))), some (xI x15)] [xI x31] h Ph) (fun x31 hk => ?_) (fun k32 jk32 hk => ?_)
            · exact sx_retT dc_Mo_isSo_113 (Or.inl ⟨rfl, rfl⟩) rfl hk.val
            · refine hk.j (X := fun x33 => Sx l z d mc ms M_Mo_isSo 108 [some (xR a0), some (xI a1), some (xI a2), some (xI a3), some (xI (hI h (hR h a0 10) a1.toNatClampNeg)), some (xI (hI h (hR h a0 11) a1.toNatClampNeg)), some (xI (if (jRem (a2 + a3) (2 : Int32)) = (1 : Int32) then (1 : Int32) else (0 : Int32))), some (xI x15)] [] h Ph) (fun x33 hk => ?_) (fun k34 jk34 hk => ?_)
              · refine sx_iconst (v := (1 : Int32)) dc_Mo_isSo_108 (by decide) ?_
                refine sx_goto (tgt := 113) dc_Mo_isSo_109 (by decide) ?_
                exact jk32 (1 : Int32) hk
              · refine sx_if_ne (tgt := 108) dc_Mo_isSo_90 (by decide) (fun c35 => ?_) (fun c35 => ?_)
                · replace hk := hk.f c35
                  exact jk34 () hk
                · replace hk := hk.t c35
                  refine sx_iload_n dc_Mo_isSo_93 rfl ?_
                  refine sx_iload dc_Mo_isSo_94 rfl ?_
                  refine sx_iconst (v := (2 : Int32)) dc_Mo_isSo_96 (by decide) ?_
                  refine sx_iadd dc_Mo_isSo_97 ?_
                  obtain ⟨g36, hk⟩ := hk.g
                  refine sx_irem dc_Mo_isSo_98 g36 ?_
                  refine sx_iload_n dc_Mo_isSo_99 rfl ?_
                  refine sx_iload dc_Mo_isSo_100 rfl ?_
                  refine sx_iconst (v := (2 : Int32)) dc_Mo_isSo_102 (by decide) ?_
                  refine sx_iadd dc_Mo_isSo_103 ?_
                  obtain ⟨g37, hk⟩ := hk.g
                  refine sx_irem dc_Mo_isSo_104 g37 ?_
                  refine sx_icmp_eq (tgt := 112) dc_Mo_isSo_105 (by decide) (fun c38 => ?_) (fun c38 => ?_)
                  · replace hk := hk.t c38
                    refine sx_iconst (v := (0 : Int32)) dc_Mo_isSo_112 (by decide) ?_
                    exact jk32 (0 : Int32) hk
                  · replace hk := hk.f c38
                    exact jk34 () hk
        · replace hk := hk.t c18
          refine sx_iload dc_Mo_isSo_79 rfl ?_
          exact sx_retT dc_Mo_isSo_81 (Or.inl ⟨rfl, rfl⟩) rfl hk.val
      · replace hk := hk.t c17
        refine sx_iconst (v := (0 : Int32)) dc_Mo_isSo_71 (by decide) ?_
        exact sx_retT (v := (0 : Int32)) dc_Mo_isSo_72 (Or.inl ⟨rfl, rfl⟩) (by decide) hk.val
    · refine hk.j (X := fun x39 => Sx l z d mc ms M_Mo_isSo 59 [some (xR a0), some (xI a1), some (xI a2), some (xI a3), some (xI (hI h (hR h a0 10) a1.toNatClampNeg)), some (xI (hI h (hR h a0 11) a1.toNatClampNeg)), some (xI (if (jRem (a2 + a3) (2 : Int32)) = (1 : Int32) then (1 : Int32) else (0 : Int32))), none] [] h Ph) (fun x39 hk => ?_) (fun k40 jk40 hk => ?_)
      · refine sx_iconst (v := (1 : Int32)) dc_Mo_isSo_59 (by decide) ?_
        refine sx_goto (tgt := 64) dc_Mo_isSo_60 (by decide) ?_
        exact jk16 (1 : Int32) hk
      · refine sx_icmp_eq (tgt := 59) dc_Mo_isSo_36 (by decide) (fun c41 => ?_) (fun c41 => ?_)
        · replace hk := hk.t c41
          exact jk40 () hk
        · replace hk := hk.f c41
          refine sx_iload_n dc_Mo_isSo_39 rfl ?_
          refine sx_iload_n dc_Mo_isSo_40 rfl ?_
          refine sx_isub dc_Mo_isSo_41 ?_
          refine sx_aload_n dc_Mo_isSo_42 rfl ?_
          refine sx_get (ci := 11) (k := 7) rfl (by decide) wF_Mo_23 g8 dc_Mo_isSo_43 ?_
          refine sx_iconst (v := (1 : Int32)) dc_Mo_isSo_46 (by decide) ?_
          refine sx_isub dc_Mo_isSo_47 ?_
          refine sx_icmp_eq (tgt := 59) dc_Mo_isSo_48 (by decide) (fun c42 => ?_) (fun c42 => ?_)
          · replace hk := hk.t c42
            exact jk40 () hk
          · replace hk := hk.f c42
            refine sx_iload_n dc_Mo_isSo_51 rfl ?_
            refine sx_iload_n dc_Mo_isSo_52 rfl ?_
            refine sx_isub dc_Mo_isSo_53 ?_
            refine sx_iload dc_Mo_isSo_54 rfl ?_
            refine sx_icmp_ne (tgt := 63) dc_Mo_isSo_56 (by decide) (fun c43 => ?_) (fun c43 => ?_)
            · replace hk := hk.f c43
              refine sx_iconst (v := (0 : Int32)) dc_Mo_isSo_63 (by decide) ?_
              exact jk16 (0 : Int32) hk
            · replace hk := hk.t c43
              exact jk40 () hk
  · refine sx_icmp_ne (tgt := 29) dc_Mo_isSo_22 (by decide) (fun c14 => ?_) (fun c14 => ?_)
    · try simp only [if_neg c14] at J13
      refine sx_iconst (v := (0 : Int32)) dc_Mo_isSo_29 (by decide) ?_
      exact J13
    · try simp only [if_pos c14] at J13
      refine sx_iconst (v := (1 : Int32)) dc_Mo_isSo_25 (by decide) ?_
      refine sx_goto (tgt := 30) dc_Mo_isSo_26 (by decide) ?_
      exact J13
theorem dc_Mo_price_0 : decode M_Mo_price.2.1 0 = .ok (.aload_n 0, 1) := by decide +kernel
theorem dc_Mo_price_1 : decode M_Mo_price.2.1 1 = .ok (.getfield 29, 3) := by decide +kernel
theorem dc_Mo_price_4 : decode M_Mo_price.2.1 4 = .ok (.iload_n 1, 1) := by decide +kernel
theorem dc_Mo_price_5 : decode M_Mo_price.2.1 5 = .ok (.iaload, 1) := by decide +kernel
theorem dc_Mo_price_6 : decode M_Mo_price.2.1 6 = .ok (.istore 4, 2) := by decide +kernel
theorem dc_Mo_price_8 : decode M_Mo_price.2.1 8 = .ok (.aload_n 0, 1) := by decide +kernel
theorem dc_Mo_price_9 : decode M_Mo_price.2.1 9 = .ok (.getfield 32, 3) := by decide +kernel
theorem dc_Mo_price_12 : decode M_Mo_price.2.1 12 = .ok (.iload_n 1, 1) := by decide +kernel
theorem dc_Mo_price_13 : decode M_Mo_price.2.1 13 = .ok (.iaload, 1) := by decide +kernel
theorem dc_Mo_price_14 : decode M_Mo_price.2.1 14 = .ok (.istore 5, 2) := by decide +kernel
theorem dc_Mo_price_16 : decode M_Mo_price.2.1 16 = .ok (.iload 4, 2) := by decide +kernel
theorem dc_Mo_price_18 : decode M_Mo_price.2.1 18 = .ok (.ifCond .ne 5, 3) := by decide +kernel
theorem dc_Mo_price_21 : decode M_Mo_price.2.1 21 = .ok (.iconst 1, 1) := by decide +kernel
theorem dc_Mo_price_22 : decode M_Mo_price.2.1 22 = .ok (.ireturn, 1) := by decide +kernel
theorem dc_Mo_price_23 : decode M_Mo_price.2.1 23 = .ok (.iload 4, 2) := by decide +kernel
theorem dc_Mo_price_25 : decode M_Mo_price.2.1 25 = .ok (.iconst 1, 1) := by decide +kernel
theorem dc_Mo_price_26 : decode M_Mo_price.2.1 26 = .ok (.if_icmp .eq 9, 3) := by decide +kernel
theorem dc_Mo_price_29 : decode M_Mo_price.2.1 29 = .ok (.iload 4, 2) := by decide +kernel
theorem dc_Mo_price_31 : decode M_Mo_price.2.1 31 = .ok (.iconst 3, 1) := by decide +kernel
theorem dc_Mo_price_32 : decode M_Mo_price.2.1 32 = .ok (.if_icmp .ne 19, 3) := by decide +kernel
theorem dc_Mo_price_35 : decode M_Mo_price.2.1 35 = .ok (.iconst 1, 1) := by decide +kernel
theorem dc_Mo_price_36 : decode M_Mo_price.2.1 36 = .ok (.iload_n 2, 1) := by decide +kernel
theorem dc_Mo_price_37 : decode M_Mo_price.2.1 37 = .ok (.iadd, 1) := by decide +kernel
theorem dc_Mo_price_38 : decode M_Mo_price.2.1 38 = .ok (.iload 4, 2) := by decide +kernel
theorem dc_Mo_price_40 : decode M_Mo_price.2.1 40 = .ok (.iconst 3, 1) := by decide +kernel
theorem dc_Mo_price_41 : decode M_Mo_price.2.1 41 = .ok (.if_icmp .ne 7, 3) := by decide +kernel
theorem dc_Mo_price_44 : decode M_Mo_price.2.1 44 = .ok (.iconst 2, 1) := by decide +kernel
theorem dc_Mo_price_45 : decode M_Mo_price.2.1 45 = .ok (.goto 4, 3) := by decide +kernel
theorem dc_Mo_price_48 : decode M_Mo_price.2.1 48 = .ok (.iconst 1, 1) := by decide +kernel
theorem dc_Mo_price_49 : decode M_Mo_price.2.1 49 = .ok (.imul, 1) := by decide +kernel
theorem dc_Mo_price_50 : decode M_Mo_price.2.1 50 = .ok (.ireturn, 1) := by decide +kernel
theorem dc_Mo_price_51 : decode M_Mo_price.2.1 51 = .ok (.iconst 1, 1) := by decide +kernel
theorem dc_Mo_price_52 : decode M_Mo_price.2.1 52 = .ok (.iload 5, 2) := by decide +kernel
theorem dc_Mo_price_54 : decode M_Mo_price.2.1 54 = .ok (.iadd, 1) := by decide +kernel
theorem dc_Mo_price_55 : decode M_Mo_price.2.1 55 = .ok (.iload 4, 2) := by decide +kernel
theorem dc_Mo_price_57 : decode M_Mo_price.2.1 57 = .ok (.iconst 4, 1) := by decide +kernel
theorem dc_Mo_price_58 : decode M_Mo_price.2.1 58 = .ok (.if_icmp .ne 7, 3) := by decide +kernel
theorem dc_Mo_price_61 : decode M_Mo_price.2.1 61 = .ok (.iload_n 3, 1) := by decide +kernel
theorem dc_Mo_price_62 : decode M_Mo_price.2.1 62 = .ok (.goto 4, 3) := by decide +kernel
theorem dc_Mo_price_65 : decode M_Mo_price.2.1 65 = .ok (.iconst 0, 1) := by decide +kernel
theorem dc_Mo_price_66 : decode M_Mo_price.2.1 66 = .ok (.isub, 1) := by decide +kernel
theorem dc_Mo_price_67 : decode M_Mo_price.2.1 67 = .ok (.iload 4, 2) := by decide +kernel
theorem dc_Mo_price_69 : decode M_Mo_price.2.1 69 = .ok (.iconst 5, 1) := by decide +kernel
theorem dc_Mo_price_70 : decode M_Mo_price.2.1 70 = .ok (.if_icmp .ne 12, 3) := by decide +kernel
theorem dc_Mo_price_73 : decode M_Mo_price.2.1 73 = .ok (.iload_n 2, 1) := by decide +kernel
theorem dc_Mo_price_74 : decode M_Mo_price.2.1 74 = .ok (.iconst 1, 1) := by decide +kernel
theorem dc_Mo_price_75 : decode M_Mo_price.2.1 75 = .ok (.if_icmp .ne 7, 3) := by decide +kernel
theorem dc_Mo_price_78 : decode M_Mo_price.2.1 78 = .ok (.iconst 3, 1) := by decide +kernel
theorem dc_Mo_price_79 : decode M_Mo_price.2.1 79 = .ok (.goto 4, 3) := by decide +kernel
theorem dc_Mo_price_82 : decode M_Mo_price.2.1 82 = .ok (.iconst 0, 1) := by decide +kernel
theorem dc_Mo_price_83 : decode M_Mo_price.2.1 83 = .ok (.iadd, 1) := by decide +kernel
theorem dc_Mo_price_84 : decode M_Mo_price.2.1 84 = .ok (.istore 6, 2) := by decide +kernel
theorem dc_Mo_price_86 : decode M_Mo_price.2.1 86 = .ok (.iload 6, 2) := by decide +kernel
theorem dc_Mo_price_88 : decode M_Mo_price.2.1 88 = .ok (.ifCond .ge 7, 3) := by decide +kernel
theorem dc_Mo_price_91 : decode M_Mo_price.2.1 91 = .ok (.iconst 0, 1) := by decide +kernel
theorem dc_Mo_price_92 : decode M_Mo_price.2.1 92 = .ok (.goto 5, 3) := by decide +kernel
theorem dc_Mo_price_95 : decode M_Mo_price.2.1 95 = .ok (.iload 6, 2) := by decide +kernel
theorem dc_Mo_price_97 : decode M_Mo_price.2.1 97 = .ok (.ireturn, 1) := by decide +kernel
def f_Mo_price (a0 : Nat) (a1 : Int32) (a2 : Int32) (a3 : Int32) (h : xH) : Option (Int32 × xH) := gd (hK h a0 = 11) (gd (hK h (hR h a0 10) = 12) (gd (¬ (a1 < 0 ∨ hL h (hR h a0 10) ≤ a1.toNatClampNeg)) (gd (hK h (hR h a0 11) = 12) (gd (¬ (a1 < 0 ∨ hL h (hR h a0 11) ≤ a1.toNatClampNeg)) (if (hI h (hR h a0 10) a1.toNatClampNeg) = 0 then some ((1 : Int32), h) else jn (fun (x12 : Unit) => some (((1 : Int32) + a2) * (if (hI h (hR h a0 10) a1.toNatClampNeg) = (3 : Int32) then (2 : Int32) else (1 : Int32)), h)) (fun k13 => if (hI h (hR h a0 10) a1.toNatClampNeg) = (1 : Int32) then k13 () else if (hI h (hR h a0 10) a1.toNatClampNeg) = (3 : Int32) then k13 () else jn (fun (x20 : Int32) => some ((if 0 ≤ ((((1 : Int32) + (hI h (hR h a0 11) a1.toNatClampNeg)) - (if (hI h (hR h a0 10) a1.toNatClampNeg) = (4 : Int32) then a3 else (0 : Int32))) + x20) then (((1 : Int32) + (hI h (hR h a0 11) a1.toNatClampNeg)) - (if (hI h (hR h a0 10) a1.toNatClampNeg) = (4 : Int32) then a3 else (0 : Int32))) + x20 else (0 : Int32)), h)) (fun k21 => jn (fun (x24 : Unit) => k21 (0 : Int32)) (fun k25 => if (hI h (hR h a0 10) a1.toNatClampNeg) = (5 : Int32) then if a2 = (1 : Int32) then k21 (3 : Int32) else k25 () else k25 ()))))))))
theorem t_Mo_price {l : Launch} {z : xZ} {d mc ms : Nat} {Ph : Option xV → xH → Prop} {a0 : Nat} {a1 : Int32} {a2 : Int32} {a3 : Int32}  {h : xH} (hd : 1 ≤ d) (hk : OK (f_Mo_price a0 a1 a2 a3 h) (fun q => Ph (some (xI q.1)) q.2)) : Sx l z d mc ms M_Mo_price 0 (x_en [xR a0, xI a1, xI a2, xI a3] 7) [] h Ph := by
  unfold f_Mo_price at hk
  refine sx_eq (lc2 := [some (xR a0), some (xI a1), some (xI a2), some (xI a3), none, none, none]) rfl rfl ?_
  refine sx_aload_n dc_Mo_price_0 rfl ?_
  obtain ⟨g6, hk⟩ := hk.g
  refine sx_get (ci := 11) (k := 10) rfl (by decide) wF_Mo_29 g6 dc_Mo_price_1 ?_
  refine sx_iload_n dc_Mo_price_4 rfl ?_
  obtain ⟨g7, hk⟩ := hk.g
  obtain ⟨g8, hk⟩ := hk.g
  refine sx_iald g7 g8 dc_Mo_price_5 ?_
  refine sx_istore dc_Mo_price_6 (by decide) (sx_eq (lc2 := [some (xR a0), some (xI a1), some (xI a2), some (xI a3), some (xI (hI h (hR h a0 10) a1.toNatClampNeg)), none, none]) rfl rfl ?_)
  refine sx_aload_n dc_Mo_price_8 rfl ?_
  refine sx_get (ci := 11) (k := 11) rfl (by decide) wF_Mo_32 g6 dc_Mo_price_9 ?_
  refine sx_iload_n dc_Mo_price_12 rfl ?_
  obtain ⟨g9, hk⟩ := hk.g
  obtain ⟨g10, hk⟩ := hk.g
  refine sx_iald g9 g10 dc_Mo_price_13 ?_
  refine sx_istore dc_Mo_price_14 (by decide) (sx_eq (lc2 := [some (xR a0), some (xI a1), some (xI a2), some (xI a3), some (xI (hI h (hR h a0 10) a1.toNatClampNeg)), some (xI (hI h (hR h a0 11) a1.toNatClampNeg)), none]) rfl rfl ?_)
  refine sx_iload dc_Mo_price_16 rfl ?_
  refine sx_if_ne (tgt := 23) dc_Mo_price_18 (by decide) (fun c11 => ?_) (fun c11 => ?_)
  · replace hk := hk.f c11
    refine sx_iload dc_Mo_price_23 rfl ?_
    refine sx_iconst (v := (1 : Int32)) dc_Mo_price_25 (by decide) ?_
    refine hk.j (X := fun x12 => Sx l z d mc ms M_Mo_price 35 [some (xR a0), some (xI a1), some (xI a2), some (xI a3), some (xI (hI h (hR h a0 10) a1.toNatClampNeg)), some (xI (hI h (hR h a0 11) a1.toNatClampNeg)), none] [] h Ph) (fun x12 hk => ?_) (fun k13 jk13 hk => ?_)
    · refine sx_iconst (v := (1 : Int32)) dc_Mo_price_35 (by decide) ?_
      refine sx_iload_n dc_Mo_price_36 rfl ?_
      refine sx_iadd dc_Mo_price_37 ?_
      refine sx_iload dc_Mo_price_38 rfl ?_
      refine sx_iconst (v := (3 : Int32)) dc_Mo_price_40 (by decide) ?_
      refine sx_mg (pc2 := 49) (lc2 := [some (xR a0), some (xI a1), some (xI a2), some (xI a3), some (xI (hI h (hR h a0 10) a1.toNatClampNeg)), some (xI (hI h (hR h a0 11) a1.toNatClampNeg)), none]) (st2 := [xI (if (hI h (hR h a0 10) a1.toNatClampNeg) = (3 : Int32) then (2 : Int32) else (1 : Int32)), xI ((1 : Int32) + a2)]) (h2 := h) ?_ (fun J14 => ?_)
      · refine sx_imul dc_Mo_price_49 ?_
        exact sx_retI dc_Mo_price_50 rfl hk.val
      · refine sx_icmp_ne (tgt := 48) dc_Mo_price_41 (by decide) (fun c15 => ?_) (fun c15 => ?_)
        · try simp only [if_neg c15] at J14
          refine sx_iconst (v := (1 : Int32)) dc_Mo_price_48 (by decide) ?_
          exact J14
        · try simp only [if_pos c15] at J14
          refine sx_iconst (v := (2 : Int32)) dc_Mo_price_44 (by decide) ?_
          refine sx_goto (tgt := 49) dc_Mo_price_45 (by decide) ?_
          exact J14
    · refine sx_icmp_eq (tgt := 35) dc_Mo_price_26 (by decide) (fun c16 => ?_) (fun c16 => ?_)
      · replace hk := hk.t c16
        exact jk13 () hk
      · replace hk := hk.f c16
        refine sx_iload dc_Mo_price_29 rfl ?_
        refine sx_iconst (v := (3 : Int32)) dc_Mo_price_31 (by decide) ?_
        refine sx_icmp_ne (tgt := 51) dc_Mo_price_32 (by decide) (fun c17 => ?_) (fun c17 => ?_)
        · replace hk := hk.f c17
          refine sx_iconst (v := (1 : Int32)) dc_Mo_price_51 (by decide) ?_
          refine sx_iload dc_Mo_price_52 rfl ?_
          refine sx_iadd dc_Mo_price_54 ?_
          refine sx_iload dc_Mo_price_55 rfl ?_
          refine sx_iconst (v := (4 : Int32)) dc_Mo_price_57 (by decide) ?_
          refine sx_mg (pc2 := 66) (lc2 := [some (xR a0), some (xI a1), some (xI a2), some (xI a3), some (xI (hI h (hR h a0 10) a1.toNatClampNeg)), some (xI (hI h (hR h a0 11) a1.toNatClampNeg)), none]) (st2 := [xI (if (hI h (hR h a0 10) a1.toNatClampNeg) = (4 : Int32) then a3 else (0 : Int32)), xI ((1 : Int32) + (hI h (hR h a0 11) a1.toNatClampNeg))]) (h2 := h) ?_ (fun J18 => ?_)
          · refine sx_isub dc_Mo_price_66 ?_
            refine sx_iload dc_Mo_price_67 rfl ?_
            refine sx_iconst (v := (5 : Int32)) dc_Mo_price_69 (by decide) ?_
            refine hk.j (X := fun x20 => Sx l z d mc ms M_Mo_price 83 [some (xR a0), some (xI a1), some (xI a2), some (xI a3), some (xI (hI h (hR h a0 10) a1.toNatClampNeg)), some (xI (hI h (hR h a0 11) a1.toNatClampNeg)), none] [xI x20, xI (((1 : Int32) + (hI h (hR h a0 11) a1.toNatClampNeg)) - (if (hI h (hR h a0 10) a1.toNatClampNeg) = (4 : Int32) then a3 else (0 : Int32)))] h Ph) (fun x20 hk => ?_) (fun k21 jk21 hk => ?_)
            · refine sx_iadd dc_Mo_price_83 ?_
              refine sx_istore dc_Mo_price_84 (by decide) (sx_eq (lc2 := [some (xR a0), some (xI a1), some (xI a2), some (xI a3), some (xI (hI h (hR h a0 10) a1.toNatClampNeg)), some (xI (hI h (hR h a0 11) a1.toNatClampNeg)), some (xI ((((1 : Int32) + (hI h (hR h a0 11) a1.toNatClampNeg)) - (if (hI h (hR h a0 10) a1.toNatClampNeg) = (4 : Int32) then a3 else (0 : Int32))) + x20))]) rfl rfl ?_)
              refine sx_iload dc_Mo_price_86 rfl ?_
              refine sx_mg (pc2 := 97) (lc2 := [some (xR a0), some (xI a1), some (xI a2), some (xI a3), some (xI (hI h (hR h a0 10) a1.toNatClampNeg)), some (xI (hI h (hR h a0 11) a1.toNatClampNeg)), some (xI ((((1 : Int32) + (hI h (hR h a0 11) a1.toNatClampNeg)) - (if (hI h (hR h a0 10) a1.toNatClampNeg) = (4 : Int32) then a3 else (0 : Int32))) + x20))]) (st2 := [xI (if 0 ≤ ((((1 : Int32) + (hI h (hR h a0 11) a1.toNatClampNeg)) - (if (hI h (hR h a0 10) a1.toNatClampNeg) = (4 : Int32) then a3 else (0 : Int32))) + x20) then (((1 : Int32) + (hI h (hR h a0 11) a1.toNatClampNeg)) - (if (hI h (hR h a0 10) a1.toNatClampNeg) = (4 : Int32) then a3 else (0 : Int32))) + x20 else (0 : Int32))]) (h2 := h) ?_ (fun J22 => ?_)
              · exact sx_retI dc_Mo_price_97 rfl hk.val
              · refine sx_if_ge (tgt := 95) dc_Mo_price_88 (by decide) (fun c23 => ?_) (fun c23 => ?_)
                · try simp only [if_pos c23] at J22
                  refine sx_iload dc_Mo_price_95 rfl ?_
                  exact J22
                · try simp only [if_neg c23] at J22
                  refine sx_iconst (v := (0 : Int32)) dc_Mo_price_91 (by decide) ?_
                  refine sx_goto (tgt := 97) dc_Mo_price_92 (by decide) ?_
                  exact J22
            · refine hk.j (X := fun x24 => Sx l z d mc ms M_Mo_price 82 [some (xR a0), some (xI a1), some (xI a2), some (xI a3), some (xI (hI h (hR h a0 10) a1.toNatClampNeg)), some (xI (hI h (hR h a0 11) a1.toNatClampNeg)), none] [xI (((1 : Int32) + (hI h (hR h a0 11) a1.toNatClampNeg)) - (if (hI h (hR h a0 10) a1.toNatClampNeg) = (4 : Int32) then a3 else (0 : Int32)))] h Ph) (fun x24 hk => ?_) (fun k25 jk25 hk => ?_)
              · refine sx_iconst (v := (0 : Int32)) dc_Mo_price_82 (by decide) ?_
                exact jk21 (0 : Int32) hk
              · refine sx_icmp_ne (tgt := 82) dc_Mo_price_70 (by decide) (fun c26 => ?_) (fun c26 => ?_)
                · replace hk := hk.f c26
                  exact jk25 () hk
                · replace hk := hk.t c26
                  refine sx_iload_n dc_Mo_price_73 rfl ?_
                  refine sx_iconst (v := (1 : Int32)) dc_Mo_price_74 (by decide) ?_
                  refine sx_icmp_ne (tgt := 82) dc_Mo_price_75 (by decide) (fun c27 => ?_) (fun c27 => ?_)
                  · replace hk := hk.f c27
                    exact jk25 () hk
                  · replace hk := hk.t c27
                    refine sx_iconst (v := (3 : Int32)) dc_Mo_price_78 (by decide) ?_
                    refine sx_goto (tgt := 83) dc_Mo_price_79 (by decide) ?_
                    exact jk21 (3 : Int32) hk
          · refine sx_icmp_ne (tgt := 65) dc_Mo_price_58 (by decide) (fun c19 => ?_) (fun c19 => ?_)
            · try simp only [if_neg c19] at J18
              refine sx_iconst (v := (0 : Int32)) dc_Mo_price_65 (by decide) ?_
              exact J18
            · try simp only [if_pos c19] at J18
              refine sx_iload_n dc_Mo_price_61 rfl ?_
              refine sx_goto (tgt := 66) dc_Mo_price_62 (by decide) ?_
              exact J18
        · replace hk := hk.t c17
          exact jk13 () hk
  · replace hk := hk.t c11
    refine sx_iconst (v := (1 : Int32)) dc_Mo_price_21 (by decide) ?_
    exact sx_retI dc_Mo_price_22 rfl hk.val
theorem dc_Mo_asIn_0 : decode M_Mo_asIn.2.1 0 = .ok (.aload_n 0, 1) := by decide +kernel
theorem dc_Mo_asIn_1 : decode M_Mo_asIn.2.1 1 = .ok (.iload_n 1, 1) := by decide +kernel
theorem dc_Mo_asIn_2 : decode M_Mo_asIn.2.1 2 = .ok (.invokevirtual 110, 3) := by decide +kernel
theorem dc_Mo_asIn_5 : decode M_Mo_asIn.2.1 5 = .ok (.ifCond .ne 6, 3) := by decide +kernel
theorem dc_Mo_asIn_8 : decode M_Mo_asIn.2.1 8 = .ok (.bipush (-2), 2) := by decide +kernel
theorem dc_Mo_asIn_10 : decode M_Mo_asIn.2.1 10 = .ok (.ireturn, 1) := by decide +kernel
theorem dc_Mo_asIn_11 : decode M_Mo_asIn.2.1 11 = .ok (.aload_n 0, 1) := by decide +kernel
theorem dc_Mo_asIn_12 : decode M_Mo_asIn.2.1 12 = .ok (.iconst 0, 1) := by decide +kernel
theorem dc_Mo_asIn_13 : decode M_Mo_asIn.2.1 13 = .ok (.putfield 77, 3) := by decide +kernel
theorem dc_Mo_asIn_16 : decode M_Mo_asIn.2.1 16 = .ok (.aload_n 0, 1) := by decide +kernel
theorem dc_Mo_asIn_17 : decode M_Mo_asIn.2.1 17 = .ok (.aload_n 0, 1) := by decide +kernel
theorem dc_Mo_asIn_18 : decode M_Mo_asIn.2.1 18 = .ok (.getfield 23, 3) := by decide +kernel
theorem dc_Mo_asIn_21 : decode M_Mo_asIn.2.1 21 = .ok (.invokestatic 90, 3) := by decide +kernel
theorem dc_Mo_asIn_24 : decode M_Mo_asIn.2.1 24 = .ok (.putfield 26, 3) := by decide +kernel
theorem dc_Mo_asIn_27 : decode M_Mo_asIn.2.1 27 = .ok (.iconst 1, 1) := by decide +kernel
theorem dc_Mo_asIn_28 : decode M_Mo_asIn.2.1 28 = .ok (.istore_n 2, 1) := by decide +kernel
theorem dc_Mo_asIn_29 : decode M_Mo_asIn.2.1 29 = .ok (.iload_n 2, 1) := by decide +kernel
theorem dc_Mo_asIn_30 : decode M_Mo_asIn.2.1 30 = .ok (.aload_n 0, 1) := by decide +kernel
theorem dc_Mo_asIn_31 : decode M_Mo_asIn.2.1 31 = .ok (.getfield 23, 3) := by decide +kernel
theorem dc_Mo_asIn_34 : decode M_Mo_asIn.2.1 34 = .ok (.if_icmp .ge 52, 3) := by decide +kernel
theorem dc_Mo_asIn_37 : decode M_Mo_asIn.2.1 37 = .ok (.iconst 0, 1) := by decide +kernel
theorem dc_Mo_asIn_38 : decode M_Mo_asIn.2.1 38 = .ok (.istore_n 3, 1) := by decide +kernel
theorem dc_Mo_asIn_39 : decode M_Mo_asIn.2.1 39 = .ok (.iload_n 3, 1) := by decide +kernel
theorem dc_Mo_asIn_40 : decode M_Mo_asIn.2.1 40 = .ok (.iload_n 2, 1) := by decide +kernel
theorem dc_Mo_asIn_41 : decode M_Mo_asIn.2.1 41 = .ok (.if_icmp .ge 39, 3) := by decide +kernel
theorem dc_Mo_asIn_44 : decode M_Mo_asIn.2.1 44 = .ok (.aload_n 0, 1) := by decide +kernel
theorem dc_Mo_asIn_45 : decode M_Mo_asIn.2.1 45 = .ok (.dup, 1) := by decide +kernel
theorem dc_Mo_asIn_46 : decode M_Mo_asIn.2.1 46 = .ok (.getfield 77, 3) := by decide +kernel
theorem dc_Mo_asIn_49 : decode M_Mo_asIn.2.1 49 = .ok (.aload_n 0, 1) := by decide +kernel
theorem dc_Mo_asIn_50 : decode M_Mo_asIn.2.1 50 = .ok (.iload_n 1, 1) := by decide +kernel
theorem dc_Mo_asIn_51 : decode M_Mo_asIn.2.1 51 = .ok (.iload_n 3, 1) := by decide +kernel
theorem dc_Mo_asIn_52 : decode M_Mo_asIn.2.1 52 = .ok (.iload_n 2, 1) := by decide +kernel
theorem dc_Mo_asIn_53 : decode M_Mo_asIn.2.1 53 = .ok (.invokevirtual 113, 3) := by decide +kernel
theorem dc_Mo_asIn_56 : decode M_Mo_asIn.2.1 56 = .ok (.ifCond .eq 7, 3) := by decide +kernel
theorem dc_Mo_asIn_59 : decode M_Mo_asIn.2.1 59 = .ok (.iconst 1, 1) := by decide +kernel
theorem dc_Mo_asIn_60 : decode M_Mo_asIn.2.1 60 = .ok (.goto 4, 3) := by decide +kernel
theorem dc_Mo_asIn_63 : decode M_Mo_asIn.2.1 63 = .ok (.iconst 0, 1) := by decide +kernel
theorem dc_Mo_asIn_64 : decode M_Mo_asIn.2.1 64 = .ok (.iload_n 3, 1) := by decide +kernel
theorem dc_Mo_asIn_65 : decode M_Mo_asIn.2.1 65 = .ok (.iload_n 2, 1) := by decide +kernel
theorem dc_Mo_asIn_66 : decode M_Mo_asIn.2.1 66 = .ok (.invokestatic 80, 3) := by decide +kernel
theorem dc_Mo_asIn_69 : decode M_Mo_asIn.2.1 69 = .ok (.ishl, 1) := by decide +kernel
theorem dc_Mo_asIn_70 : decode M_Mo_asIn.2.1 70 = .ok (.ior, 1) := by decide +kernel
theorem dc_Mo_asIn_71 : decode M_Mo_asIn.2.1 71 = .ok (.putfield 77, 3) := by decide +kernel
theorem dc_Mo_asIn_74 : decode M_Mo_asIn.2.1 74 = .ok (.iinc 3 1, 3) := by decide +kernel
theorem dc_Mo_asIn_77 : decode M_Mo_asIn.2.1 77 = .ok (.goto (-38), 3) := by decide +kernel
theorem dc_Mo_asIn_80 : decode M_Mo_asIn.2.1 80 = .ok (.iinc 2 1, 3) := by decide +kernel
theorem dc_Mo_asIn_83 : decode M_Mo_asIn.2.1 83 = .ok (.goto (-54), 3) := by decide +kernel
theorem dc_Mo_asIn_86 : decode M_Mo_asIn.2.1 86 = .ok (.aload_n 0, 1) := by decide +kernel
theorem dc_Mo_asIn_87 : decode M_Mo_asIn.2.1 87 = .ok (.getfield 77, 3) := by decide +kernel
theorem dc_Mo_asIn_90 : decode M_Mo_asIn.2.1 90 = .ok (.invokestatic 117, 3) := by decide +kernel
theorem dc_Mo_asIn_93 : decode M_Mo_asIn.2.1 93 = .ok (.ireturn, 1) := by decide +kernel
def f_Mo_asIn_L39 (a0 : Nat) (a1 : Int32) (a2 : Int32) : Nat → Int32 → xH → (Int32 → xH → Option (Int32 × xH)) → Option (Int32 × xH)
  | 0, _, _, _ => none
  | n + 1, a3, h, K => if a2 ≤ a3 then K a3 h else gd (hK h a0 = 11) (Option.bind (f_Mo_isSo a0 a1 a3 a2 h) (fun q20 => Option.bind (f_Mo_seat a3 a2 q20.2) (fun q23 => gd (hK q23.2 a0 = 11) (f_Mo_asIn_L39 a0 a1 a2 n (a3 + (1 : Int32)) (hIu q23.2 a0 8 ((hI h a0 8) ||| (jShl (if q20.1 = 0 then (0 : Int32) else (1 : Int32)) q23.1))) K))))
def f_Mo_asIn_L29 (a0 : Nat) (a1 : Int32) : Nat → Int32 → xH → (Int32 → xH → Option (Int32 × xH)) → Option (Int32 × xH)
  | 0, _, _, _ => none
  | n + 1, a2, h, K => gd (hK h a0 = 11) (if (hI h a0 7) ≤ a2 then K a2 h else f_Mo_asIn_L39 a0 a1 a2 fu (0 : Int32) h (fun v25 h26 => f_Mo_asIn_L29 a0 a1 n (a2 + (1 : Int32)) h26 K))
def f_Mo_asIn (a0 : Nat) (a1 : Int32) (h : xH) : Option (Int32 × xH) := gd (hK h a0 = 11) (Option.bind (f_Mo_isTown a0 a1 h) (fun q10 => if q10.1 = 0 then some ((-2 : Int32), q10.2) else gd (hK q10.2 a0 = 11) (Option.bind (f_Mo_allOf (hI (hIu q10.2 a0 8 (0 : Int32)) a0 7) (hIu q10.2 a0 8 (0 : Int32))) (fun q14 => gd (hK q14.2 a0 = 11) (f_Mo_asIn_L29 a0 a1 fu (1 : Int32) (hIu q14.2 a0 9 q14.1) (fun v27 h28 => gd (hK h28 a0 = 11) (Option.bind (f_Mo_bitsOf (hI h28 a0 8) h28) (fun q30 => some (q30.1, q30.2)))))))))
theorem t_Mo_asIn_L39 {l : Launch} {z : xZ} {d mc ms : Nat} {Ph : Option xV → xH → Prop} {a0 : Nat} {a1 : Int32} {a2 : Int32}  (hd : 2 ≤ d) : ∀ (n : Nat) (a3 : Int32) (h : xH) (K : Int32 → xH → Option (Int32 × xH)), OK (f_Mo_asIn_L39 a0 a1 a2 n a3 h K) (fun q => Ph (some (xI q.1)) q.2) → (∀ (a3 : Int32) (h : xH), OK (K a3 h) (fun q => Ph (some (xI q.1)) q.2) → Sx l z d mc ms M_Mo_asIn 80 [some (xR a0), some (xI a1), some (xI a2), some (xI a3)] [] h Ph) → Sx l z d mc ms M_Mo_asIn 39 [some (xR a0), some (xI a1), some (xI a2), some (xI a3)] [] h Ph := by
  intro n
  induction n with
  | zero => intro a3 h K hk hE; exact hk.no
  | succ n ih =>
    intro a3 h K hk hE
    rw [f_Mo_asIn_L39] at hk
    refine sx_iload_n dc_Mo_asIn_39 rfl ?_
    refine sx_iload_n dc_Mo_asIn_40 rfl ?_
    refine sx_icmp_ge (tgt := 80) dc_Mo_asIn_41 (by decide) (fun c18 => ?_) (fun c18 => ?_)
    · replace hk := hk.t c18
      exact hE a3 h hk
    · replace hk := hk.f c18
      refine sx_aload_n dc_Mo_asIn_44 rfl ?_
      refine sx_dup dc_Mo_asIn_45 rfl ?_
      obtain ⟨g19, hk⟩ := hk.g
      refine sx_get (ci := 11) (k := 8) rfl (by decide) wF_Mo_77 g19 dc_Mo_asIn_46 ?_
      refine sx_aload_n dc_Mo_asIn_49 rfl ?_
      refine sx_iload_n dc_Mo_asIn_50 rfl ?_
      refine sx_iload_n dc_Mo_asIn_51 rfl ?_
      refine sx_iload_n dc_Mo_asIn_52 rfl ?_
      obtain ⟨q20, eq20, hk⟩ := hk.bind
      refine sx_callV (d2 := d - 1) (mc2 := 0) (ms2 := 0) (as := [xI a1, xI a3, xI a2]) mk_Mo_isSo rfl (x_rk (ci := 11) g19 rfl rfl) wM_Mo_113 mi_Mo_isSo me_Mo_isSo rfl (Nat.le_of_ble_eq_true rfl) (Nat.le_of_ble_eq_true rfl) dc_Mo_asIn_53 (by omega) (Nat.zero_le _) (Nat.zero_le _) ?_
      refine t_Mo_isSo (by omega) ⟨q20, eq20, ?_⟩
      refine sx_eq0 (lc2 := [some (xR a0), some (xI a1), some (xI a2), some (xI a3)]) (st2 := [xI q20.1, xI (hI h a0 8), xR a0]) rfl rfl ?_
      refine sx_mg (pc2 := 64) (lc2 := [some (xR a0), some (xI a1), some (xI a2), some (xI a3)]) (st2 := [xI (if q20.1 = 0 then (0 : Int32) else (1 : Int32)), xI (hI h a0 8), xR a0]) (h2 := q20.2) ?_ (fun J21 => ?_)
      · refine sx_iload_n dc_Mo_asIn_64 rfl ?_
        refine sx_iload_n dc_Mo_asIn_65 rfl ?_
        obtain ⟨q23, eq23, hk⟩ := hk.bind
        refine sx_callS (d2 := d - 1) (mc2 := 0) (ms2 := 0) (as := [xI a3, xI a2]) mk_Mo_seat rfl wM_Mo_80 mt_Mo_seat rfl (Nat.le_of_ble_eq_true rfl) (Nat.le_of_ble_eq_true rfl) dc_Mo_asIn_66 (by omega) (Nat.zero_le _) (Nat.zero_le _) ?_
        refine t_Mo_seat (by omega) ⟨q23, eq23, ?_⟩
        refine sx_eq0 (lc2 := [some (xR a0), some (xI a1), some (xI a2), some (xI a3)]) (st2 := [xI q23.1, xI (if q20.1 = 0 then (0 : Int32) else (1 : Int32)), xI (hI h a0 8), xR a0]) rfl rfl ?_
        refine sx_ishl dc_Mo_asIn_69 ?_
        refine sx_ior dc_Mo_asIn_70 ?_
        obtain ⟨g24, hk⟩ := hk.g
        refine sx_putI (ci := 11) (k := 8) rfl (by decide) wF_Mo_77 rfl g24 (Or.inl rfl) dc_Mo_asIn_71 ?_
        refine sx_iinc (v := (1 : Int32)) dc_Mo_asIn_74 rfl (by decide) (by decide) (sx_eq (lc2 := [some (xR a0), some (xI a1), some (xI a2), some (xI (a3 + (1 : Int32)))]) rfl rfl ?_)
        refine sx_goto (tgt := 39) dc_Mo_asIn_77 (by decide) ?_
        exact ih (a3 + (1 : Int32)) (hIu q23.2 a0 8 ((hI h a0 8) ||| (jShl (if q20.1 = 0 then (0 : Int32) else (1 : Int32)) q23.1))) _ hk hE
      · refine sx_if_eq (tgt := 63) dc_Mo_asIn_56 (by decide) (fun c22 => ?_) (fun c22 => ?_)
        · try simp only [if_pos c22] at J21
          refine sx_iconst (v := (0 : Int32)) dc_Mo_asIn_63 (by decide) ?_
          exact J21
        · try simp only [if_neg c22] at J21
          refine sx_iconst (v := (1 : Int32)) dc_Mo_asIn_59 (by decide) ?_
          refine sx_goto (tgt := 64) dc_Mo_asIn_60 (by decide) ?_
          exact J21
theorem t_Mo_asIn_L29 {l : Launch} {z : xZ} {d mc ms : Nat} {Ph : Option xV → xH → Prop} {a0 : Nat} {a1 : Int32}  (hd : 2 ≤ d) : ∀ (n : Nat) (a2 : Int32) (h : xH) (K : Int32 → xH → Option (Int32 × xH)), OK (f_Mo_asIn_L29 a0 a1 n a2 h K) (fun q => Ph (some (xI q.1)) q.2) → (∀ (a2 : Int32) (h : xH), OK (K a2 h) (fun q => Ph (some (xI q.1)) q.2) → Sx l z d mc ms M_Mo_asIn 86 [some (xR a0), some (xI a1), some (xI a2), none] [] h Ph) → Sx l z d mc ms M_Mo_asIn 29 [some (xR a0), some (xI a1), some (xI a2), none] [] h Ph := by
  intro n
  induction n with
  | zero => intro a2 h K hk hE; exact hk.no
  | succ n ih =>
    intro a2 h K hk hE
    rw [f_Mo_asIn_L29] at hk
    refine sx_iload_n dc_Mo_asIn_29 rfl ?_
    refine sx_aload_n dc_Mo_asIn_30 rfl ?_
    obtain ⟨g16, hk⟩ := hk.g
    refine sx_get (ci := 11) (k := 7) rfl (by decide) wF_Mo_23 g16 dc_Mo_asIn_31 ?_
    refine sx_icmp_ge (tgt := 86) dc_Mo_asIn_34 (by decide) (fun c17 => ?_) (fun c17 => ?_)
    · replace hk := hk.t c17
      exact hE a2 h hk
    · replace hk := hk.f c17
      refine sx_iconst (v := (0 : Int32)) dc_Mo_asIn_37 (by decide) ?_
      refine sx_istore_n dc_Mo_asIn_38 (by decide) (sx_eq (lc2 := [some (xR a0), some (xI a1), some (xI a2), some (xI (0 : Int32))]) rfl rfl ?_)
      refine t_Mo_asIn_L39 (by omega) _ _ _ _ hk (fun v25 h26 hk => ?_)
      refine sx_iinc (v := (1 : Int32)) dc_Mo_asIn_80 rfl (by decide) (by decide) (sx_eq (lc2 := [some (xR a0), some (xI a1), some (xI (a2 + (1 : Int32))), some (xI v25)]) rfl rfl ?_)
      refine sx_goto (tgt := 29) dc_Mo_asIn_83 (by decide) ?_
      exact sx_less (by simp [x_le]) (ih (a2 + (1 : Int32)) h26 _ hk hE)
theorem t_Mo_asIn {l : Launch} {z : xZ} {d mc ms : Nat} {Ph : Option xV → xH → Prop} {a0 : Nat} {a1 : Int32}  {h : xH} (hd : 3 ≤ d) (hk : OK (f_Mo_asIn a0 a1 h) (fun q => Ph (some (xI q.1)) q.2)) : Sx l z d mc ms M_Mo_asIn 0 (x_en [xR a0, xI a1] 4) [] h Ph := by
  unfold f_Mo_asIn at hk
  refine sx_eq (lc2 := [some (xR a0), some (xI a1), none, none]) rfl rfl ?_
  refine sx_aload_n dc_Mo_asIn_0 rfl ?_
  refine sx_iload_n dc_Mo_asIn_1 rfl ?_
  obtain ⟨g11, hk⟩ := hk.g
  obtain ⟨q10, eq10, hk⟩ := hk.bind
  refine sx_callV (d2 := d - 1) (mc2 := 0) (ms2 := 0) (as := [xI a1]) mk_Mo_isTown rfl (x_rk (ci := 11) g11 rfl rfl) wM_Mo_110 mi_Mo_isTown me_Mo_isTown rfl (Nat.le_of_ble_eq_true rfl) (Nat.le_of_ble_eq_true rfl) dc_Mo_asIn_2 (by omega) (Nat.zero_le _) (Nat.zero_le _) ?_
  refine t_Mo_isTown (by omega) ⟨q10, eq10, ?_⟩
  refine sx_eq0 (lc2 := [some (xR a0), some (xI a1), none, none]) (st2 := [xI q10.1]) rfl rfl ?_
  refine sx_if_ne (tgt := 11) dc_Mo_asIn_5 (by decide) (fun c12 => ?_) (fun c12 => ?_)
  · replace hk := hk.f c12
    refine sx_aload_n dc_Mo_asIn_11 rfl ?_
    refine sx_iconst (v := (0 : Int32)) dc_Mo_asIn_12 (by decide) ?_
    obtain ⟨g13, hk⟩ := hk.g
    refine sx_putI (ci := 11) (k := 8) rfl (by decide) wF_Mo_77 rfl g13 (Or.inl rfl) dc_Mo_asIn_13 ?_
    refine sx_aload_n dc_Mo_asIn_16 rfl ?_
    refine sx_aload_n dc_Mo_asIn_17 rfl ?_
    refine sx_get (ci := 11) (k := 7) rfl (by decide) wF_Mo_23 g13 dc_Mo_asIn_18 ?_
    obtain ⟨q14, eq14, hk⟩ := hk.bind
    refine sx_callS (d2 := d - 1) (mc2 := 0) (ms2 := 0) (as := [xI (hI (hIu q10.2 a0 8 (0 : Int32)) a0 7)]) mk_Mo_allOf rfl wM_Mo_90 mt_Mo_allOf rfl (Nat.le_of_ble_eq_true rfl) (Nat.le_of_ble_eq_true rfl) dc_Mo_asIn_21 (by omega) (Nat.zero_le _) (Nat.zero_le _) ?_
    refine t_Mo_allOf (by omega) ⟨q14, eq14, ?_⟩
    refine sx_eq0 (lc2 := [some (xR a0), some (xI a1), none, none]) (st2 := [xI q14.1, xR a0]) rfl rfl ?_
    obtain ⟨g15, hk⟩ := hk.g
    refine sx_putI (ci := 11) (k := 9) rfl (by decide) wF_Mo_26 rfl g15 (Or.inl rfl) dc_Mo_asIn_24 ?_
    refine sx_iconst (v := (1 : Int32)) dc_Mo_asIn_27 (by decide) ?_
    refine sx_istore_n dc_Mo_asIn_28 (by decide) (sx_eq (lc2 := [some (xR a0), some (xI a1), some (xI (1 : Int32)), none]) rfl rfl ?_)
    refine t_Mo_asIn_L29 (by omega) _ _ _ _ hk (fun v27 h28 hk => ?_)
    refine sx_aload_n dc_Mo_asIn_86 rfl ?_
    obtain ⟨g29, hk⟩ := hk.g
    refine sx_get (ci := 11) (k := 8) rfl (by decide) wF_Mo_77 g29 dc_Mo_asIn_87 ?_
    obtain ⟨q30, eq30, hk⟩ := hk.bind
    refine sx_callS (d2 := d - 1) (mc2 := 0) (ms2 := 0) (as := [xI (hI h28 a0 8)]) mk_Mo_bitsOf rfl wM_Mo_117 mt_Mo_bitsOf rfl (Nat.le_of_ble_eq_true rfl) (Nat.le_of_ble_eq_true rfl) dc_Mo_asIn_90 (by omega) (Nat.zero_le _) (Nat.zero_le _) ?_
    refine t_Mo_bitsOf (by omega) ⟨q30, eq30, ?_⟩
    refine sx_eq0 (lc2 := [some (xR a0), some (xI a1), some (xI v27), none]) (st2 := [xI q30.1]) rfl rfl ?_
    exact sx_retI dc_Mo_asIn_93 rfl hk.val
  · replace hk := hk.t c12
    refine sx_bipush (v := (-2 : Int32)) dc_Mo_asIn_8 (by decide) ?_
    exact sx_retI dc_Mo_asIn_10 rfl hk.val
theorem dc_Mo_tells_0 : decode M_Mo_tells.2.1 0 = .ok (.aload_n 0, 1) := by decide +kernel
theorem dc_Mo_tells_1 : decode M_Mo_tells.2.1 1 = .ok (.iload_n 1, 1) := by decide +kernel
theorem dc_Mo_tells_2 : decode M_Mo_tells.2.1 2 = .ok (.invokevirtual 110, 3) := by decide +kernel
theorem dc_Mo_tells_5 : decode M_Mo_tells.2.1 5 = .ok (.ifCond .eq 28, 3) := by decide +kernel
theorem dc_Mo_tells_8 : decode M_Mo_tells.2.1 8 = .ok (.aload_n 0, 1) := by decide +kernel
theorem dc_Mo_tells_9 : decode M_Mo_tells.2.1 9 = .ok (.iload_n 2, 1) := by decide +kernel
theorem dc_Mo_tells_10 : decode M_Mo_tells.2.1 10 = .ok (.iload_n 3, 1) := by decide +kernel
theorem dc_Mo_tells_11 : decode M_Mo_tells.2.1 11 = .ok (.invokevirtual 94, 3) := by decide +kernel
theorem dc_Mo_tells_14 : decode M_Mo_tells.2.1 14 = .ok (.ifCond .eq 19, 3) := by decide +kernel
theorem dc_Mo_tells_17 : decode M_Mo_tells.2.1 17 = .ok (.iload_n 2, 1) := by decide +kernel
theorem dc_Mo_tells_18 : decode M_Mo_tells.2.1 18 = .ok (.iload_n 3, 1) := by decide +kernel
theorem dc_Mo_tells_19 : decode M_Mo_tells.2.1 19 = .ok (.if_icmp .gt 14, 3) := by decide +kernel
theorem dc_Mo_tells_22 : decode M_Mo_tells.2.1 22 = .ok (.iload 4, 2) := by decide +kernel
theorem dc_Mo_tells_24 : decode M_Mo_tells.2.1 24 = .ok (.i2l, 1) := by decide +kernel
theorem dc_Mo_tells_25 : decode M_Mo_tells.2.1 25 = .ok (.lconst 0, 1) := by decide +kernel
theorem dc_Mo_tells_26 : decode M_Mo_tells.2.1 26 = .ok (.lconst 1, 1) := by decide +kernel
theorem dc_Mo_tells_27 : decode M_Mo_tells.2.1 27 = .ok (.invokestatic 73, 3) := by decide +kernel
theorem dc_Mo_tells_30 : decode M_Mo_tells.2.1 30 = .ok (.ifCond .ne 6, 3) := by decide +kernel
theorem dc_Mo_tells_33 : decode M_Mo_tells.2.1 33 = .ok (.bipush (-2), 2) := by decide +kernel
theorem dc_Mo_tells_35 : decode M_Mo_tells.2.1 35 = .ok (.ireturn, 1) := by decide +kernel
theorem dc_Mo_tells_36 : decode M_Mo_tells.2.1 36 = .ok (.iload 4, 2) := by decide +kernel
theorem dc_Mo_tells_38 : decode M_Mo_tells.2.1 38 = .ok (.ifCond .ne 21, 3) := by decide +kernel
theorem dc_Mo_tells_41 : decode M_Mo_tells.2.1 41 = .ok (.aload_n 0, 1) := by decide +kernel
theorem dc_Mo_tells_42 : decode M_Mo_tells.2.1 42 = .ok (.iload_n 1, 1) := by decide +kernel
theorem dc_Mo_tells_43 : decode M_Mo_tells.2.1 43 = .ok (.iload_n 2, 1) := by decide +kernel
theorem dc_Mo_tells_44 : decode M_Mo_tells.2.1 44 = .ok (.iload_n 3, 1) := by decide +kernel
theorem dc_Mo_tells_45 : decode M_Mo_tells.2.1 45 = .ok (.invokevirtual 113, 3) := by decide +kernel
theorem dc_Mo_tells_48 : decode M_Mo_tells.2.1 48 = .ok (.ifCond .eq 7, 3) := by decide +kernel
theorem dc_Mo_tells_51 : decode M_Mo_tells.2.1 51 = .ok (.iconst 1, 1) := by decide +kernel
theorem dc_Mo_tells_52 : decode M_Mo_tells.2.1 52 = .ok (.goto 14, 3) := by decide +kernel
theorem dc_Mo_tells_55 : decode M_Mo_tells.2.1 55 = .ok (.iconst 0, 1) := by decide +kernel
theorem dc_Mo_tells_56 : decode M_Mo_tells.2.1 56 = .ok (.goto 10, 3) := by decide +kernel
theorem dc_Mo_tells_59 : decode M_Mo_tells.2.1 59 = .ok (.aload_n 0, 1) := by decide +kernel
theorem dc_Mo_tells_60 : decode M_Mo_tells.2.1 60 = .ok (.iload_n 1, 1) := by decide +kernel
theorem dc_Mo_tells_61 : decode M_Mo_tells.2.1 61 = .ok (.iload_n 2, 1) := by decide +kernel
theorem dc_Mo_tells_62 : decode M_Mo_tells.2.1 62 = .ok (.iload_n 3, 1) := by decide +kernel
theorem dc_Mo_tells_63 : decode M_Mo_tells.2.1 63 = .ok (.invokevirtual 120, 3) := by decide +kernel
theorem dc_Mo_tells_66 : decode M_Mo_tells.2.1 66 = .ok (.ireturn, 1) := by decide +kernel
def f_Mo_tells (a0 : Nat) (a1 : Int32) (a2 : Int32) (a3 : Int32) (a4 : Int32) (h : xH) : Option (Int32 × xH) := gd (hK h a0 = 11) (Option.bind (f_Mo_isTown a0 a1 h) (fun q10 => jn (fun (x12 : xH) => some ((-2 : Int32), x12)) (fun k13 => if q10.1 = 0 then k13 q10.2 else gd (hK q10.2 a0 = 11) (Option.bind (f_Mo_isPair a0 a2 a3 q10.2) (fun q15 => if q15.1 = 0 then k13 q15.2 else if a3 < a2 then k13 q15.2 else Option.bind (f_Mo_in a4.toInt64 (0 : Int64) (1 : Int64) q15.2) (fun q19 => if q19.1 = 0 then k13 q19.2 else jn (fun (x21 : Int32 × xH) => some (x21.1, x21.2)) (fun k22 => if a4 = 0 then gd (hK q19.2 a0 = 11) (Option.bind (f_Mo_isSo a0 a1 a2 a3 q19.2) (fun q26 => if q26.1 = 0 then k22 ((0 : Int32), q26.2) else k22 ((1 : Int32), q26.2))) else gd (hK q19.2 a0 = 11) (Option.bind (f_Mo_price a0 a1 a2 a3 q19.2) (fun q24 => k22 (q24.1, q24.2))))))))))
theorem t_Mo_tells {l : Launch} {z : xZ} {d mc ms : Nat} {Ph : Option xV → xH → Prop} {a0 : Nat} {a1 : Int32} {a2 : Int32} {a3 : Int32} {a4 : Int32}  {h : xH} (hd : 4 ≤ d) (hk : OK (f_Mo_tells a0 a1 a2 a3 a4 h) (fun q => Ph (some (xI q.1)) q.2)) : Sx l z d mc ms M_Mo_tells 0 (x_en [xR a0, xI a1, xI a2, xI a3, xI a4] 5) [] h Ph := by
  unfold f_Mo_tells at hk
  refine sx_eq (lc2 := [some (xR a0), some (xI a1), some (xI a2), some (xI a3), some (xI a4)]) rfl rfl ?_
  refine sx_aload_n dc_Mo_tells_0 rfl ?_
  refine sx_iload_n dc_Mo_tells_1 rfl ?_
  obtain ⟨g11, hk⟩ := hk.g
  obtain ⟨q10, eq10, hk⟩ := hk.bind
  refine sx_callV (d2 := d - 1) (mc2 := 0) (ms2 := 0) (as := [xI a1]) mk_Mo_isTown rfl (x_rk (ci := 11) g11 rfl rfl) wM_Mo_110 mi_Mo_isTown me_Mo_isTown rfl (Nat.le_of_ble_eq_true rfl) (Nat.le_of_ble_eq_true rfl) dc_Mo_tells_2 (by omega) (Nat.zero_le _) (Nat.zero_le _) ?_
  refine t_Mo_isTown (by omega) ⟨q10, eq10, ?_⟩
  refine sx_eq0 (lc2 := [some (xR a0), some (xI a1), some (xI a2), some (xI a3), some (xI a4)]) (st2 := [xI q10.1]) rfl rfl ?_
  refine hk.j (X := fun x12 => Sx l z d mc ms M_Mo_tells 33 [some (xR a0), some (xI a1), some (xI a2), some (xI a3), some (xI a4)] [] x12 Ph) (fun x12 hk => ?_) (fun k13 jk13 hk => ?_)
  · refine sx_bipush (v := (-2 : Int32)) dc_Mo_tells_33 (by decide) ?_
    exact sx_retI dc_Mo_tells_35 rfl hk.val
  · refine sx_if_eq (tgt := 33) dc_Mo_tells_5 (by decide) (fun c14 => ?_) (fun c14 => ?_)
    · replace hk := hk.t c14
      exact jk13 q10.2 hk
    · replace hk := hk.f c14
      refine sx_aload_n dc_Mo_tells_8 rfl ?_
      refine sx_iload_n dc_Mo_tells_9 rfl ?_
      refine sx_iload_n dc_Mo_tells_10 rfl ?_
      obtain ⟨g16, hk⟩ := hk.g
      obtain ⟨q15, eq15, hk⟩ := hk.bind
      refine sx_callV (d2 := d - 1) (mc2 := 0) (ms2 := 0) (as := [xI a2, xI a3]) mk_Mo_isPair rfl (x_rk (ci := 11) g16 rfl rfl) wM_Mo_94 mi_Mo_isPair me_Mo_isPair rfl (Nat.le_of_ble_eq_true rfl) (Nat.le_of_ble_eq_true rfl) dc_Mo_tells_11 (by omega) (Nat.zero_le _) (Nat.zero_le _) ?_
      refine t_Mo_isPair (by omega) ⟨q15, eq15, ?_⟩
      refine sx_eq0 (lc2 := [some (xR a0), some (xI a1), some (xI a2), some (xI a3), some (xI a4)]) (st2 := [xI q15.1]) rfl rfl ?_
      refine sx_if_eq (tgt := 33) dc_Mo_tells_14 (by decide) (fun c17 => ?_) (fun c17 => ?_)
      · replace hk := hk.t c17
        exact jk13 q15.2 hk
      · replace hk := hk.f c17
        refine sx_iload_n dc_Mo_tells_17 rfl ?_
        refine sx_iload_n dc_Mo_tells_18 rfl ?_
        refine sx_icmp_gt (tgt := 33) dc_Mo_tells_19 (by decide) (fun c18 => ?_) (fun c18 => ?_)
        · replace hk := hk.t c18
          exact jk13 q15.2 hk
        · replace hk := hk.f c18
          refine sx_iload dc_Mo_tells_22 rfl ?_
          refine sx_i2l dc_Mo_tells_24 ?_
          refine sx_lconst (v := 0) dc_Mo_tells_25 (by decide) ?_
          refine sx_lconst (v := 1) dc_Mo_tells_26 (by decide) ?_
          obtain ⟨q19, eq19, hk⟩ := hk.bind
          refine sx_callS (d2 := d - 1) (mc2 := 0) (ms2 := 0) (as := [xJ a4.toInt64, xJ (0 : Int64), xJ (1 : Int64)]) mk_Mo_in rfl wM_Mo_73 mt_Mo_in rfl (Nat.le_of_ble_eq_true rfl) (Nat.le_of_ble_eq_true rfl) dc_Mo_tells_27 (by omega) (Nat.zero_le _) (Nat.zero_le _) ?_
          refine t_Mo_in (by omega) ⟨q19, eq19, ?_⟩
          refine sx_eq0 (lc2 := [some (xR a0), some (xI a1), some (xI a2), some (xI a3), some (xI a4)]) (st2 := [xI q19.1]) rfl rfl ?_
          refine sx_if_ne (tgt := 36) dc_Mo_tells_30 (by decide) (fun c20 => ?_) (fun c20 => ?_)
          · replace hk := hk.f c20
            refine sx_iload dc_Mo_tells_36 rfl ?_
            refine hk.j (X := fun x21 => Sx l z d mc ms M_Mo_tells 66 [some (xR a0), some (xI a1), some (xI a2), some (xI a3), some (xI a4)] [xI x21.1] x21.2 Ph) (fun x21 hk => ?_) (fun k22 jk22 hk => ?_)
            · exact sx_retI dc_Mo_tells_66 rfl hk.val
            · refine sx_if_ne (tgt := 59) dc_Mo_tells_38 (by decide) (fun c23 => ?_) (fun c23 => ?_)
              · replace hk := hk.f c23
                refine sx_aload_n dc_Mo_tells_59 rfl ?_
                refine sx_iload_n dc_Mo_tells_60 rfl ?_
                refine sx_iload_n dc_Mo_tells_61 rfl ?_
                refine sx_iload_n dc_Mo_tells_62 rfl ?_
                obtain ⟨g25, hk⟩ := hk.g
                obtain ⟨q24, eq24, hk⟩ := hk.bind
                refine sx_callV (d2 := d - 1) (mc2 := 0) (ms2 := 0) (as := [xI a1, xI a2, xI a3]) mk_Mo_price rfl (x_rk (ci := 11) g25 rfl rfl) wM_Mo_120 mi_Mo_price me_Mo_price rfl (Nat.le_of_ble_eq_true rfl) (Nat.le_of_ble_eq_true rfl) dc_Mo_tells_63 (by omega) (Nat.zero_le _) (Nat.zero_le _) ?_
                refine t_Mo_price (by omega) ⟨q24, eq24, ?_⟩
                refine sx_eq0 (lc2 := [some (xR a0), some (xI a1), some (xI a2), some (xI a3), some (xI a4)]) (st2 := [xI q24.1]) rfl rfl ?_
                exact jk22 (q24.1, q24.2) hk
              · replace hk := hk.t c23
                refine sx_aload_n dc_Mo_tells_41 rfl ?_
                refine sx_iload_n dc_Mo_tells_42 rfl ?_
                refine sx_iload_n dc_Mo_tells_43 rfl ?_
                refine sx_iload_n dc_Mo_tells_44 rfl ?_
                obtain ⟨g27, hk⟩ := hk.g
                obtain ⟨q26, eq26, hk⟩ := hk.bind
                refine sx_callV (d2 := d - 1) (mc2 := 0) (ms2 := 0) (as := [xI a1, xI a2, xI a3]) mk_Mo_isSo rfl (x_rk (ci := 11) g27 rfl rfl) wM_Mo_113 mi_Mo_isSo me_Mo_isSo rfl (Nat.le_of_ble_eq_true rfl) (Nat.le_of_ble_eq_true rfl) dc_Mo_tells_45 (by omega) (Nat.zero_le _) (Nat.zero_le _) ?_
                refine t_Mo_isSo (by omega) ⟨q26, eq26, ?_⟩
                refine sx_eq0 (lc2 := [some (xR a0), some (xI a1), some (xI a2), some (xI a3), some (xI a4)]) (st2 := [xI q26.1]) rfl rfl ?_
                refine sx_if_eq (tgt := 55) dc_Mo_tells_48 (by decide) (fun c28 => ?_) (fun c28 => ?_)
                · replace hk := hk.t c28
                  refine sx_iconst (v := (0 : Int32)) dc_Mo_tells_55 (by decide) ?_
                  refine sx_goto (tgt := 66) dc_Mo_tells_56 (by decide) ?_
                  exact jk22 ((0 : Int32), q26.2) hk
                · replace hk := hk.f c28
                  refine sx_iconst (v := (1 : Int32)) dc_Mo_tells_51 (by decide) ?_
                  refine sx_goto (tgt := 66) dc_Mo_tells_52 (by decide) ?_
                  exact jk22 ((1 : Int32), q26.2) hk
          · replace hk := hk.t c20
            exact jk13 q19.2 hk
theorem dc_Mo_like_0 : decode M_Mo_like.2.1 0 = .ok (.aload_n 0, 1) := by decide +kernel
theorem dc_Mo_like_1 : decode M_Mo_like.2.1 1 = .ok (.iload_n 1, 1) := by decide +kernel
theorem dc_Mo_like_2 : decode M_Mo_like.2.1 2 = .ok (.invokevirtual 110, 3) := by decide +kernel
theorem dc_Mo_like_5 : decode M_Mo_like.2.1 5 = .ok (.ifCond .ne 6, 3) := by decide +kernel
theorem dc_Mo_like_8 : decode M_Mo_like.2.1 8 = .ok (.bipush (-2), 2) := by decide +kernel
theorem dc_Mo_like_10 : decode M_Mo_like.2.1 10 = .ok (.ireturn, 1) := by decide +kernel
theorem dc_Mo_like_11 : decode M_Mo_like.2.1 11 = .ok (.iconst 0, 1) := by decide +kernel
theorem dc_Mo_like_12 : decode M_Mo_like.2.1 12 = .ok (.istore_n 2, 1) := by decide +kernel
theorem dc_Mo_like_13 : decode M_Mo_like.2.1 13 = .ok (.iconst 1, 1) := by decide +kernel
theorem dc_Mo_like_14 : decode M_Mo_like.2.1 14 = .ok (.istore_n 3, 1) := by decide +kernel
theorem dc_Mo_like_15 : decode M_Mo_like.2.1 15 = .ok (.iload_n 3, 1) := by decide +kernel
theorem dc_Mo_like_16 : decode M_Mo_like.2.1 16 = .ok (.aload_n 0, 1) := by decide +kernel
theorem dc_Mo_like_17 : decode M_Mo_like.2.1 17 = .ok (.getfield 23, 3) := by decide +kernel
theorem dc_Mo_like_20 : decode M_Mo_like.2.1 20 = .ok (.if_icmp .ge 74, 3) := by decide +kernel
theorem dc_Mo_like_23 : decode M_Mo_like.2.1 23 = .ok (.iconst 0, 1) := by decide +kernel
theorem dc_Mo_like_24 : decode M_Mo_like.2.1 24 = .ok (.istore 4, 2) := by decide +kernel
theorem dc_Mo_like_26 : decode M_Mo_like.2.1 26 = .ok (.iload 4, 2) := by decide +kernel
theorem dc_Mo_like_28 : decode M_Mo_like.2.1 28 = .ok (.iload_n 3, 1) := by decide +kernel
theorem dc_Mo_like_29 : decode M_Mo_like.2.1 29 = .ok (.if_icmp .ge 59, 3) := by decide +kernel
theorem dc_Mo_like_32 : decode M_Mo_like.2.1 32 = .ok (.aload_n 0, 1) := by decide +kernel
theorem dc_Mo_like_33 : decode M_Mo_like.2.1 33 = .ok (.iload 4, 2) := by decide +kernel
theorem dc_Mo_like_35 : decode M_Mo_like.2.1 35 = .ok (.iload_n 3, 1) := by decide +kernel
theorem dc_Mo_like_36 : decode M_Mo_like.2.1 36 = .ok (.invokestatic 80, 3) := by decide +kernel
theorem dc_Mo_like_39 : decode M_Mo_like.2.1 39 = .ok (.invokevirtual 100, 3) := by decide +kernel
theorem dc_Mo_like_42 : decode M_Mo_like.2.1 42 = .ok (.istore 5, 2) := by decide +kernel
theorem dc_Mo_like_44 : decode M_Mo_like.2.1 44 = .ok (.iload 5, 2) := by decide +kernel
theorem dc_Mo_like_46 : decode M_Mo_like.2.1 46 = .ok (.iconst 2, 1) := by decide +kernel
theorem dc_Mo_like_47 : decode M_Mo_like.2.1 47 = .ok (.if_icmp .eq 35, 3) := by decide +kernel
theorem dc_Mo_like_50 : decode M_Mo_like.2.1 50 = .ok (.iload 5, 2) := by decide +kernel
theorem dc_Mo_like_52 : decode M_Mo_like.2.1 52 = .ok (.aload_n 0, 1) := by decide +kernel
theorem dc_Mo_like_53 : decode M_Mo_like.2.1 53 = .ok (.iload_n 1, 1) := by decide +kernel
theorem dc_Mo_like_54 : decode M_Mo_like.2.1 54 = .ok (.iload 4, 2) := by decide +kernel
theorem dc_Mo_like_56 : decode M_Mo_like.2.1 56 = .ok (.iload_n 3, 1) := by decide +kernel
theorem dc_Mo_like_57 : decode M_Mo_like.2.1 57 = .ok (.invokevirtual 113, 3) := by decide +kernel
theorem dc_Mo_like_60 : decode M_Mo_like.2.1 60 = .ok (.ifCond .eq 7, 3) := by decide +kernel
theorem dc_Mo_like_63 : decode M_Mo_like.2.1 63 = .ok (.iconst 1, 1) := by decide +kernel
theorem dc_Mo_like_64 : decode M_Mo_like.2.1 64 = .ok (.goto 4, 3) := by decide +kernel
theorem dc_Mo_like_67 : decode M_Mo_like.2.1 67 = .ok (.iconst 0, 1) := by decide +kernel
theorem dc_Mo_like_68 : decode M_Mo_like.2.1 68 = .ok (.if_icmp .eq 14, 3) := by decide +kernel
theorem dc_Mo_like_71 : decode M_Mo_like.2.1 71 = .ok (.iload_n 2, 1) := by decide +kernel
theorem dc_Mo_like_72 : decode M_Mo_like.2.1 72 = .ok (.aload_n 0, 1) := by decide +kernel
theorem dc_Mo_like_73 : decode M_Mo_like.2.1 73 = .ok (.iload_n 1, 1) := by decide +kernel
theorem dc_Mo_like_74 : decode M_Mo_like.2.1 74 = .ok (.iload 4, 2) := by decide +kernel
theorem dc_Mo_like_76 : decode M_Mo_like.2.1 76 = .ok (.iload_n 3, 1) := by decide +kernel
theorem dc_Mo_like_77 : decode M_Mo_like.2.1 77 = .ok (.invokevirtual 120, 3) := by decide +kernel
theorem dc_Mo_like_80 : decode M_Mo_like.2.1 80 = .ok (.iadd, 1) := by decide +kernel
theorem dc_Mo_like_81 : decode M_Mo_like.2.1 81 = .ok (.istore_n 2, 1) := by decide +kernel
theorem dc_Mo_like_82 : decode M_Mo_like.2.1 82 = .ok (.iinc 4 1, 3) := by decide +kernel
theorem dc_Mo_like_85 : decode M_Mo_like.2.1 85 = .ok (.goto (-59), 3) := by decide +kernel
theorem dc_Mo_like_88 : decode M_Mo_like.2.1 88 = .ok (.iinc 3 1, 3) := by decide +kernel
theorem dc_Mo_like_91 : decode M_Mo_like.2.1 91 = .ok (.goto (-76), 3) := by decide +kernel
theorem dc_Mo_like_94 : decode M_Mo_like.2.1 94 = .ok (.iload_n 2, 1) := by decide +kernel
theorem dc_Mo_like_95 : decode M_Mo_like.2.1 95 = .ok (.ireturn, 1) := by decide +kernel
def f_Mo_like_L26 (a0 : Nat) (a1 : Int32) (a3 : Int32) : Nat → Int32 → Int32 → xH → (Int32 → Int32 → xH → Option (Int32 × xH)) → Option (Int32 × xH)
  | 0, _, _, _, _ => none
  | n + 1, a2, a4, h, K => if a3 ≤ a4 then K a2 a4 h else Option.bind (f_Mo_seat a4 a3 h) (fun q17 => gd (hK q17.2 a0 = 11) (Option.bind (f_Mo_pairAt a0 q17.1 q17.2) (fun q18 => jn (fun (x20 : Int32 × xH) => f_Mo_like_L26 a0 a1 a3 n x20.1 (a4 + (1 : Int32)) x20.2 K) (fun k21 => if q18.1 = (2 : Int32) then k21 (a2, q18.2) else gd (hK q18.2 a0 = 11) (Option.bind (f_Mo_isSo a0 a1 a4 a3 q18.2) (fun q23 => if q18.1 = (if q23.1 = 0 then (0 : Int32) else (1 : Int32)) then k21 (a2, q23.2) else gd (hK q23.2 a0 = 11) (Option.bind (f_Mo_price a0 a1 a4 a3 q23.2) (fun q28 => k21 ((a2 + q28.1), q28.2)))))))))
def f_Mo_like_L15 (a0 : Nat) (a1 : Int32) : Nat → Int32 → Int32 → xH → (Int32 → Int32 → xH → Option (Int32 × xH)) → Option (Int32 × xH)
  | 0, _, _, _, _ => none
  | n + 1, a2, a3, h, K => gd (hK h a0 = 11) (if (hI h a0 7) ≤ a3 then K a2 a3 h else f_Mo_like_L26 a0 a1 a3 fu a2 (0 : Int32) h (fun v30 v31 h32 => f_Mo_like_L15 a0 a1 n v30 (a3 + (1 : Int32)) h32 K))
def f_Mo_like (a0 : Nat) (a1 : Int32) (h : xH) : Option (Int32 × xH) := gd (hK h a0 = 11) (Option.bind (f_Mo_isTown a0 a1 h) (fun q11 => if q11.1 = 0 then some ((-2 : Int32), q11.2) else f_Mo_like_L15 a0 a1 fu (0 : Int32) (1 : Int32) q11.2 (fun v33 v34 h35 => some (v33, h35))))
theorem t_Mo_like_L26 {l : Launch} {z : xZ} {d mc ms : Nat} {Ph : Option xV → xH → Prop} {a0 : Nat} {a1 : Int32} {a3 : Int32}  (hd : 2 ≤ d) : ∀ (n : Nat) (a2 : Int32) (a4 : Int32) (h : xH) (K : Int32 → Int32 → xH → Option (Int32 × xH)), OK (f_Mo_like_L26 a0 a1 a3 n a2 a4 h K) (fun q => Ph (some (xI q.1)) q.2) → (∀ (a2 : Int32) (a4 : Int32) (h : xH), OK (K a2 a4 h) (fun q => Ph (some (xI q.1)) q.2) → Sx l z d mc ms M_Mo_like 88 [some (xR a0), some (xI a1), some (xI a2), some (xI a3), some (xI a4), none] [] h Ph) → Sx l z d mc ms M_Mo_like 26 [some (xR a0), some (xI a1), some (xI a2), some (xI a3), some (xI a4), none] [] h Ph := by
  intro n
  induction n with
  | zero => intro a2 a4 h K hk hE; exact hk.no
  | succ n ih =>
    intro a2 a4 h K hk hE
    rw [f_Mo_like_L26] at hk
    refine sx_iload dc_Mo_like_26 rfl ?_
    refine sx_iload_n dc_Mo_like_28 rfl ?_
    refine sx_icmp_ge (tgt := 88) dc_Mo_like_29 (by decide) (fun c16 => ?_) (fun c16 => ?_)
    · replace hk := hk.t c16
      exact hE a2 a4 h hk
    · replace hk := hk.f c16
      refine sx_aload_n dc_Mo_like_32 rfl ?_
      refine sx_iload dc_Mo_like_33 rfl ?_
      refine sx_iload_n dc_Mo_like_35 rfl ?_
      obtain ⟨q17, eq17, hk⟩ := hk.bind
      refine sx_callS (d2 := d - 1) (mc2 := 0) (ms2 := 0) (as := [xI a4, xI a3]) mk_Mo_seat rfl wM_Mo_80 mt_Mo_seat rfl (Nat.le_of_ble_eq_true rfl) (Nat.le_of_ble_eq_true rfl) dc_Mo_like_36 (by omega) (Nat.zero_le _) (Nat.zero_le _) ?_
      refine t_Mo_seat (by omega) ⟨q17, eq17, ?_⟩
      refine sx_eq0 (lc2 := [some (xR a0), some (xI a1), some (xI a2), some (xI a3), some (xI a4), none]) (st2 := [xI q17.1, xR a0]) rfl rfl ?_
      obtain ⟨g19, hk⟩ := hk.g
      obtain ⟨q18, eq18, hk⟩ := hk.bind
      refine sx_callV (d2 := d - 1) (mc2 := 0) (ms2 := 0) (as := [xI q17.1]) mk_Mo_pairAt rfl (x_rk (ci := 11) g19 rfl rfl) wM_Mo_100 mi_Mo_pairAt me_Mo_pairAt rfl (Nat.le_of_ble_eq_true rfl) (Nat.le_of_ble_eq_true rfl) dc_Mo_like_39 (by omega) (Nat.zero_le _) (Nat.zero_le _) ?_
      refine t_Mo_pairAt (by omega) ⟨q18, eq18, ?_⟩
      refine sx_eq0 (lc2 := [some (xR a0), some (xI a1), some (xI a2), some (xI a3), some (xI a4), none]) (st2 := [xI q18.1]) rfl rfl ?_
      refine sx_istore dc_Mo_like_42 (by decide) (sx_eq (lc2 := [some (xR a0), some (xI a1), some (xI a2), some (xI a3), some (xI a4), some (xI q18.1)]) rfl rfl ?_)
      refine sx_iload dc_Mo_like_44 rfl ?_
      refine sx_iconst (v := (2 : Int32)) dc_Mo_like_46 (by decide) ?_
      refine hk.j (X := fun x20 => Sx l z d mc ms M_Mo_like 82 [some (xR a0), some (xI a1), some (xI x20.1), some (xI a3), some (xI a4), some (xI q18.1)] [] x20.2 Ph) (fun x20 hk => ?_) (fun k21 jk21 hk => ?_)
      · refine sx_iinc (v := (1 : Int32)) dc_Mo_like_82 rfl (by decide) (by decide) (sx_eq (lc2 := [some (xR a0), some (xI a1), some (xI x20.1), some (xI a3), some (xI (a4 + (1 : Int32))), some (xI q18.1)]) rfl rfl ?_)
        refine sx_goto (tgt := 26) dc_Mo_like_85 (by decide) ?_
        exact sx_less (by simp [x_le]) (ih x20.1 (a4 + (1 : Int32)) x20.2 _ hk hE)
      · refine sx_icmp_eq (tgt := 82) dc_Mo_like_47 (by decide) (fun c22 => ?_) (fun c22 => ?_)
        · replace hk := hk.t c22
          exact jk21 (a2, q18.2) hk
        · replace hk := hk.f c22
          refine sx_iload dc_Mo_like_50 rfl ?_
          refine sx_aload_n dc_Mo_like_52 rfl ?_
          refine sx_iload_n dc_Mo_like_53 rfl ?_
          refine sx_iload dc_Mo_like_54 rfl ?_
          refine sx_iload_n dc_Mo_like_56 rfl ?_
          obtain ⟨g24, hk⟩ := hk.g
          obtain ⟨q23, eq23, hk⟩ := hk.bind
          refine sx_callV (d2 := d - 1) (mc2 := 0) (ms2 := 0) (as := [xI a1, xI a4, xI a3]) mk_Mo_isSo rfl (x_rk (ci := 11) g24 rfl rfl) wM_Mo_113 mi_Mo_isSo me_Mo_isSo rfl (Nat.le_of_ble_eq_true rfl) (Nat.le_of_ble_eq_true rfl) dc_Mo_like_57 (by omega) (Nat.zero_le _) (Nat.zero_le _) ?_
          refine t_Mo_isSo (by omega) ⟨q23, eq23, ?_⟩
          refine sx_eq0 (lc2 := [some (xR a0), some (xI a1), some (xI a2), some (xI a3), some (xI a4), some (xI q18.1)]) (st2 := [xI q23.1, xI q18.1]) rfl rfl ?_
          refine sx_mg (pc2 := 68) (lc2 := [some (xR a0), some (xI a1), some (xI a2), some (xI a3), some (xI a4), some (xI q18.1)]) (st2 := [xI (if q23.1 = 0 then (0 : Int32) else (1 : Int32)), xI q18.1]) (h2 := q23.2) ?_ (fun J25 => ?_)
          · refine sx_icmp_eq (tgt := 82) dc_Mo_like_68 (by decide) (fun c27 => ?_) (fun c27 => ?_)
            · replace hk := hk.t c27
              exact jk21 (a2, q23.2) hk
            · replace hk := hk.f c27
              refine sx_iload_n dc_Mo_like_71 rfl ?_
              refine sx_aload_n dc_Mo_like_72 rfl ?_
              refine sx_iload_n dc_Mo_like_73 rfl ?_
              refine sx_iload dc_Mo_like_74 rfl ?_
              refine sx_iload_n dc_Mo_like_76 rfl ?_
              obtain ⟨g29, hk⟩ := hk.g
              obtain ⟨q28, eq28, hk⟩ := hk.bind
              refine sx_callV (d2 := d - 1) (mc2 := 0) (ms2 := 0) (as := [xI a1, xI a4, xI a3]) mk_Mo_price rfl (x_rk (ci := 11) g29 rfl rfl) wM_Mo_120 mi_Mo_price me_Mo_price rfl (Nat.le_of_ble_eq_true rfl) (Nat.le_of_ble_eq_true rfl) dc_Mo_like_77 (by omega) (Nat.zero_le _) (Nat.zero_le _) ?_
              refine t_Mo_price (by omega) ⟨q28, eq28, ?_⟩
              refine sx_eq0 (lc2 := [some (xR a0), some (xI a1), some (xI a2), some (xI a3), some (xI a4), some (xI q18.1)]) (st2 := [xI q28.1, xI a2]) rfl rfl ?_
              refine sx_iadd dc_Mo_like_80 ?_
              refine sx_istore_n dc_Mo_like_81 (by decide) (sx_eq (lc2 := [some (xR a0), some (xI a1), some (xI (a2 + q28.1)), some (xI a3), some (xI a4), some (xI q18.1)]) rfl rfl ?_)
              exact jk21 ((a2 + q28.1), q28.2) hk
          · refine sx_if_eq (tgt := 67) dc_Mo_like_60 (by decide) (fun c26 => ?_) (fun c26 => ?_)
            · try simp only [if_pos c26] at J25
              refine sx_iconst (v := (0 : Int32)) dc_Mo_like_67 (by decide) ?_
              exact J25
            · try simp only [if_neg c26] at J25
              refine sx_iconst (v := (1 : Int32)) dc_Mo_like_63 (by decide) ?_
              refine sx_goto (tgt := 68) dc_Mo_like_64 (by decide) ?_
              exact J25
theorem t_Mo_like_L15 {l : Launch} {z : xZ} {d mc ms : Nat} {Ph : Option xV → xH → Prop} {a0 : Nat} {a1 : Int32}  (hd : 2 ≤ d) : ∀ (n : Nat) (a2 : Int32) (a3 : Int32) (h : xH) (K : Int32 → Int32 → xH → Option (Int32 × xH)), OK (f_Mo_like_L15 a0 a1 n a2 a3 h K) (fun q => Ph (some (xI q.1)) q.2) → (∀ (a2 : Int32) (a3 : Int32) (h : xH), OK (K a2 a3 h) (fun q => Ph (some (xI q.1)) q.2) → Sx l z d mc ms M_Mo_like 94 [some (xR a0), some (xI a1), some (xI a2), some (xI a3), none, none] [] h Ph) → Sx l z d mc ms M_Mo_like 15 [some (xR a0), some (xI a1), some (xI a2), some (xI a3), none, none] [] h Ph := by
  intro n
  induction n with
  | zero => intro a2 a3 h K hk hE; exact hk.no
  | succ n ih =>
    intro a2 a3 h K hk hE
    rw [f_Mo_like_L15] at hk
    refine sx_iload_n dc_Mo_like_15 rfl ?_
    refine sx_aload_n dc_Mo_like_16 rfl ?_
    obtain ⟨g14, hk⟩ := hk.g
    refine sx_get (ci := 11) (k := 7) rfl (by decide) wF_Mo_23 g14 dc_Mo_like_17 ?_
    refine sx_icmp_ge (tgt := 94) dc_Mo_like_20 (by decide) (fun c15 => ?_) (fun c15 => ?_)
    · replace hk := hk.t c15
      exact hE a2 a3 h hk
    · replace hk := hk.f c15
      refine sx_iconst (v := (0 : Int32)) dc_Mo_like_23 (by decide) ?_
      refine sx_istore dc_Mo_like_24 (by decide) (sx_eq (lc2 := [some (xR a0), some (xI a1), some (xI a2), some (xI a3), some (xI (0 : Int32)), none]) rfl rfl ?_)
      refine t_Mo_like_L26 (by omega) _ _ _ _ _ hk (fun v30 v31 h32 hk => ?_)
      refine sx_iinc (v := (1 : Int32)) dc_Mo_like_88 rfl (by decide) (by decide) (sx_eq (lc2 := [some (xR a0), some (xI a1), some (xI v30), some (xI (a3 + (1 : Int32))), some (xI v31), none]) rfl rfl ?_)
      refine sx_goto (tgt := 15) dc_Mo_like_91 (by decide) ?_
      exact sx_less (by simp [x_le]) (ih v30 (a3 + (1 : Int32)) h32 _ hk hE)
theorem t_Mo_like {l : Launch} {z : xZ} {d mc ms : Nat} {Ph : Option xV → xH → Prop} {a0 : Nat} {a1 : Int32}  {h : xH} (hd : 3 ≤ d) (hk : OK (f_Mo_like a0 a1 h) (fun q => Ph (some (xI q.1)) q.2)) : Sx l z d mc ms M_Mo_like 0 (x_en [xR a0, xI a1] 6) [] h Ph := by
  unfold f_Mo_like at hk
  refine sx_eq (lc2 := [some (xR a0), some (xI a1), none, none, none, none]) rfl rfl ?_
  refine sx_aload_n dc_Mo_like_0 rfl ?_
  refine sx_iload_n dc_Mo_like_1 rfl ?_
  obtain ⟨g12, hk⟩ := hk.g
  obtain ⟨q11, eq11, hk⟩ := hk.bind
  refine sx_callV (d2 := d - 1) (mc2 := 0) (ms2 := 0) (as := [xI a1]) mk_Mo_isTown rfl (x_rk (ci := 11) g12 rfl rfl) wM_Mo_110 mi_Mo_isTown me_Mo_isTown rfl (Nat.le_of_ble_eq_true rfl) (Nat.le_of_ble_eq_true rfl) dc_Mo_like_2 (by omega) (Nat.zero_le _) (Nat.zero_le _) ?_
  refine t_Mo_isTown (by omega) ⟨q11, eq11, ?_⟩
  refine sx_eq0 (lc2 := [some (xR a0), some (xI a1), none, none, none, none]) (st2 := [xI q11.1]) rfl rfl ?_
  refine sx_if_ne (tgt := 11) dc_Mo_like_5 (by decide) (fun c13 => ?_) (fun c13 => ?_)
  · replace hk := hk.f c13
    refine sx_iconst (v := (0 : Int32)) dc_Mo_like_11 (by decide) ?_
    refine sx_istore_n dc_Mo_like_12 (by decide) (sx_eq (lc2 := [some (xR a0), some (xI a1), some (xI (0 : Int32)), none, none, none]) rfl rfl ?_)
    refine sx_iconst (v := (1 : Int32)) dc_Mo_like_13 (by decide) ?_
    refine sx_istore_n dc_Mo_like_14 (by decide) (sx_eq (lc2 := [some (xR a0), some (xI a1), some (xI (0 : Int32)), some (xI (1 : Int32)), none, none]) rfl rfl ?_)
    refine t_Mo_like_L15 (by omega) _ _ _ _ _ hk (fun v33 v34 h35 hk => ?_)
    refine sx_iload_n dc_Mo_like_94 rfl ?_
    exact sx_retI dc_Mo_like_95 rfl hk.val
  · replace hk := hk.t c13
    refine sx_bipush (v := (-2 : Int32)) dc_Mo_like_8 (by decide) ?_
    exact sx_retI dc_Mo_like_10 rfl hk.val
theorem dc_Mo_feed_0 : decode M_Mo_feed.2.1 0 = .ok (.iload_n 1, 1) := by decide +kernel
theorem dc_Mo_feed_1 : decode M_Mo_feed.2.1 1 = .ok (.i2l, 1) := by decide +kernel
theorem dc_Mo_feed_2 : decode M_Mo_feed.2.1 2 = .ok (.lconst 0, 1) := by decide +kernel
theorem dc_Mo_feed_3 : decode M_Mo_feed.2.1 3 = .ok (.ldc2_w 124, 3) := by decide +kernel
theorem dc_Mo_feed_6 : decode M_Mo_feed.2.1 6 = .ok (.invokestatic 73, 3) := by decide +kernel
theorem dc_Mo_feed_9 : decode M_Mo_feed.2.1 9 = .ok (.ifCond .ne 6, 3) := by decide +kernel
theorem dc_Mo_feed_12 : decode M_Mo_feed.2.1 12 = .ok (.bipush (-2), 2) := by decide +kernel
theorem dc_Mo_feed_14 : decode M_Mo_feed.2.1 14 = .ok (.ireturn, 1) := by decide +kernel
theorem dc_Mo_feed_15 : decode M_Mo_feed.2.1 15 = .ok (.aload_n 0, 1) := by decide +kernel
theorem dc_Mo_feed_16 : decode M_Mo_feed.2.1 16 = .ok (.getfield 126, 3) := by decide +kernel
theorem dc_Mo_feed_19 : decode M_Mo_feed.2.1 19 = .ok (.sipush 160, 3) := by decide +kernel
theorem dc_Mo_feed_22 : decode M_Mo_feed.2.1 22 = .ok (.if_icmp .ne 6, 3) := by decide +kernel
theorem dc_Mo_feed_25 : decode M_Mo_feed.2.1 25 = .ok (.bipush (-4), 2) := by decide +kernel
theorem dc_Mo_feed_27 : decode M_Mo_feed.2.1 27 = .ok (.ireturn, 1) := by decide +kernel
theorem dc_Mo_feed_28 : decode M_Mo_feed.2.1 28 = .ok (.aload_n 0, 1) := by decide +kernel
theorem dc_Mo_feed_29 : decode M_Mo_feed.2.1 29 = .ok (.getfield 20, 3) := by decide +kernel
theorem dc_Mo_feed_32 : decode M_Mo_feed.2.1 32 = .ok (.aload_n 0, 1) := by decide +kernel
theorem dc_Mo_feed_33 : decode M_Mo_feed.2.1 33 = .ok (.getfield 126, 3) := by decide +kernel
theorem dc_Mo_feed_36 : decode M_Mo_feed.2.1 36 = .ok (.iload_n 1, 1) := by decide +kernel
theorem dc_Mo_feed_37 : decode M_Mo_feed.2.1 37 = .ok (.iastore, 1) := by decide +kernel
theorem dc_Mo_feed_38 : decode M_Mo_feed.2.1 38 = .ok (.aload_n 0, 1) := by decide +kernel
theorem dc_Mo_feed_39 : decode M_Mo_feed.2.1 39 = .ok (.dup, 1) := by decide +kernel
theorem dc_Mo_feed_40 : decode M_Mo_feed.2.1 40 = .ok (.getfield 126, 3) := by decide +kernel
theorem dc_Mo_feed_43 : decode M_Mo_feed.2.1 43 = .ok (.iconst 1, 1) := by decide +kernel
theorem dc_Mo_feed_44 : decode M_Mo_feed.2.1 44 = .ok (.iadd, 1) := by decide +kernel
theorem dc_Mo_feed_45 : decode M_Mo_feed.2.1 45 = .ok (.putfield 126, 3) := by decide +kernel
theorem dc_Mo_feed_48 : decode M_Mo_feed.2.1 48 = .ok (.aload_n 0, 1) := by decide +kernel
theorem dc_Mo_feed_49 : decode M_Mo_feed.2.1 49 = .ok (.getfield 126, 3) := by decide +kernel
theorem dc_Mo_feed_52 : decode M_Mo_feed.2.1 52 = .ok (.ireturn, 1) := by decide +kernel
def f_Mo_feed (a0 : Nat) (a1 : Int32) (h : xH) : Option (Int32 × xH) := Option.bind (f_Mo_in a1.toInt64 (0 : Int64) (255 : Int64) h) (fun q5 => if q5.1 = 0 then some ((-2 : Int32), q5.2) else gd (hK q5.2 a0 = 11) (if (hI q5.2 a0 6) = (160 : Int32) then some ((-4 : Int32), q5.2) else gd (hK q5.2 (hR q5.2 a0 5) = 12) (gd (¬ ((hI q5.2 a0 6) < 0 ∨ hL q5.2 (hR q5.2 a0 5) ≤ (hI q5.2 a0 6).toNatClampNeg)) (hp (hIu (hIu q5.2 (hR q5.2 a0 5) (hI q5.2 a0 6).toNatClampNeg a1) a0 6 ((hI (hIu q5.2 (hR q5.2 a0 5) (hI q5.2 a0 6).toNatClampNeg a1) a0 6) + (1 : Int32))) (fun h11 => some (hI h11 a0 6, h11))))))
theorem t_Mo_feed {l : Launch} {z : xZ} {d mc ms : Nat} {Ph : Option xV → xH → Prop} {a0 : Nat} {a1 : Int32}  {h : xH} (hd : 2 ≤ d) (hk : OK (f_Mo_feed a0 a1 h) (fun q => Ph (some (xI q.1)) q.2)) : Sx l z d mc ms M_Mo_feed 0 (x_en [xR a0, xI a1] 2) [] h Ph := by
  unfold f_Mo_feed at hk
  refine sx_eq (lc2 := [some (xR a0), some (xI a1)]) rfl rfl ?_
  refine sx_iload_n dc_Mo_feed_0 rfl ?_
  refine sx_i2l dc_Mo_feed_1 ?_
  refine sx_lconst (v := 0) dc_Mo_feed_2 (by decide) ?_
  refine sx_ldc2 (v := 255) wJ_Mo_124 dc_Mo_feed_3 ?_
  obtain ⟨q5, eq5, hk⟩ := hk.bind
  refine sx_callS (d2 := d - 1) (mc2 := 0) (ms2 := 0) (as := [xJ a1.toInt64, xJ (0 : Int64), xJ (255 : Int64)]) mk_Mo_in rfl wM_Mo_73 mt_Mo_in rfl (Nat.le_of_ble_eq_true rfl) (Nat.le_of_ble_eq_true rfl) dc_Mo_feed_6 (by omega) (Nat.zero_le _) (Nat.zero_le _) ?_
  refine t_Mo_in (by omega) ⟨q5, eq5, ?_⟩
  refine sx_eq0 (lc2 := [some (xR a0), some (xI a1)]) (st2 := [xI q5.1]) rfl rfl ?_
  refine sx_if_ne (tgt := 15) dc_Mo_feed_9 (by decide) (fun c6 => ?_) (fun c6 => ?_)
  · replace hk := hk.f c6
    refine sx_aload_n dc_Mo_feed_15 rfl ?_
    obtain ⟨g7, hk⟩ := hk.g
    refine sx_get (ci := 11) (k := 6) rfl (by decide) wF_Mo_126 g7 dc_Mo_feed_16 ?_
    refine sx_sipush (v := (160 : Int32)) dc_Mo_feed_19 (by decide) ?_
    refine sx_icmp_ne (tgt := 28) dc_Mo_feed_22 (by decide) (fun c8 => ?_) (fun c8 => ?_)
    · replace hk := hk.f c8
      refine sx_aload_n dc_Mo_feed_28 rfl ?_
      refine sx_get (ci := 11) (k := 5) rfl (by decide) wF_Mo_20 g7 dc_Mo_feed_29 ?_
      refine sx_aload_n dc_Mo_feed_32 rfl ?_
      refine sx_get (ci := 11) (k := 6) rfl (by decide) wF_Mo_126 g7 dc_Mo_feed_33 ?_
      refine sx_iload_n dc_Mo_feed_36 rfl ?_
      obtain ⟨g9, hk⟩ := hk.g
      obtain ⟨g10, hk⟩ := hk.g
      refine sx_iast g9 g10 dc_Mo_feed_37 ?_
      refine sx_aload_n dc_Mo_feed_38 rfl ?_
      refine sx_dup dc_Mo_feed_39 rfl ?_
      refine sx_get (ci := 11) (k := 6) rfl (by decide) wF_Mo_126 g7 dc_Mo_feed_40 ?_
      refine sx_iconst (v := (1 : Int32)) dc_Mo_feed_43 (by decide) ?_
      refine sx_iadd dc_Mo_feed_44 ?_
      refine sx_putI (ci := 11) (k := 6) rfl (by decide) wF_Mo_126 rfl g7 (Or.inl rfl) dc_Mo_feed_45 ?_
      obtain ⟨h11, eh11, hk⟩ := hk.h
      refine sx_hp eh11 ?_
      have g12 : hK h11 a0 = 11 := by rw [eh11]; exact g7
      have g13 : hK h11 (hR q5.2 a0 5) = 12 := by rw [eh11]; exact g9
      refine sx_aload_n dc_Mo_feed_48 rfl ?_
      refine sx_get (ci := 11) (k := 6) rfl (by decide) wF_Mo_126 g12 dc_Mo_feed_49 ?_
      exact sx_retI dc_Mo_feed_52 rfl hk.val
    · replace hk := hk.t c8
      refine sx_bipush (v := (-4 : Int32)) dc_Mo_feed_25 (by decide) ?_
      exact sx_retI dc_Mo_feed_27 rfl hk.val
  · replace hk := hk.t c6
    refine sx_bipush (v := (-2 : Int32)) dc_Mo_feed_12 (by decide) ?_
    exact sx_retI dc_Mo_feed_14 rfl hk.val
